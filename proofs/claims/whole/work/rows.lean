section
-- ===== PART A: goes FIRST, ahead of the names: the tables' words, and 'selects' of the private methods out of them =====
/-- a private method of a class that the tables say can be made, by its rows of tables_1 -/
def lw_okq (q : MethodName × Nat) : Prop := (q.1.cls ≠ "java/lang/invoke/MethodHandle" ∧ q.1.cls ≠ "java/lang/invoke/VarHandle") ∧ Cond.instantiable q.1.cls q.2 ∈ tables_1 ∧ Cond.privateMethod q.1 ∈ tables_1 ∧ Cond.instanceMethod q.1 ∈ tables_1
theorem lw_p0 : lw_okq (⟨"LampFeast", "finding", "(I)I"⟩, 8) := ⟨⟨by decide +kernel, by decide +kernel⟩, List.mem_of_getElem? (i := 13) (by decide +kernel), List.mem_of_getElem? (i := 283) (by decide +kernel), List.mem_of_getElem? (i := 284) (by decide +kernel)⟩
theorem lw_p1 : lw_okq (⟨"LampFeast", "isUp", "(II)Z"⟩, 8) := ⟨⟨by decide +kernel, by decide +kernel⟩, List.mem_of_getElem? (i := 13) (by decide +kernel), List.mem_of_getElem? (i := 300) (by decide +kernel), List.mem_of_getElem? (i := 301) (by decide +kernel)⟩
theorem lw_p2 : lw_okq (⟨"LampFeast", "darkNow", "(I)Z"⟩, 8) := ⟨⟨by decide +kernel, by decide +kernel⟩, List.mem_of_getElem? (i := 13) (by decide +kernel), List.mem_of_getElem? (i := 349) (by decide +kernel), List.mem_of_getElem? (i := 350) (by decide +kernel)⟩
theorem lw_p3 : lw_okq (⟨"LampFeast$Branches", "surveyDark", "()V"⟩, 7) := ⟨⟨by decide +kernel, by decide +kernel⟩, List.mem_of_getElem? (i := 122) (by decide +kernel), List.mem_of_getElem? (i := 357) (by decide +kernel), List.mem_of_getElem? (i := 358) (by decide +kernel)⟩
theorem lw_p4 : lw_okq (⟨"LampFeast$Branches", "surveyLoads", "()V"⟩, 7) := ⟨⟨by decide +kernel, by decide +kernel⟩, List.mem_of_getElem? (i := 122) (by decide +kernel), List.mem_of_getElem? (i := 361) (by decide +kernel), List.mem_of_getElem? (i := 362) (by decide +kernel)⟩
theorem lw_p5 : lw_okq (⟨"LampFeast$Branches", "surveyFalls", "()V"⟩, 7) := ⟨⟨by decide +kernel, by decide +kernel⟩, List.mem_of_getElem? (i := 122) (by decide +kernel), List.mem_of_getElem? (i := 369) (by decide +kernel), List.mem_of_getElem? (i := 370) (by decide +kernel)⟩
theorem lw_p6 : lw_okq (⟨"LampFeast$Branches", "lastOverloaded", "()I"⟩, 7) := ⟨⟨by decide +kernel, by decide +kernel⟩, List.mem_of_getElem? (i := 122) (by decide +kernel), List.mem_of_getElem? (i := 412) (by decide +kernel), List.mem_of_getElem? (i := 413) (by decide +kernel)⟩
theorem lw_p7 : lw_okq (⟨"LampFeast$FuseSearch", "costWithFuse", "(I)I"⟩, 4) := ⟨⟨by decide +kernel, by decide +kernel⟩, List.mem_of_getElem? (i := 156) (by decide +kernel), List.mem_of_getElem? (i := 427) (by decide +kernel), List.mem_of_getElem? (i := 428) (by decide +kernel)⟩
theorem lw_p8 : lw_okq (⟨"LampFeast$FuseSearch", "joinToUp", "(III)V"⟩, 4) := ⟨⟨by decide +kernel, by decide +kernel⟩, List.mem_of_getElem? (i := 156) (by decide +kernel), List.mem_of_getElem? (i := 439) (by decide +kernel), List.mem_of_getElem? (i := 440) (by decide +kernel)⟩
theorem lw_p9 : lw_okq (⟨"LampFeast$FuseSearch", "costWithout", "(II)I"⟩, 4) := ⟨⟨by decide +kernel, by decide +kernel⟩, List.mem_of_getElem? (i := 156) (by decide +kernel), List.mem_of_getElem? (i := 443) (by decide +kernel), List.mem_of_getElem? (i := 444) (by decide +kernel)⟩
theorem lw_p10 : lw_okq (⟨"LampFeast$Nights", "clearNights", "()V"⟩, 10) := ⟨⟨by decide +kernel, by decide +kernel⟩, List.mem_of_getElem? (i := 176) (by decide +kernel), List.mem_of_getElem? (i := 521) (by decide +kernel), List.mem_of_getElem? (i := 522) (by decide +kernel)⟩
theorem lw_p11 : lw_okq (⟨"LampFeast$Nights", "endWith", "(I)I"⟩, 10) := ⟨⟨by decide +kernel, by decide +kernel⟩, List.mem_of_getElem? (i := 176) (by decide +kernel), List.mem_of_getElem? (i := 525) (by decide +kernel), List.mem_of_getElem? (i := 526) (by decide +kernel)⟩
theorem lw_p12 : lw_okq (⟨"LampFeast$Nights", "freeCrew", "(II)I"⟩, 10) := ⟨⟨by decide +kernel, by decide +kernel⟩, List.mem_of_getElem? (i := 176) (by decide +kernel), List.mem_of_getElem? (i := 534) (by decide +kernel), List.mem_of_getElem? (i := 535) (by decide +kernel)⟩
theorem lw_p13 : lw_okq (⟨"LampFeast$Nights", "tryFrom", "(III)V"⟩, 10) := ⟨⟨by decide +kernel, by decide +kernel⟩, List.mem_of_getElem? (i := 176) (by decide +kernel), List.mem_of_getElem? (i := 554) (by decide +kernel), List.mem_of_getElem? (i := 555) (by decide +kernel)⟩
theorem lw_p14 : lw_okq (⟨"LampFeast$Nights", "keepTrial", "(I)V"⟩, 10) := ⟨⟨by decide +kernel, by decide +kernel⟩, List.mem_of_getElem? (i := 176) (by decide +kernel), List.mem_of_getElem? (i := 558) (by decide +kernel), List.mem_of_getElem? (i := 559) (by decide +kernel)⟩
theorem lw_p15 : lw_okq (⟨"LampFeast$Nights", "takeDown", "(I)V"⟩, 10) := ⟨⟨by decide +kernel, by decide +kernel⟩, List.mem_of_getElem? (i := 176) (by decide +kernel), List.mem_of_getElem? (i := 562) (by decide +kernel), List.mem_of_getElem? (i := 563) (by decide +kernel)⟩
def lw_privs_1 : List (MethodName × Nat) := [(⟨"LampFeast", "finding", "(I)I"⟩, 8), (⟨"LampFeast", "isUp", "(II)Z"⟩, 8), (⟨"LampFeast", "darkNow", "(I)Z"⟩, 8), (⟨"LampFeast$Branches", "surveyDark", "()V"⟩, 7), (⟨"LampFeast$Branches", "surveyLoads", "()V"⟩, 7), (⟨"LampFeast$Branches", "surveyFalls", "()V"⟩, 7), (⟨"LampFeast$Branches", "lastOverloaded", "()I"⟩, 7), (⟨"LampFeast$FuseSearch", "costWithFuse", "(I)I"⟩, 4), (⟨"LampFeast$FuseSearch", "joinToUp", "(III)V"⟩, 4), (⟨"LampFeast$FuseSearch", "costWithout", "(II)I"⟩, 4), (⟨"LampFeast$Nights", "clearNights", "()V"⟩, 10), (⟨"LampFeast$Nights", "endWith", "(I)I"⟩, 10), (⟨"LampFeast$Nights", "freeCrew", "(II)I"⟩, 10), (⟨"LampFeast$Nights", "tryFrom", "(III)V"⟩, 10), (⟨"LampFeast$Nights", "keepTrial", "(I)V"⟩, 10), (⟨"LampFeast$Nights", "takeDown", "(I)V"⟩, 10)]
theorem lw_r1 : ∀ q ∈ lw_privs_1, lw_okq q := List.forall_mem_cons.mpr ⟨lw_p0, List.forall_mem_cons.mpr ⟨lw_p1, List.forall_mem_cons.mpr ⟨lw_p2, List.forall_mem_cons.mpr ⟨lw_p3, List.forall_mem_cons.mpr ⟨lw_p4, List.forall_mem_cons.mpr ⟨lw_p5, List.forall_mem_cons.mpr ⟨lw_p6, List.forall_mem_cons.mpr ⟨lw_p7, List.forall_mem_cons.mpr ⟨lw_p8, List.forall_mem_cons.mpr ⟨lw_p9, List.forall_mem_cons.mpr ⟨lw_p10, List.forall_mem_cons.mpr ⟨lw_p11, List.forall_mem_cons.mpr ⟨lw_p12, List.forall_mem_cons.mpr ⟨lw_p13, List.forall_mem_cons.mpr ⟨lw_p14, List.forall_mem_cons.mpr ⟨lw_p15, fun _ h => absurd h List.not_mem_nil⟩⟩⟩⟩⟩⟩⟩⟩⟩⟩⟩⟩⟩⟩⟩⟩
theorem lw_p16 : lw_okq (⟨"LampFeast$Bills", "allFronts", "()I"⟩, 2) := ⟨⟨by decide +kernel, by decide +kernel⟩, List.mem_of_getElem? (i := 221) (by decide +kernel), List.mem_of_getElem? (i := 583) (by decide +kernel), List.mem_of_getElem? (i := 584) (by decide +kernel)⟩
theorem lw_p17 : lw_okq (⟨"LampFeast", "countDead", "()I"⟩, 8) := ⟨⟨by decide +kernel, by decide +kernel⟩, List.mem_of_getElem? (i := 13) (by decide +kernel), List.mem_of_getElem? (i := 638) (by decide +kernel), List.mem_of_getElem? (i := 639) (by decide +kernel)⟩
theorem lw_p18 : lw_okq (⟨"LampFeast", "countDark", "()I"⟩, 8) := ⟨⟨by decide +kernel, by decide +kernel⟩, List.mem_of_getElem? (i := 13) (by decide +kernel), List.mem_of_getElem? (i := 642) (by decide +kernel), List.mem_of_getElem? (i := 643) (by decide +kernel)⟩
theorem lw_p19 : lw_okq (⟨"LampFeastModel", "finds", "(I)I"⟩, 37) := ⟨⟨by decide +kernel, by decide +kernel⟩, List.mem_of_getElem? (i := 650) (by decide +kernel), List.mem_of_getElem? (i := 775) (by decide +kernel), List.mem_of_getElem? (i := 776) (by decide +kernel)⟩
theorem lw_p20 : lw_okq (⟨"LampFeastModel", "isString", "(I)Z"⟩, 37) := ⟨⟨by decide +kernel, by decide +kernel⟩, List.mem_of_getElem? (i := 650) (by decide +kernel), List.mem_of_getElem? (i := 784) (by decide +kernel), List.mem_of_getElem? (i := 785) (by decide +kernel)⟩
theorem lw_p21 : lw_okq (⟨"LampFeastModel", "lampsLeft", "()I"⟩, 37) := ⟨⟨by decide +kernel, by decide +kernel⟩, List.mem_of_getElem? (i := 650) (by decide +kernel), List.mem_of_getElem? (i := 788) (by decide +kernel), List.mem_of_getElem? (i := 789) (by decide +kernel)⟩
theorem lw_p22 : lw_okq (⟨"LampFeastModel", "taken", "()I"⟩, 37) := ⟨⟨by decide +kernel, by decide +kernel⟩, List.mem_of_getElem? (i := 650) (by decide +kernel), List.mem_of_getElem? (i := 792) (by decide +kernel), List.mem_of_getElem? (i := 793) (by decide +kernel)⟩
theorem lw_p23 : lw_okq (⟨"LampFeastModel", "dies", "(I)V"⟩, 37) := ⟨⟨by decide +kernel, by decide +kernel⟩, List.mem_of_getElem? (i := 650) (by decide +kernel), List.mem_of_getElem? (i := 805) (by decide +kernel), List.mem_of_getElem? (i := 806) (by decide +kernel)⟩
theorem lw_p24 : lw_okq (⟨"LampFeastModel", "isDark", "(I)Z"⟩, 37) := ⟨⟨by decide +kernel, by decide +kernel⟩, List.mem_of_getElem? (i := 650) (by decide +kernel), List.mem_of_getElem? (i := 813) (by decide +kernel), List.mem_of_getElem? (i := 814) (by decide +kernel)⟩
theorem lw_p25 : lw_okq (⟨"LampFeastModel", "loadOf", "(I)I"⟩, 37) := ⟨⟨by decide +kernel, by decide +kernel⟩, List.mem_of_getElem? (i := 650) (by decide +kernel), List.mem_of_getElem? (i := 821) (by decide +kernel), List.mem_of_getElem? (i := 822) (by decide +kernel)⟩
theorem lw_p26 : lw_okq (⟨"LampFeastModel", "flow", "()V"⟩, 37) := ⟨⟨by decide +kernel, by decide +kernel⟩, List.mem_of_getElem? (i := 650) (by decide +kernel), List.mem_of_getElem? (i := 829) (by decide +kernel), List.mem_of_getElem? (i := 830) (by decide +kernel)⟩
theorem lw_p27 : lw_okq (⟨"LampFeastModel", "wrong", "(I)I"⟩, 37) := ⟨⟨by decide +kernel, by decide +kernel⟩, List.mem_of_getElem? (i := 650) (by decide +kernel), List.mem_of_getElem? (i := 833) (by decide +kernel), List.mem_of_getElem? (i := 834) (by decide +kernel)⟩
theorem lw_p28 : lw_okq (⟨"LampFeastModel", "bears", "(I)I"⟩, 37) := ⟨⟨by decide +kernel, by decide +kernel⟩, List.mem_of_getElem? (i := 650) (by decide +kernel), List.mem_of_getElem? (i := 837) (by decide +kernel), List.mem_of_getElem? (i := 838) (by decide +kernel)⟩
theorem lw_p29 : lw_okq (⟨"LampFeastModel", "bestSet", "()I"⟩, 37) := ⟨⟨by decide +kernel, by decide +kernel⟩, List.mem_of_getElem? (i := 650) (by decide +kernel), List.mem_of_getElem? (i := 854) (by decide +kernel), List.mem_of_getElem? (i := 855) (by decide +kernel)⟩
theorem lw_p30 : lw_okq (⟨"LampFeastModel", "few", "()I"⟩, 37) := ⟨⟨by decide +kernel, by decide +kernel⟩, List.mem_of_getElem? (i := 650) (by decide +kernel), List.mem_of_getElem? (i := 858) (by decide +kernel), List.mem_of_getElem? (i := 859) (by decide +kernel)⟩
theorem lw_p31 : lw_okq (⟨"LampFeastModel", "mayHave", "(I)Z"⟩, 37) := ⟨⟨by decide +kernel, by decide +kernel⟩, List.mem_of_getElem? (i := 650) (by decide +kernel), List.mem_of_getElem? (i := 862) (by decide +kernel), List.mem_of_getElem? (i := 863) (by decide +kernel)⟩
def lw_privs_2 : List (MethodName × Nat) := [(⟨"LampFeast$Bills", "allFronts", "()I"⟩, 2), (⟨"LampFeast", "countDead", "()I"⟩, 8), (⟨"LampFeast", "countDark", "()I"⟩, 8), (⟨"LampFeastModel", "finds", "(I)I"⟩, 37), (⟨"LampFeastModel", "isString", "(I)Z"⟩, 37), (⟨"LampFeastModel", "lampsLeft", "()I"⟩, 37), (⟨"LampFeastModel", "taken", "()I"⟩, 37), (⟨"LampFeastModel", "dies", "(I)V"⟩, 37), (⟨"LampFeastModel", "isDark", "(I)Z"⟩, 37), (⟨"LampFeastModel", "loadOf", "(I)I"⟩, 37), (⟨"LampFeastModel", "flow", "()V"⟩, 37), (⟨"LampFeastModel", "wrong", "(I)I"⟩, 37), (⟨"LampFeastModel", "bears", "(I)I"⟩, 37), (⟨"LampFeastModel", "bestSet", "()I"⟩, 37), (⟨"LampFeastModel", "few", "()I"⟩, 37), (⟨"LampFeastModel", "mayHave", "(I)Z"⟩, 37)]
theorem lw_r2 : ∀ q ∈ lw_privs_2, lw_okq q := List.forall_mem_cons.mpr ⟨lw_p16, List.forall_mem_cons.mpr ⟨lw_p17, List.forall_mem_cons.mpr ⟨lw_p18, List.forall_mem_cons.mpr ⟨lw_p19, List.forall_mem_cons.mpr ⟨lw_p20, List.forall_mem_cons.mpr ⟨lw_p21, List.forall_mem_cons.mpr ⟨lw_p22, List.forall_mem_cons.mpr ⟨lw_p23, List.forall_mem_cons.mpr ⟨lw_p24, List.forall_mem_cons.mpr ⟨lw_p25, List.forall_mem_cons.mpr ⟨lw_p26, List.forall_mem_cons.mpr ⟨lw_p27, List.forall_mem_cons.mpr ⟨lw_p28, List.forall_mem_cons.mpr ⟨lw_p29, List.forall_mem_cons.mpr ⟨lw_p30, List.forall_mem_cons.mpr ⟨lw_p31, fun _ h => absurd h List.not_mem_nil⟩⟩⟩⟩⟩⟩⟩⟩⟩⟩⟩⟩⟩⟩⟩⟩
theorem lw_p32 : lw_okq (⟨"LampFeastModel", "mayLack", "(II)Z"⟩, 37) := ⟨⟨by decide +kernel, by decide +kernel⟩, List.mem_of_getElem? (i := 650) (by decide +kernel), List.mem_of_getElem? (i := 866) (by decide +kernel), List.mem_of_getElem? (i := 867) (by decide +kernel)⟩
theorem lw_p33 : lw_okq (⟨"LampFeastModel", "placeOf", "(I)I"⟩, 37) := ⟨⟨by decide +kernel, by decide +kernel⟩, List.mem_of_getElem? (i := 650) (by decide +kernel), List.mem_of_getElem? (i := 908) (by decide +kernel), List.mem_of_getElem? (i := 909) (by decide +kernel)⟩
theorem lw_p34 : lw_okq (⟨"LampFeastModel", "ends", "([I)I"⟩, 37) := ⟨⟨by decide +kernel, by decide +kernel⟩, List.mem_of_getElem? (i := 650) (by decide +kernel), List.mem_of_getElem? (i := 916) (by decide +kernel), List.mem_of_getElem? (i := 917) (by decide +kernel)⟩
theorem lw_p35 : lw_okq (⟨"LampFeastModel", "hangs", "(I)V"⟩, 37) := ⟨⟨by decide +kernel, by decide +kernel⟩, List.mem_of_getElem? (i := 650) (by decide +kernel), List.mem_of_getElem? (i := 920) (by decide +kernel), List.mem_of_getElem? (i := 921) (by decide +kernel)⟩
theorem lw_p36 : lw_okq (⟨"LampFeastModel", "wants", "(I)I"⟩, 37) := ⟨⟨by decide +kernel, by decide +kernel⟩, List.mem_of_getElem? (i := 650) (by decide +kernel), List.mem_of_getElem? (i := 924) (by decide +kernel), List.mem_of_getElem? (i := 925) (by decide +kernel)⟩
theorem lw_p37 : lw_okq (⟨"LampFeastModel", "lay", "(II)V"⟩, 37) := ⟨⟨by decide +kernel, by decide +kernel⟩, List.mem_of_getElem? (i := 650) (by decide +kernel), List.mem_of_getElem? (i := 936) (by decide +kernel), List.mem_of_getElem? (i := 937) (by decide +kernel)⟩
theorem lw_p38 : lw_okq (⟨"LampFeastModel", "isLamp", "(II)Z"⟩, 37) := ⟨⟨by decide +kernel, by decide +kernel⟩, List.mem_of_getElem? (i := 650) (by decide +kernel), List.mem_of_getElem? (i := 957) (by decide +kernel), List.mem_of_getElem? (i := 958) (by decide +kernel)⟩
def lw_privs_3 : List (MethodName × Nat) := [(⟨"LampFeastModel", "mayLack", "(II)Z"⟩, 37), (⟨"LampFeastModel", "placeOf", "(I)I"⟩, 37), (⟨"LampFeastModel", "ends", "([I)I"⟩, 37), (⟨"LampFeastModel", "hangs", "(I)V"⟩, 37), (⟨"LampFeastModel", "wants", "(I)I"⟩, 37), (⟨"LampFeastModel", "lay", "(II)V"⟩, 37), (⟨"LampFeastModel", "isLamp", "(II)Z"⟩, 37)]
theorem lw_r3 : ∀ q ∈ lw_privs_3, lw_okq q := List.forall_mem_cons.mpr ⟨lw_p32, List.forall_mem_cons.mpr ⟨lw_p33, List.forall_mem_cons.mpr ⟨lw_p34, List.forall_mem_cons.mpr ⟨lw_p35, List.forall_mem_cons.mpr ⟨lw_p36, List.forall_mem_cons.mpr ⟨lw_p37, List.forall_mem_cons.mpr ⟨lw_p38, fun _ h => absurd h List.not_mem_nil⟩⟩⟩⟩⟩⟩⟩
def lw_privs : List (MethodName × Nat) := lw_privs_1 ++ (lw_privs_2 ++ (lw_privs_3))
def lw_tbl : List Cond := k2_sels lw_privs ++ tables_1
theorem lw_privs_ok : ∀ q ∈ lw_privs, lw_okq q := by
  show ∀ q ∈ lw_privs_1 ++ (lw_privs_2 ++ (lw_privs_3)), lw_okq q
  exact List.forall_mem_append.mpr ⟨lw_r1, List.forall_mem_append.mpr ⟨lw_r2, lw_r3⟩⟩

-- names of what TURN printed
def pm_cn : Nat → String := fun k => match k with
  | 0 => "LampFeast$Bills"
  | 1 => "LampFeast$Branches"
  | 2 => "LampFeast$Crates"
  | 3 => "LampFeast$FuseSearch"
  | 4 => "LampFeast$Nights"
  | 5 => "LampFeast$Strings"
  | 6 => "LampFeast$Waiting"
  | 7 => "LampFeast"
  | 8 => "LampFeastModel"
  | 9 => "LampFeastLaw"
  | 10 => "java/lang/Math"
  | _ => "java/util/Arrays"
def TX0 : u_T := fun k => match k with
  | 0 => ("LampFeast$Bills", "fronts", "[I", true)
  | _ => ("LampFeast$Bills", "townPart", "I", false)
def tyX0 : Nat → FieldType := fun k => match k with
  | 0 => .array .int
  | _ => .int
def TX1 : u_T := fun k => match k with
  | 0 => ("LampFeast$Branches", "strings", "LLampFeast$Strings;", true)
  | 1 => ("LampFeast$Branches", "mostFall", "I", false)
  | 2 => ("LampFeast$Branches", "dark", "[Z", true)
  | 3 => ("LampFeast$Branches", "current", "[I", true)
  | 4 => ("LampFeast$Branches", "worst", "[I", true)
  | 5 => ("LampFeast$Branches", "fall", "[I", true)
  | _ => ("LampFeast$Branches", "guard", "[I", true)
def tyX1 : Nat → FieldType := fun k => match k with
  | 0 => .object "LampFeast$Strings"
  | 1 => .int
  | 2 => .array .boolean
  | 3 => .array .int
  | 4 => .array .int
  | 5 => .array .int
  | _ => .array .int
def TX2 : u_T := fun k => match k with
  | 0 => ("LampFeast$Crates", "size", "I", false)
  | 1 => ("LampFeast$Crates", "lamps", "[I", true)
  | 2 => ("LampFeast$Crates", "left", "[I", true)
  | 3 => ("LampFeast$Crates", "faulty", "[I", true)
  | _ => ("LampFeast$Crates", "hanging", "[I", true)
def tyX2 : Nat → FieldType := fun k => match k with
  | 0 => .int
  | 1 => .array .int
  | 2 => .array .int
  | 3 => .array .int
  | _ => .array .int
def TX3 : u_T := fun k => match k with
  | 0 => ("LampFeast$FuseSearch", "strings", "LLampFeast$Strings;", true)
  | 1 => ("LampFeast$FuseSearch", "branches", "LLampFeast$Branches;", true)
  | 2 => ("LampFeast$FuseSearch", "below", "[I", true)
  | _ => ("LampFeast$FuseSearch", "cost", "I", false)
def tyX3 : Nat → FieldType := fun k => match k with
  | 0 => .object "LampFeast$Strings"
  | 1 => .object "LampFeast$Branches"
  | 2 => .array .int
  | _ => .int
def TX4 : u_T := fun k => match k with
  | 0 => ("LampFeast$Nights", "strings", "LLampFeast$Strings;", true)
  | 1 => ("LampFeast$Nights", "crews", "I", false)
  | 2 => ("LampFeast$Nights", "hours", "I", false)
  | 3 => ("LampFeast$Nights", "rows", "[I", true)
  | 4 => ("LampFeast$Nights", "places", "[I", true)
  | 5 => ("LampFeast$Nights", "nightOf", "[I", true)
  | 6 => ("LampFeast$Nights", "crewOf", "[I", true)
  | 7 => ("LampFeast$Nights", "hoursLeft", "[I", true)
  | 8 => ("LampFeast$Nights", "trial", "[I", true)
  | _ => ("LampFeast$Nights", "bestEnd", "I", false)
def tyX4 : Nat → FieldType := fun k => match k with
  | 0 => .object "LampFeast$Strings"
  | 1 => .int
  | 2 => .int
  | 3 => .array .int
  | 4 => .array .int
  | 5 => .array .int
  | 6 => .array .int
  | 7 => .array .int
  | 8 => .array .int
  | _ => .int
def TX5 : u_T := fun k => match k with
  | 0 => ("LampFeast$Strings", "size", "I", false)
  | 1 => ("LampFeast$Strings", "kind", "[I", true)
  | 2 => ("LampFeast$Strings", "up", "[I", true)
  | 3 => ("LampFeast$Strings", "street", "[I", true)
  | 4 => ("LampFeast$Strings", "length", "[I", true)
  | 5 => ("LampFeast$Strings", "wire", "[I", true)
  | 6 => ("LampFeast$Strings", "lamps", "[I", true)
  | 7 => ("LampFeast$Strings", "watt", "[I", true)
  | 8 => ("LampFeast$Strings", "fuse", "[I", true)
  | 9 => ("LampFeast$Strings", "dead", "[Z", true)
  | 10 => ("LampFeast$Strings", "first", "[I", true)
  | 11 => ("LampFeast$Strings", "last", "[I", true)
  | _ => ("LampFeast$Strings", "lampCrates", "[I", true)
def tyX5 : Nat → FieldType := fun k => match k with
  | 0 => .int
  | 1 => .array .int
  | 2 => .array .int
  | 3 => .array .int
  | 4 => .array .int
  | 5 => .array .int
  | 6 => .array .int
  | 7 => .array .int
  | 8 => .array .int
  | 9 => .array .boolean
  | 10 => .array .int
  | 11 => .array .int
  | _ => .array .int
def TX6 : u_T := fun k => match k with
  | 0 => ("LampFeast$Waiting", "size", "I", false)
  | _ => ("LampFeast$Waiting", "numbers", "[I", true)
def tyX6 : Nat → FieldType := fun k => match k with
  | 0 => .int
  | _ => .array .int
def TX7 : u_T := fun k => match k with
  | 0 => ("LampFeast", "findings", "[I", true)
  | 1 => ("LampFeast", "crates", "LLampFeast$Crates;", true)
  | 2 => ("LampFeast", "strings", "LLampFeast$Strings;", true)
  | 3 => ("LampFeast", "branches", "LLampFeast$Branches;", true)
  | 4 => ("LampFeast", "fuseSearch", "LLampFeast$FuseSearch;", true)
  | 5 => ("LampFeast", "nights", "LLampFeast$Nights;", true)
  | 6 => ("LampFeast", "bills", "LLampFeast$Bills;", true)
  | _ => ("LampFeast", "waiting", "LLampFeast$Waiting;", true)
def tyX7 : Nat → FieldType := fun k => match k with
  | 0 => .array .int
  | 1 => .object "LampFeast$Crates"
  | 2 => .object "LampFeast$Strings"
  | 3 => .object "LampFeast$Branches"
  | 4 => .object "LampFeast$FuseSearch"
  | 5 => .object "LampFeast$Nights"
  | 6 => .object "LampFeast$Bills"
  | _ => .object "LampFeast$Waiting"
def TX8 : u_T := fun k => match k with
  | 0 => ("LampFeastModel", "crates", "I", false)
  | 1 => ("LampFeastModel", "strings", "I", false)
  | 2 => ("LampFeastModel", "mostFall", "I", false)
  | 3 => ("LampFeastModel", "crewMany", "I", false)
  | 4 => ("LampFeastModel", "crewHours", "I", false)
  | 5 => ("LampFeastModel", "townPart", "I", false)
  | 6 => ("LampFeastModel", "waiting", "I", false)
  | 7 => ("LampFeastModel", "crateLamps", "[I", true)
  | 8 => ("LampFeastModel", "crateLeft", "[I", true)
  | 9 => ("LampFeastModel", "faulty", "[I", true)
  | 10 => ("LampFeastModel", "kind", "[I", true)
  | 11 => ("LampFeastModel", "up", "[I", true)
  | 12 => ("LampFeastModel", "street", "[I", true)
  | 13 => ("LampFeastModel", "length", "[I", true)
  | 14 => ("LampFeastModel", "wire", "[I", true)
  | 15 => ("LampFeastModel", "lamps", "[I", true)
  | 16 => ("LampFeastModel", "watt", "[I", true)
  | 17 => ("LampFeastModel", "fuse", "[I", true)
  | 18 => ("LampFeastModel", "first", "[I", true)
  | 19 => ("LampFeastModel", "last", "[I", true)
  | 20 => ("LampFeastModel", "isDead", "[Z", true)
  | 21 => ("LampFeastModel", "lampCrate", "[I", true)
  | 22 => ("LampFeastModel", "row", "[I", true)
  | 23 => ("LampFeastModel", "fronts", "[I", true)
  | 24 => ("LampFeastModel", "waits", "[I", true)
  | 25 => ("LampFeastModel", "counted", "[I", true)
  | 26 => ("LampFeastModel", "order", "[I", true)
  | 27 => ("LampFeastModel", "current", "[I", true)
  | 28 => ("LampFeastModel", "worst", "[I", true)
  | 29 => ("LampFeastModel", "falls", "[I", true)
  | 30 => ("LampFeastModel", "below", "[I", true)
  | 31 => ("LampFeastModel", "allOf", "I", false)
  | 32 => ("LampFeastModel", "must", "[I", true)
  | 33 => ("LampFeastModel", "night", "[I", true)
  | 34 => ("LampFeastModel", "crew", "[I", true)
  | 35 => ("LampFeastModel", "spent", "[I", true)
  | _ => ("LampFeastModel", "trial", "[I", true)
def tyX8 : Nat → FieldType := fun k => match k with
  | 0 => .int
  | 1 => .int
  | 2 => .int
  | 3 => .int
  | 4 => .int
  | 5 => .int
  | 6 => .int
  | 7 => .array .int
  | 8 => .array .int
  | 9 => .array .int
  | 10 => .array .int
  | 11 => .array .int
  | 12 => .array .int
  | 13 => .array .int
  | 14 => .array .int
  | 15 => .array .int
  | 16 => .array .int
  | 17 => .array .int
  | 18 => .array .int
  | 19 => .array .int
  | 20 => .array .boolean
  | 21 => .array .int
  | 22 => .array .int
  | 23 => .array .int
  | 24 => .array .int
  | 25 => .array .int
  | 26 => .array .int
  | 27 => .array .int
  | 28 => .array .int
  | 29 => .array .int
  | 30 => .array .int
  | 31 => .int
  | 32 => .array .int
  | 33 => .array .int
  | 34 => .array .int
  | 35 => .array .int
  | _ => .array .int
abbrev vwCl : List vw_C := [("LampFeast$Bills", TX0, 2), ("LampFeast$Branches", TX1, 7), ("LampFeast$Crates", TX2, 5), ("LampFeast$FuseSearch", TX3, 4), ("LampFeast$Nights", TX4, 10), ("LampFeast$Strings", TX5, 13), ("LampFeast$Waiting", TX6, 2), ("LampFeast", TX7, 8), ("LampFeastModel", TX8, 37)]
def pm_f0 : Nat → List (Option (Option Nat)) := fun k => match k with
  | 0 => [some none, none]
  | 1 => [some none, none, some none, some none, some none, some none, some none]
  | 2 => [none, some none, some none, some none, some none]
  | 3 => [some none, some none, some none, none]
  | 4 => [some none, none, none, some none, some none, some none, some none, some none, some none, none]
  | 5 => [none, some none, some none, some none, some none, some none, some none, some none, some none, some none, some none, some none, some none]
  | 6 => [none, some none]
  | 7 => [some none, some none, some none, some none, some none, some none, some none, some none]
  | _ => [none, none, none, none, none, none, none, some none, some none, some none, some none, some none, some none, some none, some none, some none, some none, some none, some none, some none, some none, some none, some none, some none, some none, some none, some none, some none, some none, some none, some none, none, some none, some none, some none, some none, some none]
def pm_flL : Nat → List (Nat × Nat × Nat) := fun k => match k with
  | 0 => [(9, 0, 0), (15, 0, 1)]
  | 1 => [(9, 1, 0), (15, 1, 1), (19, 1, 2), (23, 1, 3), (27, 1, 4), (30, 1, 5), (33, 1, 6), (45, 5, 0), (50, 5, 2), (53, 5, 9), (60, 5, 4), (63, 5, 5), (72, 5, 8), (75, 5, 1)]
  | 2 => [(9, 2, 1), (15, 2, 2), (18, 2, 3), (21, 2, 4), (24, 2, 0)]
  | 3 => [(9, 3, 0), (15, 3, 1), (19, 3, 2), (24, 3, 3), (39, 5, 0), (44, 5, 2), (67, 1, 4), (73, 5, 1), (78, 5, 8)]
  | 4 => [(9, 4, 0), (15, 4, 1), (19, 4, 2), (22, 4, 3), (32, 4, 4), (35, 4, 5), (38, 4, 6), (41, 4, 7), (44, 4, 8), (47, 5, 0), (68, 5, 2), (73, 5, 3), (87, 4, 9)]
  | 5 => [(9, 5, 1), (15, 5, 2), (18, 5, 3), (21, 5, 4), (24, 5, 5), (27, 5, 6), (30, 5, 7), (33, 5, 8), (36, 5, 9), (40, 5, 10), (43, 5, 11), (46, 5, 12), (49, 5, 0)]
  | 6 => [(9, 6, 1), (15, 6, 0)]
  | 7 => [(9, 7, 0), (16, 7, 1), (23, 7, 2), (32, 7, 3), (41, 7, 4), (48, 7, 5), (55, 7, 6), (62, 7, 7), (75, 2, 0), (96, 5, 0), (115, 5, 8), (118, 5, 9), (129, 5, 1), (132, 5, 2), (135, 5, 3), (138, 5, 4), (141, 5, 5), (144, 5, 6), (147, 5, 7), (163, 1, 3), (166, 1, 4), (169, 1, 5), (176, 1, 1), (202, 5, 10), (211, 5, 11), (217, 4, 1), (220, 4, 2), (223, 4, 3), (232, 4, 5), (235, 4, 6), (246, 0, 0), (249, 0, 1), (266, 2, 1), (267, 2, 2), (270, 2, 3), (273, 2, 4), (276, 6, 0), (288, 1, 2)]
  | 8 => [(7, 8, 2), (13, 8, 3), (16, 8, 4), (19, 8, 5), (22, 8, 7), (26, 8, 8), (29, 8, 9), (32, 8, 10), (35, 8, 11), (38, 8, 12), (41, 8, 13), (44, 8, 14), (47, 8, 15), (50, 8, 16), (53, 8, 17), (56, 8, 18), (59, 8, 19), (62, 8, 20), (66, 8, 21), (69, 8, 22), (72, 8, 23), (75, 8, 24), (78, 8, 25), (81, 8, 26), (84, 8, 27), (87, 8, 28), (90, 8, 29), (93, 8, 30), (96, 8, 32), (99, 8, 33), (102, 8, 34), (105, 8, 35), (108, 8, 36), (112, 8, 1), (123, 8, 0), (158, 8, 31), (201, 8, 6)]
  | _ => []
def pm_kcL : Nat → List (Nat × Int32) := fun k => match k with
  | 3 => [(23, 536870912), (76, 16777216), (77, 16777215)]
  | 7 => [(70, (-1000000001)), (79, (-1000000004)), (95, (-1000000003)), (114, 60000), (156, (-1000000005)), (175, 100000), (186, (-1000000002)), (252, 1000000), (287, (-1000000000))]
  | 8 => [(111, (-1000000000)), (137, 60000), (157, 100000), (197, 1000000)]
  | _ => []
def pm_nwL : Nat → List (Nat × Nat) := fun k => match k with
  | 7 => [(13, 2), (20, 5), (27, 1), (36, 3), (45, 4), (52, 0), (59, 6)]
  | 9 => [(7, 7), (10, 8)]
  | _ => []
def pm_mvL : Nat → List (Nat × Nat × Nat × Nat × Nat) := fun k => match k with
  | 0 => [(19, 1, 0, 1, 0), (23, 2, 1, 1, 0)]
  | 1 => [(36, 6, 0, 0, 1), (39, 7, 0, 0, 1), (42, 8, 0, 0, 1), (56, 46, 1, 1, 5), (78, 47, 1, 1, 5), (81, 5, 0, 0, 1), (84, 11, 0, 1, 1), (88, 49, 1, 0, 5)]
  | 2 => [(28, 13, 1, 1, 2)]
  | 3 => [(28, 5, 0, 0, 1), (47, 21, 1, 1, 3), (55, 20, 3, 0, 3), (59, 22, 2, 1, 3), (70, 47, 1, 1, 5), (81, 25, 0, 1, 3)]
  | 4 => [(52, 29, 1, 1, 4), (56, 32, 0, 0, 4), (59, 33, 1, 1, 4), (71, 48, 1, 1, 5), (80, 34, 2, 1, 4), (83, 31, 0, 1, 4), (90, 37, 3, 0, 4), (94, 38, 1, 0, 4), (98, 35, 1, 0, 4)]
  | 5 => [(53, 40, 1, 1, 5)]
  | 7 => [(71, 85, 1, 1, 7), (80, 14, 1, 1, 2), (87, 90, 2, 1, 7), (91, 15, 0, 1, 2), (97, 42, 6, 1, 5), (100, 16, 0, 1, 2), (103, 44, 3, 0, 5), (107, 28, 1, 0, 4), (111, 40, 1, 1, 5), (126, 49, 1, 0, 5), (150, 91, 1, 1, 7), (153, 45, 2, 1, 5), (157, 46, 1, 1, 5), (160, 5, 0, 0, 1), (172, 9, 1, 1, 1), (179, 10, 0, 1, 1), (182, 19, 0, 1, 3), (187, 24, 0, 1, 3), (190, 25, 0, 1, 3), (193, 26, 0, 0, 3), (199, 41, 2, 1, 5), (226, 30, 2, 1, 4), (229, 31, 0, 1, 4), (238, 29, 1, 1, 4), (241, 48, 1, 1, 5), (243, 36, 0, 1, 4), (253, 2, 1, 1, 0), (256, 3, 2, 1, 0), (259, 43, 2, 1, 5), (262, 17, 1, 0, 2), (265, 13, 1, 1, 2), (277, 51, 1, 1, 6), (278, 52, 1, 1, 6), (281, 92, 0, 1, 7), (284, 93, 0, 1, 7)]
  | 8 => [(119, 96, 1, 1, 8), (126, 97, 1, 1, 8), (130, 100, 0, 1, 8), (134, 101, 0, 1, 8), (138, 104, 1, 0, 8), (142, 106, 1, 1, 8), (145, 108, 1, 1, 8), (148, 111, 1, 1, 8), (151, 110, 0, 0, 8), (154, 112, 1, 1, 8), (161, 116, 1, 1, 8), (164, 117, 2, 1, 8), (168, 118, 0, 1, 8), (171, 119, 0, 1, 8), (180, 129, 1, 1, 8), (183, 131, 1, 1, 8), (186, 132, 1, 0, 8), (189, 133, 1, 1, 8), (193, 136, 2, 0, 8), (198, 141, 2, 1, 8)]
  | 9 => [(13, 54, 1, 1, 7), (17, 99, 1, 1, 8), (18, 55, 6, 1, 7), (22, 102, 6, 1, 8), (23, 56, 2, 1, 7), (27, 103, 2, 1, 8), (28, 57, 2, 1, 7), (31, 105, 2, 1, 8), (32, 58, 2, 1, 7), (35, 107, 2, 1, 8), (36, 59, 2, 1, 7), (39, 109, 2, 1, 8), (40, 60, 2, 1, 7), (43, 113, 2, 1, 8), (44, 61, 1, 1, 7), (47, 114, 1, 1, 8), (48, 62, 0, 1, 7), (52, 115, 0, 1, 8), (53, 63, 1, 1, 7), (56, 121, 1, 1, 8), (57, 64, 0, 1, 7), (60, 122, 0, 1, 8), (61, 65, 1, 1, 7), (64, 123, 1, 1, 8), (65, 66, 3, 1, 7), (69, 124, 3, 1, 8), (70, 67, 1, 1, 7), (73, 125, 1, 1, 8), (74, 68, 2, 1, 7), (78, 126, 2, 1, 8), (79, 69, 2, 1, 7), (82, 127, 2, 1, 8), (83, 70, 2, 1, 7), (86, 128, 2, 1, 8), (87, 71, 2, 1, 7), (90, 130, 2, 1, 8), (91, 72, 0, 1, 7), (94, 134, 0, 1, 8), (95, 73, 2, 1, 7), (98, 135, 2, 1, 8), (99, 74, 0, 1, 7), (102, 137, 0, 1, 8), (103, 75, 2, 1, 7), (106, 138, 2, 1, 8), (107, 76, 1, 1, 7), (110, 139, 1, 1, 8), (111, 77, 2, 1, 7), (114, 140, 2, 1, 8), (115, 78, 2, 1, 7), (118, 142, 2, 1, 8), (119, 79, 2, 1, 7), (122, 143, 2, 1, 8), (123, 80, 2, 1, 7), (126, 144, 2, 1, 8), (127, 81, 1, 1, 7), (130, 145, 1, 1, 8), (131, 82, 0, 1, 7), (134, 146, 0, 1, 8), (135, 83, 1, 1, 7), (138, 147, 1, 1, 8), (139, 84, 1, 1, 7), (142, 148, 1, 1, 8)]
  | _ => []
def pm_msL : Nat → List (Nat × Nat × Nat × Nat × Nat) := fun k => match k with
  | 3 => [(33, 151, 2, 0, 11), (51, 23, 2, 1, 3)]
  | 4 => [(26, 151, 2, 0, 11)]
  | 7 => [(66, 86, 3, 1, 7), (83, 89, 1, 1, 7), (122, 87, 1, 1, 7), (196, 88, 2, 1, 7)]
  | 8 => [(115, 95, 3, 1, 8), (174, 120, 1, 1, 8), (177, 98, 2, 1, 8)]
  | _ => []
def pm_mnL : Nat → List (Nat × Nat × Nat × Nat × Nat) := fun k => match k with
  | 3 => [(85, 88, 2, 1, 7)]
  | 4 => [(76, 88, 2, 1, 7)]
  | 6 => [(19, 88, 2, 1, 7)]
  | _ => []
def pm_miL : Nat → List (Nat × Nat × Nat × Nat × Nat) := fun k => match k with
  | 7 => [(15, 12, 0, 0, 2), (22, 39, 0, 0, 5), (29, 4, 1, 0, 1), (38, 18, 2, 0, 3), (47, 27, 1, 0, 4), (54, 0, 0, 0, 0), (61, 50, 0, 0, 6)]
  | 9 => [(9, 53, 0, 0, 7), (12, 94, 0, 0, 8)]
  | _ => []
def pm_oiL : Nat → List Nat := fun k => match k with
  | 0 => [3]
  | 1 => [3]
  | 2 => [3]
  | 3 => [3]
  | 4 => [3]
  | 5 => [3]
  | 6 => [3]
  | 7 => [3]
  | 8 => [1]
  | _ => []
def pm_mxL : Nat → List (Nat × Nat) := fun k => match k with
  | 1 => [(66, 0)]
  | 3 => [(62, 1)]
  | 4 => [(62, 0)]
  | 7 => [(205, 0), (214, 1)]
  | _ => []
end
section
/-! A small machine over pure worlds: cells by number, their shapes, their ints; one step in continuation form, at any result type. -/
/-- a cell's shape: (0, n, _) ints; (1, n, _) booleans; (2, number of its kind, fields: none an int, some a reference) -/
abbrev pmS : Type := Nat × Nat × List (Option (Option Nat))
abbrev pmH : Type := Nat → Nat → Int32
abbrev pmW : Type := List pmS × pmH
abbrev pmL : Type := List (Option Value)
abbrev pmR : Type := Option Value × pmW
/-- a method: name, bytes, locals, answer, owner, arguments, code -/
abbrev pmM : Type := MethodName × ByteArray × Nat × Option FieldType × Nat × Nat × List (Nat × Nat × Instr)
def pm_up (h : pmH) (k j : Nat) (x : Int32) : pmH := fun a => if a = k then upd (h k) j x else h a
def pm_z (h : pmH) (k : Nat) : pmH := fun a => if a = k then (fun _ => 0) else h a
def pm_int : Int → Int32
  | .ofNat n => nI n
  | .negSucc n => - nI (n + 1)
def pm_lk {α : Type} (i : Nat) : List (Nat × α) → Option α
  | [] => none
  | (j, a) :: t => match Nat.beq j i with
    | true => some a
    | false => pm_lk i t
def pm_cs : List Value → Nat
  | [] => 0
  | v :: t => v.category + pm_cs t
section PMF
variable {ρ : Type}
def pm_pi (z : ρ) (st : List Value) (f : Int32 → List Value → ρ) : ρ := match st with
  | .int x :: r => f x r
  | _ => z
def pm_pl (z : ρ) (st : List Value) (f : Int64 → List Value → ρ) : ρ := match st with
  | .long x :: r => f x r
  | _ => z
def pm_pr (z : ρ) (st : List Value) (f : Nat → List Value → ρ) : ρ := match st with
  | .ref x :: r => f x r
  | _ => z
def pm_p1 (z : ρ) (st : List Value) (f : Value → List Value → ρ) : ρ := match st with
  | v :: r => (match Nat.beq v.category 1 with
    | true => f v r
    | false => z)
  | _ => z
def pm_vi (z : ρ) (v : Value) (f : Int32 → ρ) : ρ := match v with
  | .int x => f x
  | _ => z
def pm_vl (z : ρ) (v : Value) (f : Int64 → ρ) : ρ := match v with
  | .long x => f x
  | _ => z
def pm_vr (z : ρ) (v : Value) (f : Nat → ρ) : ρ := match v with
  | .ref x => f x
  | _ => z
def pm_ld (z : ρ) (L : pmL) (i : Nat) (f : Value → ρ) : ρ := match L[i]? with
  | some (some v) => f v
  | _ => z
def pm_k2 (L : pmL) : Nat → pmL
  | 0 => L
  | i + 1 => match L[i]? with
    | some (some v) => (match Nat.beq v.category 2 with
      | true => L.set i none
      | false => L)
    | _ => L
def pm_s1 (z : ρ) (L : pmL) (i : Nat) (v : Value) (f : pmL → ρ) : ρ := match L[i]? with
  | some _ => f ((pm_k2 L i).set i (some v))
  | none => z
def pm_s2 (z : ρ) (L : pmL) (i : Nat) (v : Value) (f : pmL → ρ) : ρ := match L[i + 1]? with
  | some _ => f (((pm_k2 L i).set (i + 1) none).set i (some v))
  | none => z
def pm_j (z : ρ) (pc : Nat) (off : Int) (f : Nat → ρ) : ρ := match (pc : Int) + off with
  | .ofNat t => f t
  | .negSucc _ => z
def pm_c1 (c : ClassFile.Cond) (x : Int32) (a b : ρ) : ρ := match c with
  | .eq => if x = 0 then a else b
  | .ne => if x = 0 then b else a
  | .lt => if x < 0 then a else b
  | .ge => if 0 ≤ x then a else b
  | .gt => if 0 < x then a else b
  | .le => if x ≤ 0 then a else b
def pm_c2 (c : ClassFile.Cond) (x y : Int32) (a b : ρ) : ρ := match c with
  | .eq => if x = y then a else b
  | .ne => if x = y then b else a
  | .lt => if x < y then a else b
  | .ge => if y ≤ x then a else b
  | .gt => if y < x then a else b
  | .le => if x ≤ y then a else b
def pm_sw (z : ρ) (pc : Nat) (x : Int32) (f : Nat → ρ) (d : Int) : Nat → List Int → ρ
  | _, [] => pm_j z pc d f
  | i, o :: t => if x = nI i then pm_j z pc o f else pm_sw z pc x f d (i + 1) t
/-- an array's place: its length and what it holds; number 0 is the script -/
def pm_ar (z : ρ) (sh : List pmS) (t : Nat) (a : Nat) (f : Nat → Nat → ρ) : ρ := match a with
  | 0 => z
  | k + 1 => match sh[k]? with
    | some s => (match Nat.beq s.1 t with
      | true => f k s.2.1
      | false => z)
    | none => z
def pm_ob (z : ρ) (sh : List pmS) (ci : Nat) (a : Nat) (f : Nat → List (Option (Option Nat)) → ρ) : ρ := match a with
  | 0 => z
  | k + 1 => match sh[k]? with
    | some s => (match Nat.beq s.1 2 && Nat.beq s.2.1 ci with
      | true => f k s.2.2
      | false => z)
    | none => z
def pm_ix (z : ρ) (i : Int32) (n : Nat) (f : Nat → ρ) : ρ := if i < 0 ∨ n ≤ i.toNatClampNeg then z else f i.toNatClampNeg
def pm_o {α : Type} (z : ρ) (o : Option α) (f : α → ρ) : ρ := match o with
  | some a => f a
  | none => z
def pm_b (z : ρ) (b : Bool) (f : ρ) : ρ := match b with
  | true => f
  | false => z
def pm_gf (z : ρ) (o : Option (Option (Option Nat))) (fi : ρ) (fr : Nat → ρ) : ρ := match o with
  | some none => fi
  | some (some (some b)) => fr b
  | _ => z
def pm_gr (z : ρ) (o : Option (Option (Option Nat))) (fr : ρ) : ρ := match o with
  | some (some _) => fr
  | _ => z
def pm_rt (z : ρ) (ret : Option FieldType) (x : Int32) (f : ρ) : ρ := match ret with
  | some .int => f
  | some .boolean => if x = 0 ∨ x = 1 then f else z
  | _ => z
def pm_at (z : ρ) (a : ArrayType) (f : Nat → ρ) : ρ := match a with
  | .int => f 0
  | .boolean => f 1
  | _ => z
/-- one instruction -/
def pm_F (z : ρ) (rt : Option Value → pmW → ρ) (k : Nat → pmL → List Value → pmW → ρ) (cl : Nat → Nat → List Value → pmW → Nat → pmL → List Value → ρ)
    (sl : Nat) (xs : Nat → Int32) (own : Nat) (ret : Option FieldType) (ini hd : Bool) (op : Instr) (pc : Nat) (L : pmL) (st : List Value) (sh : List pmS) (h : pmH) : ρ :=
  match op with
  | .iconst n => k (pc + 1) L (.int (pm_int n) :: st) (sh, h)
  | .bipush n => pm_b z (decide (-128 ≤ n) && decide (n < 128)) (k (pc + 2) L (.int (pm_int n) :: st) (sh, h))
  | .sipush n => pm_b z (decide (-32768 ≤ n) && decide (n < 32768)) (k (pc + 3) L (.int (pm_int n) :: st) (sh, h))
  | .ldc i => pm_o z (pm_lk i (pm_kcL own)) fun v => k (pc + 2) L (.int v :: st) (sh, h)
  | .ldc_w i => pm_o z (pm_lk i (pm_kcL own)) fun v => k (pc + 3) L (.int v :: st) (sh, h)
  | .iload i => pm_ld z L i fun v => pm_vi z v fun x => k (pc + 2) L (.int x :: st) (sh, h)
  | .iload_n i => pm_ld z L i.val fun v => pm_vi z v fun x => k (pc + 1) L (.int x :: st) (sh, h)
  | .aload_n i => pm_ld z L i.val fun v => pm_vr z v fun x => k (pc + 1) L (.ref x :: st) (sh, h)
  | .lload i => pm_ld z L i fun v => pm_vl z v fun x => k (pc + 2) L (.long x :: st) (sh, h)
  | .istore i => pm_pi z st fun x r => pm_s1 z L i (.int x) fun L' => k (pc + 2) L' r (sh, h)
  | .istore_n i => pm_pi z st fun x r => pm_s1 z L i.val (.int x) fun L' => k (pc + 1) L' r (sh, h)
  | .astore_n i => pm_pr z st fun x r => pm_s1 z L i.val (.ref x) fun L' => k (pc + 1) L' r (sh, h)
  | .lstore i => pm_pl z st fun x r => pm_s2 z L i (.long x) fun L' => k (pc + 2) L' r (sh, h)
  | .iinc i n => pm_ld z L i fun v => pm_vi z v fun x => pm_s1 z L i (.int (x + pm_int n)) fun L' => k (pc + 3) L' st (sh, h)
  | .iadd => pm_pi z st fun y r => pm_pi z r fun x r => k (pc + 1) L (.int (x + y) :: r) (sh, h)
  | .isub => pm_pi z st fun y r => pm_pi z r fun x r => k (pc + 1) L (.int (x - y) :: r) (sh, h)
  | .imul => pm_pi z st fun y r => pm_pi z r fun x r => k (pc + 1) L (.int (x * y) :: r) (sh, h)
  | .idiv => pm_pi z st fun y r => pm_pi z r fun x r => if y = 0 then z else k (pc + 1) L (.int (x / y) :: r) (sh, h)
  | .irem => pm_pi z st fun y r => pm_pi z r fun x r => if y = 0 then z else k (pc + 1) L (.int (x - x / y * y) :: r) (sh, h)
  | .ishl => pm_pi z st fun y r => pm_pi z r fun x r => k (pc + 1) L (.int (x <<< (y &&& 31)) :: r) (sh, h)
  | .ishr => pm_pi z st fun y r => pm_pi z r fun x r => k (pc + 1) L (.int (x >>> (y &&& 31)) :: r) (sh, h)
  | .iand => pm_pi z st fun y r => pm_pi z r fun x r => k (pc + 1) L (.int (x &&& y) :: r) (sh, h)
  | .ior => pm_pi z st fun y r => pm_pi z r fun x r => k (pc + 1) L (.int (x ||| y) :: r) (sh, h)
  | .i2l => pm_pi z st fun x r => k (pc + 1) L (.long x.toInt64 :: r) (sh, h)
  | .l2i => pm_pl z st fun x r => k (pc + 1) L (.int x.toInt32 :: r) (sh, h)
  | .lmul => pm_pl z st fun y r => pm_pl z r fun x r => k (pc + 1) L (.long (x * y) :: r) (sh, h)
  | .ldiv => pm_pl z st fun y r => pm_pl z r fun x r => if y = 0 then z else k (pc + 1) L (.long (x / y) :: r) (sh, h)
  | .lrem => pm_pl z st fun y r => pm_pl z r fun x r => if y = 0 then z else k (pc + 1) L (.long (x - x / y * y) :: r) (sh, h)
  | .lcmp => pm_pl z st fun y r => pm_pl z r fun x r => k (pc + 1) L (.int (lg_cmp x y) :: r) (sh, h)
  | .dup => pm_p1 z st fun v r => k (pc + 1) L (v :: v :: r) (sh, h)
  | .dup2 => pm_p1 z st fun v r => pm_p1 z r fun u r => k (pc + 1) L (v :: u :: v :: u :: r) (sh, h)
  | .pop => pm_p1 z st fun _ r => k (pc + 1) L r (sh, h)
  | .goto off => pm_j z pc off fun t => k t L st (sh, h)
  | .ifCond c off => pm_pi z st fun x r => pm_j z pc off fun t => pm_c1 c x (k t L r (sh, h)) (k (pc + 3) L r (sh, h))
  | .if_icmp c off => pm_pi z st fun y r => pm_pi z r fun x r => pm_j z pc off fun t => pm_c2 c x y (k t L r (sh, h)) (k (pc + 3) L r (sh, h))
  | .tableswitch d lo hi offs => pm_pi z st fun x r => pm_b z (decide (lo = 0) && decide (hi + 1 = offs.toList.length) && decide (offs.toList.length ≤ 1000)) (pm_sw z pc x (fun t => k t L r (sh, h)) d 0 offs.toList)
  | .getfield i => pm_o z (pm_lk i (pm_flL own)) fun q => pm_pr z st fun a r => pm_ob z sh q.1 a fun c fl => pm_gf z fl[q.2]? (k (pc + 3) L (.int (h c q.2) :: r) (sh, h)) fun b => k (pc + 3) L (.ref b :: r) (sh, h)
  | .putfield i => pm_o z (pm_lk i (pm_flL own)) fun q => pm_p1 z st fun v r => pm_pr z r fun a r => pm_ob z sh q.1 a fun c fl => match v with
    | .int x => pm_gf z (pm_f0 q.1)[q.2]? (pm_gf z fl[q.2]? (k (pc + 3) L r (sh, pm_up h c q.2 x)) fun _ => z) fun _ => z
    | .ref b => pm_gr z (pm_f0 q.1)[q.2]? (pm_gr z fl[q.2]? (pm_b z (ini && Nat.beq q.1 own) (k (pc + 3) L r (sh.set c (2, q.1, fl.set q.2 (some (some b))), h))))
    | _ => z
  | .iaload => pm_pi z st fun i r => pm_pr z r fun a r => match a with
    | 0 => pm_ix z i sl fun j => k (pc + 1) L (.int (xs j) :: r) (sh, h)
    | a => pm_ar z sh 0 a fun c n => pm_ix z i n fun j => k (pc + 1) L (.int (h c j) :: r) (sh, h)
  | .baload => pm_pi z st fun i r => pm_pr z r fun a r => pm_ar z sh 1 a fun c n => pm_ix z i n fun j => k (pc + 1) L (.int (h c j) :: r) (sh, h)
  | .iastore => pm_pi z st fun x r => pm_pi z r fun i r => pm_pr z r fun a r => pm_ar z sh 0 a fun c n => pm_ix z i n fun j => k (pc + 1) L r (sh, pm_up h c j x)
  | .bastore => pm_pi z st fun x r => pm_pi z r fun i r => pm_pr z r fun a r => pm_ar z sh 1 a fun c n => pm_ix z i n fun j => if x = 0 ∨ x = 1 then k (pc + 1) L r (sh, pm_up h c j x) else z
  | .arraylength => pm_pr z st fun a r => match a with
    | 0 => k (pc + 1) L (.int (nI sl) :: r) (sh, h)
    | a => pm_ar z sh 0 a fun _ n => k (pc + 1) L (.int (nI n) :: r) (sh, h)
  | .new i => pm_o z (pm_lk i (pm_nwL own)) fun ci => k (pc + 3) L (.ref (sh.length + 1) :: st) (sh ++ [(2, ci, pm_f0 ci)], pm_z h sh.length)
  | .newarray a => pm_at z a fun t => pm_pi z st fun n r => if n < 0 ∨ 100000 < n.toNatClampNeg then z else k (pc + 2) L (.ref (sh.length + 1) :: r) (sh ++ [(t, n.toNatClampNeg, [])], pm_z h sh.length)
  | .invokevirtual i => pm_o z (pm_lk i (pm_mvL own)) fun q => pm_pr z (st.drop q.2.1) fun a rest => pm_ob z sh q.2.2.2 a fun _ _ => pm_b z (Nat.ble (pm_cs rest) 8) (cl q.1 q.2.2.1 (.ref a :: (st.take q.2.1).reverse) (sh, h) (pc + 3) L rest)
  | .invokestatic i => match pm_lk i (pm_mxL own) with
    | some 0 => pm_pi z st fun y r => pm_pi z r fun x r => pm_b z (hd && Nat.ble (pm_cs r) 8) (k (pc + 3) L (.int (if x < y then y else x) :: r) (sh, h))
    | some _ => pm_pi z st fun y r => pm_pi z r fun x r => pm_b z (hd && Nat.ble (pm_cs r) 8) (k (pc + 3) L (.int (if y < x then y else x) :: r) (sh, h))
    | none => pm_o z (pm_lk i (pm_msL own ++ pm_mnL own)) fun q => pm_b z (Nat.ble q.2.1 st.length && Nat.ble (pm_cs (st.drop q.2.1)) 8) (cl q.1 q.2.2.1 (st.take q.2.1).reverse (sh, h) (pc + 3) L (st.drop q.2.1))
  | .invokespecial i => match (pm_oiL own).contains i with
    | true => pm_pr z st fun _ r => pm_b z (hd && Nat.ble (pm_cs r) 8) (k (pc + 3) L r (sh, h))
    | false => pm_o z (pm_lk i (pm_miL own)) fun q => pm_pr z (st.drop q.2.1) fun a rest => pm_b z (Nat.ble (pm_cs rest) 8) (cl q.1 2 (.ref a :: (st.take q.2.1).reverse) (sh, h) (pc + 3) L rest)
  | .ireturn => pm_pi z st fun x r => match r with
    | [] => pm_rt z ret x (rt (some (.int x)) (sh, h))
    | _ => z
  | .return_ => match st with
    | [] => (match ret with
      | none => rt none (sh, h)
      | _ => z)
    | _ => z
  | _ => z
end PMF
end
section
/-! the methods: their codes (as TURN printed them), each row held against the bytes -/
def pm_ln (op : Instr) (len : Nat) : Nat := match op with
  | .bipush _ | .ldc _ | .iload _ | .lload _ | .istore _ | .lstore _ | .newarray _ => 2
  | .sipush _ | .ldc_w _ | .iinc _ _ | .goto _ | .ifCond _ _ | .if_icmp _ _ | .getfield _ | .putfield _ | .new _ | .invokevirtual _ | .invokestatic _ | .invokespecial _ => 3
  | .tableswitch _ _ _ _ => len
  | _ => 1
def pm_ck (b : ByteArray) (l : List (Nat × Nat × Instr)) : Bool := l.all (fun e => decide (decode b e.1 = .ok (e.2.2, e.2.1)) && decide (e.2.1 = pm_ln e.2.2 e.2.1))
theorem pm_ck_app {b : ByteArray} {l1 l2 : List (Nat × Nat × Instr)} (h1 : pm_ck b l1 = true) (h2 : pm_ck b l2 = true) : pm_ck b (l1 ++ l2) = true := by
  unfold pm_ck at *; rw [List.all_append, h1, h2]; rfl
def cd_0 : List (Nat × Nat × Instr) := [(0, 1, .aload_n 0), (1, 3, .invokespecial 3), (4, 1, .aload_n 0), (5, 2, .bipush 8), (7, 2, .newarray .int), (9, 3, .putfield 9), (12, 1, .aload_n 0), (13, 2, .bipush 50), (15, 3, .putfield 15), (18, 1, .return_)]
theorem ck_0 : pm_ck prog_2_method_1_code cd_0 = true := by decide +kernel
def mt_0 : pmM := (⟨"LampFeast$Bills", "<init>", "()V"⟩, prog_2_method_1_code, 1, none, 0, 0, cd_0)
def cd_1 : List (Nat × Nat × Instr) := [(0, 1, .iconst 0), (1, 1, .istore_n 1), (2, 1, .iconst 0), (3, 1, .istore_n 2), (4, 1, .iload_n 2), (5, 2, .bipush 8), (7, 3, .if_icmp .ge 18), (10, 1, .iload_n 1), (11, 1, .aload_n 0), (12, 3, .getfield 9), (15, 1, .iload_n 2), (16, 1, .iaload), (17, 1, .iadd), (18, 1, .istore_n 1), (19, 3, .iinc 2 1), (22, 3, .goto (-18)), (25, 1, .iload_n 1), (26, 1, .ireturn)]
theorem ck_1 : pm_ck prog_2_method_2_code cd_1 = true := by decide +kernel
def mt_1 : pmM := (⟨"LampFeast$Bills", "allFronts", "()I"⟩, prog_2_method_2_code, 3, (some .int), 0, 0, cd_1)
def cd_2 : List (Nat × Nat × Instr) := [(0, 1, .aload_n 0), (1, 3, .invokevirtual 19), (4, 3, .ifCond .ne 7), (7, 1, .iload_n 1), (8, 3, .goto 12), (11, 1, .iload_n 1), (12, 1, .aload_n 0), (13, 3, .getfield 15), (16, 1, .imul), (17, 2, .bipush 100), (19, 1, .idiv), (20, 1, .ireturn)]
theorem ck_2 : pm_ck prog_2_method_3_code cd_2 = true := by decide +kernel
def mt_2 : pmM := (⟨"LampFeast$Bills", "townPays", "(I)I"⟩, prog_2_method_3_code, 2, (some .int), 0, 1, cd_2)
def cd_3_0 : List (Nat × Nat × Instr) := [(0, 1, .aload_n 0), (1, 3, .invokevirtual 19), (4, 1, .istore_n 3), (5, 1, .iload_n 3), (6, 3, .ifCond .ne 5), (9, 1, .iconst 0), (10, 1, .ireturn), (11, 1, .iload_n 2), (12, 1, .aload_n 0), (13, 1, .iload_n 2), (14, 3, .invokevirtual 23), (17, 1, .isub), (18, 2, .istore 4), (20, 2, .iload 4), (22, 2, .istore 5), (24, 1, .iconst 0), (25, 2, .istore 6), (27, 2, .iload 4), (29, 1, .aload_n 0), (30, 3, .getfield 9), (33, 1, .iload_n 1), (34, 1, .iaload), (35, 1, .imul), (36, 1, .iload_n 3), (37, 1, .irem), (38, 2, .istore 7), (40, 1, .iconst 0), (41, 2, .istore 8), (43, 2, .iload 8), (45, 2, .bipush 8), (47, 3, .if_icmp .ge 63), (50, 2, .iload 5), (52, 2, .iload 4), (54, 1, .aload_n 0), (55, 3, .getfield 9), (58, 2, .iload 8), (60, 1, .iaload), (61, 1, .imul), (62, 1, .iload_n 3), (63, 1, .idiv), (64, 1, .isub), (65, 2, .istore 5), (67, 2, .iload 4), (69, 1, .aload_n 0), (70, 3, .getfield 9), (73, 2, .iload 8), (75, 1, .iaload), (76, 1, .imul), (77, 1, .iload_n 3), (78, 1, .irem), (79, 2, .istore 9), (81, 2, .iload 9), (83, 2, .iload 7), (85, 3, .if_icmp .gt 16), (88, 2, .iload 9), (90, 2, .iload 7), (92, 3, .if_icmp .ne 12), (95, 2, .iload 8), (97, 1, .iload_n 1), (98, 3, .if_icmp .ge 6)]
theorem ck_3_0 : pm_ck prog_2_method_4_code cd_3_0 = true := by decide +kernel
def cd_3_1 : List (Nat × Nat × Instr) := [(101, 3, .iinc 6 1), (104, 3, .iinc 8 1), (107, 3, .goto (-64)), (110, 2, .iload 4), (112, 1, .aload_n 0), (113, 3, .getfield 9), (116, 1, .iload_n 1), (117, 1, .iaload), (118, 1, .imul), (119, 1, .iload_n 3), (120, 1, .idiv), (121, 2, .istore 8), (123, 2, .iload 6), (125, 2, .iload 5), (127, 3, .if_icmp .ge 10), (130, 2, .iload 8), (132, 1, .iconst 1), (133, 1, .iadd), (134, 3, .goto 5), (137, 2, .iload 8), (139, 1, .ireturn)]
theorem ck_3_1 : pm_ck prog_2_method_4_code cd_3_1 = true := by decide +kernel
def cd_3 : List (Nat × Nat × Instr) := cd_3_0 ++ (cd_3_1)
theorem ck_3 : pm_ck prog_2_method_4_code cd_3 = true := pm_ck_app ck_3_0 (ck_3_1)
def mt_3 : pmM := (⟨"LampFeast$Bills", "shopPays", "(II)I"⟩, prog_2_method_4_code, 10, (some .int), 0, 2, cd_3)
def cd_4 : List (Nat × Nat × Instr) := [(0, 1, .aload_n 0), (1, 3, .invokespecial 3), (4, 1, .aload_n 0), (5, 1, .aload_n 1), (6, 3, .putfield 9), (9, 1, .aload_n 0), (10, 3, .sipush 1000), (13, 3, .putfield 15), (16, 1, .aload_n 0), (17, 2, .bipush 24), (19, 2, .newarray .boolean), (21, 3, .putfield 19), (24, 1, .aload_n 0), (25, 2, .bipush 24), (27, 2, .newarray .int), (29, 3, .putfield 23), (32, 1, .aload_n 0), (33, 2, .bipush 24), (35, 2, .newarray .int), (37, 3, .putfield 27), (40, 1, .aload_n 0), (41, 2, .bipush 24), (43, 2, .newarray .int), (45, 3, .putfield 30), (48, 1, .aload_n 0), (49, 2, .bipush 24), (51, 2, .newarray .int), (53, 3, .putfield 33), (56, 1, .return_)]
theorem ck_4 : pm_ck prog_3_method_1_code cd_4 = true := by decide +kernel
def mt_4 : pmM := (⟨"LampFeast$Branches", "<init>", "(LLampFeast$Strings;)V"⟩, prog_3_method_1_code, 2, none, 1, 1, cd_4)
def cd_5 : List (Nat × Nat × Instr) := [(0, 1, .aload_n 0), (1, 3, .invokevirtual 36), (4, 1, .aload_n 0), (5, 3, .invokevirtual 39), (8, 1, .aload_n 0), (9, 3, .invokevirtual 42), (12, 1, .return_)]
theorem ck_5 : pm_ck prog_3_method_2_code cd_5 = true := by decide +kernel
def mt_5 : pmM := (⟨"LampFeast$Branches", "survey", "()V"⟩, prog_3_method_2_code, 1, none, 1, 0, cd_5)
def cd_6 : List (Nat × Nat × Instr) := [(0, 1, .iconst 0), (1, 1, .istore_n 1), (2, 1, .iload_n 1), (3, 1, .aload_n 0), (4, 3, .getfield 9), (7, 3, .getfield 45), (10, 3, .if_icmp .ge 55), (13, 1, .aload_n 0), (14, 3, .getfield 9), (17, 3, .getfield 50), (20, 1, .iload_n 1), (21, 1, .iaload), (22, 1, .istore_n 2), (23, 1, .aload_n 0), (24, 3, .getfield 19), (27, 1, .iload_n 1), (28, 1, .aload_n 0), (29, 3, .getfield 9), (32, 3, .getfield 53), (35, 1, .iload_n 1), (36, 1, .baload), (37, 3, .ifCond .ne 16), (40, 1, .iload_n 2), (41, 3, .ifCond .lt 16), (44, 1, .aload_n 0), (45, 3, .getfield 19), (48, 1, .iload_n 2), (49, 1, .baload), (50, 3, .ifCond .eq 7), (53, 1, .iconst 1), (54, 3, .goto 4), (57, 1, .iconst 0), (58, 1, .bastore), (59, 3, .iinc 1 1), (62, 3, .goto (-60)), (65, 1, .return_)]
theorem ck_6 : pm_ck prog_3_method_3_code cd_6 = true := by decide +kernel
def mt_6 : pmM := (⟨"LampFeast$Branches", "surveyDark", "()V"⟩, prog_3_method_3_code, 3, none, 1, 0, cd_6)
def cd_7_0 : List (Nat × Nat × Instr) := [(0, 1, .iconst 0), (1, 1, .istore_n 1), (2, 1, .iload_n 1), (3, 1, .aload_n 0), (4, 3, .getfield 9), (7, 3, .getfield 45), (10, 3, .if_icmp .ge 50), (13, 1, .aload_n 0), (14, 3, .getfield 27), (17, 1, .iload_n 1), (18, 1, .aload_n 0), (19, 3, .getfield 9), (22, 1, .iload_n 1), (23, 3, .invokevirtual 56), (26, 1, .iastore), (27, 1, .aload_n 0), (28, 3, .getfield 23), (31, 1, .iload_n 1), (32, 1, .aload_n 0), (33, 3, .getfield 19), (36, 1, .iload_n 1), (37, 1, .baload), (38, 3, .ifCond .eq 7), (41, 1, .iconst 0), (42, 3, .goto 11), (45, 1, .aload_n 0), (46, 3, .getfield 9), (49, 1, .iload_n 1), (50, 3, .invokevirtual 56), (53, 1, .iastore), (54, 3, .iinc 1 1), (57, 3, .goto (-55)), (60, 1, .aload_n 0), (61, 3, .getfield 9), (64, 3, .getfield 45), (67, 1, .iconst 1), (68, 1, .isub), (69, 1, .istore_n 1), (70, 1, .iload_n 1), (71, 3, .ifCond .lt 53), (74, 1, .aload_n 0), (75, 3, .getfield 9), (78, 3, .getfield 50), (81, 1, .iload_n 1), (82, 1, .iaload), (83, 1, .istore_n 2), (84, 1, .iload_n 2), (85, 3, .ifCond .lt 33), (88, 1, .aload_n 0), (89, 3, .getfield 27), (92, 1, .iload_n 2), (93, 1, .dup2), (94, 1, .iaload), (95, 1, .aload_n 0), (96, 3, .getfield 27), (99, 1, .iload_n 1), (100, 1, .iaload), (101, 1, .iadd), (102, 1, .iastore), (103, 1, .aload_n 0)]
theorem ck_7_0 : pm_ck prog_3_method_4_code cd_7_0 = true := by decide +kernel
def cd_7_1 : List (Nat × Nat × Instr) := [(104, 3, .getfield 23), (107, 1, .iload_n 2), (108, 1, .dup2), (109, 1, .iaload), (110, 1, .aload_n 0), (111, 3, .getfield 23), (114, 1, .iload_n 1), (115, 1, .iaload), (116, 1, .iadd), (117, 1, .iastore), (118, 3, .iinc 1 (-1)), (121, 3, .goto (-51)), (124, 1, .return_)]
theorem ck_7_1 : pm_ck prog_3_method_4_code cd_7_1 = true := by decide +kernel
def cd_7 : List (Nat × Nat × Instr) := cd_7_0 ++ (cd_7_1)
theorem ck_7 : pm_ck prog_3_method_4_code cd_7 = true := pm_ck_app ck_7_0 (ck_7_1)
def mt_7 : pmM := (⟨"LampFeast$Branches", "surveyLoads", "()V"⟩, prog_3_method_4_code, 3, none, 1, 0, cd_7)
def cd_8_0 : List (Nat × Nat × Instr) := [(0, 1, .iconst 0), (1, 1, .istore_n 1), (2, 1, .iload_n 1), (3, 1, .aload_n 0), (4, 3, .getfield 9), (7, 3, .getfield 45), (10, 3, .if_icmp .ge 123), (13, 1, .aload_n 0), (14, 3, .getfield 9), (17, 3, .getfield 50), (20, 1, .iload_n 1), (21, 1, .iaload), (22, 1, .istore_n 2), (23, 1, .aload_n 0), (24, 3, .getfield 9), (27, 3, .getfield 60), (30, 1, .iload_n 1), (31, 1, .iaload), (32, 1, .aload_n 0), (33, 3, .getfield 27), (36, 1, .iload_n 1), (37, 1, .iaload), (38, 1, .imul), (39, 1, .iconst 1), (40, 2, .bipush 10), (42, 1, .aload_n 0), (43, 3, .getfield 9), (46, 3, .getfield 63), (49, 1, .iload_n 1), (50, 1, .iaload), (51, 1, .imul), (52, 3, .invokestatic 66), (55, 1, .idiv), (56, 1, .istore_n 3), (57, 1, .aload_n 0), (58, 3, .getfield 30), (61, 1, .iload_n 1), (62, 1, .iload_n 2), (63, 3, .ifCond .lt 14), (66, 1, .aload_n 0), (67, 3, .getfield 30), (70, 1, .iload_n 2), (71, 1, .iaload), (72, 1, .iload_n 3), (73, 1, .iadd), (74, 3, .goto 4), (77, 1, .iload_n 3), (78, 1, .iastore), (79, 1, .iload_n 2), (80, 3, .ifCond .lt 12), (83, 1, .aload_n 0), (84, 3, .getfield 33), (87, 1, .iload_n 2), (88, 1, .iaload), (89, 3, .goto 4), (92, 1, .iconst 0), (93, 2, .istore 4), (95, 1, .aload_n 0), (96, 3, .getfield 33), (99, 1, .iload_n 1)]
theorem ck_8_0 : pm_ck prog_3_method_5_code cd_8_0 = true := by decide +kernel
def cd_8_1 : List (Nat × Nat × Instr) := [(100, 1, .aload_n 0), (101, 3, .getfield 9), (104, 3, .getfield 72), (107, 1, .iload_n 1), (108, 1, .iaload), (109, 3, .ifCond .le 15), (112, 1, .aload_n 0), (113, 3, .getfield 9), (116, 3, .getfield 72), (119, 1, .iload_n 1), (120, 1, .iaload), (121, 3, .goto 5), (124, 2, .iload 4), (126, 1, .iastore), (127, 3, .iinc 1 1), (130, 3, .goto (-128)), (133, 1, .return_)]
theorem ck_8_1 : pm_ck prog_3_method_5_code cd_8_1 = true := by decide +kernel
def cd_8 : List (Nat × Nat × Instr) := cd_8_0 ++ (cd_8_1)
theorem ck_8 : pm_ck prog_3_method_5_code cd_8 = true := pm_ck_app ck_8_0 (ck_8_1)
def mt_8 : pmM := (⟨"LampFeast$Branches", "surveyFalls", "()V"⟩, prog_3_method_5_code, 5, none, 1, 0, cd_8)
def cd_9_0 : List (Nat × Nat × Instr) := [(0, 1, .aload_n 0), (1, 3, .getfield 9), (4, 3, .getfield 72), (7, 1, .iload_n 1), (8, 1, .iaload), (9, 1, .istore_n 2), (10, 1, .iload_n 2), (11, 3, .ifCond .le 15), (14, 1, .aload_n 0), (15, 3, .getfield 27), (18, 1, .iload_n 1), (19, 1, .iaload), (20, 1, .iload_n 2), (21, 3, .if_icmp .le 5), (24, 1, .iconst 1), (25, 1, .ireturn), (26, 1, .aload_n 0), (27, 3, .getfield 9), (30, 3, .getfield 75), (33, 1, .iload_n 1), (34, 1, .iaload), (35, 1, .iconst 1), (36, 3, .if_icmp .ne 16), (39, 1, .iload_n 2), (40, 3, .ifCond .eq 10), (43, 1, .iload_n 2), (44, 3, .sipush 500), (47, 3, .if_icmp .le 5), (50, 1, .iconst 2), (51, 1, .ireturn), (52, 1, .aload_n 0), (53, 3, .getfield 30), (56, 1, .iload_n 1), (57, 1, .iaload), (58, 1, .aload_n 0), (59, 3, .getfield 15), (62, 3, .if_icmp .le 5), (65, 1, .iconst 3), (66, 1, .ireturn), (67, 1, .iload_n 2), (68, 1, .aload_n 0), (69, 3, .getfield 9), (72, 1, .iload_n 1), (73, 3, .invokevirtual 78), (76, 3, .if_icmp .le 5), (79, 1, .iconst 4), (80, 1, .ireturn), (81, 1, .aload_n 0), (82, 3, .getfield 33), (85, 1, .iload_n 1), (86, 1, .iaload), (87, 3, .ifCond .ne 5), (90, 1, .iconst 5), (91, 1, .ireturn), (92, 1, .aload_n 0), (93, 3, .getfield 33), (96, 1, .iload_n 1), (97, 1, .iaload), (98, 1, .aload_n 0), (99, 3, .getfield 9)]
theorem ck_9_0 : pm_ck prog_3_method_6_code cd_9_0 = true := by decide +kernel
def cd_9_1 : List (Nat × Nat × Instr) := [(102, 1, .iload_n 1), (103, 3, .invokevirtual 78), (106, 3, .if_icmp .le 8), (109, 2, .bipush 6), (111, 3, .goto 4), (114, 1, .iconst 0), (115, 1, .ireturn)]
theorem ck_9_1 : pm_ck prog_3_method_6_code cd_9_1 = true := by decide +kernel
def cd_9 : List (Nat × Nat × Instr) := cd_9_0 ++ (cd_9_1)
theorem ck_9 : pm_ck prog_3_method_6_code cd_9 = true := pm_ck_app ck_9_0 (ck_9_1)
def mt_9 : pmM := (⟨"LampFeast$Branches", "wrong", "(I)I"⟩, prog_3_method_6_code, 3, (some .int), 1, 1, cd_9)
def cd_10 : List (Nat × Nat × Instr) := [(0, 1, .iconst 0), (1, 1, .istore_n 1), (2, 1, .iconst 0), (3, 1, .istore_n 2), (4, 1, .iload_n 2), (5, 2, .bipush 24), (7, 3, .if_icmp .ge 36), (10, 1, .aload_n 0), (11, 3, .invokevirtual 81), (14, 1, .aload_n 0), (15, 3, .invokevirtual 84), (18, 1, .istore_n 3), (19, 1, .iload_n 3), (20, 3, .ifCond .ge 6), (23, 3, .goto 20), (26, 1, .aload_n 0), (27, 3, .getfield 9), (30, 1, .iload_n 3), (31, 3, .invokevirtual 88), (34, 3, .iinc 1 1), (37, 3, .iinc 2 1), (40, 3, .goto (-36)), (43, 1, .iload_n 1), (44, 1, .ireturn)]
theorem ck_10 : pm_ck prog_3_method_7_code cd_10 = true := by decide +kernel
def mt_10 : pmM := (⟨"LampFeast$Branches", "blowFuses", "()I"⟩, prog_3_method_7_code, 4, (some .int), 1, 0, cd_10)
def cd_11 : List (Nat × Nat × Instr) := [(0, 1, .aload_n 0), (1, 3, .getfield 9), (4, 3, .getfield 45), (7, 1, .iconst 1), (8, 1, .isub), (9, 1, .istore_n 1), (10, 1, .iload_n 1), (11, 3, .ifCond .lt 41), (14, 1, .aload_n 0), (15, 3, .getfield 9), (18, 3, .getfield 72), (21, 1, .iload_n 1), (22, 1, .iaload), (23, 3, .ifCond .le 23), (26, 1, .aload_n 0), (27, 3, .getfield 9), (30, 3, .getfield 72), (33, 1, .iload_n 1), (34, 1, .iaload), (35, 1, .aload_n 0), (36, 3, .getfield 23), (39, 1, .iload_n 1), (40, 1, .iaload), (41, 3, .if_icmp .ge 5), (44, 1, .iload_n 1), (45, 1, .ireturn), (46, 3, .iinc 1 (-1)), (49, 3, .goto (-39)), (52, 1, .iconst (-1)), (53, 1, .ireturn)]
theorem ck_11 : pm_ck prog_3_method_8_code cd_11 = true := by decide +kernel
def mt_11 : pmM := (⟨"LampFeast$Branches", "lastOverloaded", "()I"⟩, prog_3_method_8_code, 2, (some .int), 1, 0, cd_11)
def cd_12 : List (Nat × Nat × Instr) := [(0, 1, .aload_n 0), (1, 3, .invokespecial 3), (4, 1, .aload_n 0), (5, 2, .bipush 12), (7, 2, .newarray .int), (9, 3, .putfield 9), (12, 1, .aload_n 0), (13, 2, .bipush 12), (15, 2, .newarray .int), (17, 3, .putfield 15), (20, 1, .aload_n 0), (21, 2, .bipush 12), (23, 2, .newarray .int), (25, 3, .putfield 18), (28, 1, .aload_n 0), (29, 2, .bipush 12), (31, 2, .newarray .int), (33, 3, .putfield 21), (36, 1, .return_)]
theorem ck_12 : pm_ck prog_4_method_1_code cd_12 = true := by decide +kernel
def mt_12 : pmM := (⟨"LampFeast$Crates", "<init>", "()V"⟩, prog_4_method_1_code, 1, none, 2, 0, cd_12)
def cd_13 : List (Nat × Nat × Instr) := [(0, 1, .iload_n 1), (1, 3, .ifCond .lt 15), (4, 1, .iload_n 1), (5, 1, .aload_n 0), (6, 3, .getfield 24), (9, 3, .if_icmp .ge 7), (12, 1, .iconst 1), (13, 3, .goto 4), (16, 1, .iconst 0), (17, 1, .ireturn)]
theorem ck_13 : pm_ck prog_4_method_2_code cd_13 = true := by decide +kernel
def mt_13 : pmM := (⟨"LampFeast$Crates", "has", "(I)Z"⟩, prog_4_method_2_code, 2, (some .boolean), 2, 1, cd_13)
def cd_14 : List (Nat × Nat × Instr) := [(0, 1, .aload_n 0), (1, 3, .getfield 24), (4, 1, .istore_n 2), (5, 1, .aload_n 0), (6, 3, .getfield 9), (9, 1, .iload_n 2), (10, 1, .iload_n 1), (11, 1, .iastore), (12, 1, .aload_n 0), (13, 3, .getfield 15), (16, 1, .iload_n 2), (17, 1, .iload_n 1), (18, 1, .iastore), (19, 1, .aload_n 0), (20, 1, .dup), (21, 3, .getfield 24), (24, 1, .iconst 1), (25, 1, .iadd), (26, 3, .putfield 24), (29, 1, .iload_n 2), (30, 1, .ireturn)]
theorem ck_14 : pm_ck prog_4_method_3_code cd_14 = true := by decide +kernel
def mt_14 : pmM := (⟨"LampFeast$Crates", "add", "(I)I"⟩, prog_4_method_3_code, 3, (some .int), 2, 1, cd_14)
def cd_15 : List (Nat × Nat × Instr) := [(0, 1, .iconst 0), (1, 1, .istore_n 1), (2, 1, .iconst 0), (3, 1, .istore_n 2), (4, 1, .iload_n 2), (5, 1, .aload_n 0), (6, 3, .getfield 24), (9, 3, .if_icmp .ge 18), (12, 1, .iload_n 1), (13, 1, .aload_n 0), (14, 3, .getfield 15), (17, 1, .iload_n 2), (18, 1, .iaload), (19, 1, .iadd), (20, 1, .istore_n 1), (21, 3, .iinc 2 1), (24, 3, .goto (-20)), (27, 1, .iload_n 1), (28, 1, .ireturn)]
theorem ck_15 : pm_ck prog_4_method_4_code cd_15 = true := by decide +kernel
def mt_15 : pmM := (⟨"LampFeast$Crates", "allLeft", "()I"⟩, prog_4_method_4_code, 3, (some .int), 2, 0, cd_15)
def cd_16 : List (Nat × Nat × Instr) := [(0, 1, .iconst 0), (1, 1, .istore_n 1), (2, 1, .iload_n 1), (3, 1, .aload_n 0), (4, 3, .getfield 24), (7, 3, .if_icmp .ge 40), (10, 1, .aload_n 0), (11, 3, .getfield 15), (14, 1, .iload_n 1), (15, 1, .iaload), (16, 3, .ifCond .le 25), (19, 1, .aload_n 0), (20, 3, .getfield 15), (23, 1, .iload_n 1), (24, 1, .dup2), (25, 1, .iaload), (26, 1, .iconst 1), (27, 1, .isub), (28, 1, .iastore), (29, 1, .aload_n 0), (30, 3, .getfield 21), (33, 1, .iload_n 1), (34, 1, .dup2), (35, 1, .iaload), (36, 1, .iconst 1), (37, 1, .iadd), (38, 1, .iastore), (39, 1, .iload_n 1), (40, 1, .ireturn), (41, 3, .iinc 1 1), (44, 3, .goto (-42)), (47, 1, .iconst (-1)), (48, 1, .ireturn)]
theorem ck_16 : pm_ck prog_4_method_5_code cd_16 = true := by decide +kernel
def mt_16 : pmM := (⟨"LampFeast$Crates", "take", "()I"⟩, prog_4_method_5_code, 2, (some .int), 2, 0, cd_16)
def cd_17 : List (Nat × Nat × Instr) := [(0, 1, .aload_n 0), (1, 1, .iload_n 1), (2, 3, .invokevirtual 28), (5, 3, .ifCond .eq 23), (8, 1, .aload_n 0), (9, 3, .getfield 21), (12, 1, .iload_n 1), (13, 1, .dup2), (14, 1, .iaload), (15, 1, .iconst 1), (16, 1, .isub), (17, 1, .iastore), (18, 1, .aload_n 0), (19, 3, .getfield 18), (22, 1, .iload_n 1), (23, 1, .dup2), (24, 1, .iaload), (25, 1, .iconst 1), (26, 1, .iadd), (27, 1, .iastore), (28, 1, .return_)]
theorem ck_17 : pm_ck prog_4_method_6_code cd_17 = true := by decide +kernel
def mt_17 : pmM := (⟨"LampFeast$Crates", "spoil", "(I)V"⟩, prog_4_method_6_code, 2, none, 2, 1, cd_17)
def cd_18 : List (Nat × Nat × Instr) := [(0, 1, .aload_n 0), (1, 3, .invokespecial 3), (4, 1, .aload_n 0), (5, 1, .aload_n 1), (6, 3, .putfield 9), (9, 1, .aload_n 0), (10, 1, .aload_n 2), (11, 3, .putfield 15), (14, 1, .aload_n 0), (15, 3, .sipush 576), (18, 2, .newarray .int), (20, 3, .putfield 19), (23, 1, .aload_n 0), (24, 2, .ldc 23), (26, 3, .putfield 24), (29, 1, .return_)]
theorem ck_18 : pm_ck prog_5_method_1_code cd_18 = true := by decide +kernel
def mt_18 : pmM := (⟨"LampFeast$FuseSearch", "<init>", "(LLampFeast$Strings;LLampFeast$Branches;)V"⟩, prog_5_method_1_code, 3, none, 3, 2, cd_18)
def cd_19 : List (Nat × Nat × Instr) := [(0, 1, .aload_n 0), (1, 3, .getfield 15), (4, 3, .invokevirtual 28), (7, 1, .aload_n 0), (8, 3, .getfield 19), (11, 1, .iconst 0), (12, 3, .invokestatic 33), (15, 1, .aload_n 0), (16, 1, .iconst 0), (17, 3, .putfield 24), (20, 1, .aload_n 0), (21, 3, .getfield 9), (24, 3, .getfield 39), (27, 1, .iconst 1), (28, 1, .isub), (29, 1, .istore_n 1), (30, 1, .iload_n 1), (31, 3, .ifCond .lt 51), (34, 1, .aload_n 0), (35, 3, .getfield 9), (38, 3, .getfield 44), (41, 1, .iload_n 1), (42, 1, .iaload), (43, 1, .istore_n 2), (44, 1, .aload_n 0), (45, 1, .iload_n 1), (46, 3, .invokevirtual 47), (49, 1, .istore_n 3), (50, 1, .iload_n 2), (51, 3, .ifCond .ge 18), (54, 1, .aload_n 0), (55, 1, .aload_n 0), (56, 3, .getfield 24), (59, 1, .iload_n 3), (60, 3, .invokestatic 51), (63, 3, .putfield 24), (66, 3, .goto 10), (69, 1, .aload_n 0), (70, 1, .iload_n 1), (71, 1, .iload_n 2), (72, 1, .iload_n 3), (73, 3, .invokevirtual 55), (76, 3, .iinc 1 (-1)), (79, 3, .goto (-49)), (82, 1, .aload_n 0), (83, 3, .getfield 24), (86, 2, .ldc 23), (88, 3, .if_icmp .ge 7), (91, 1, .iconst 1), (92, 3, .goto 4), (95, 1, .iconst 0), (96, 1, .ireturn)]
theorem ck_19 : pm_ck prog_5_method_2_code cd_19 = true := by decide +kernel
def mt_19 : pmM := (⟨"LampFeast$FuseSearch", "search", "()Z"⟩, prog_5_method_2_code, 4, (some .boolean), 3, 0, cd_19)
def cd_20 : List (Nat × Nat × Instr) := [(0, 1, .iconst 0), (1, 2, .istore 4), (3, 2, .iload 4), (5, 1, .iload_n 2), (6, 3, .if_icmp .gt 46), (9, 1, .iload_n 2), (10, 2, .bipush 24), (12, 1, .imul), (13, 2, .iload 4), (15, 1, .iadd), (16, 2, .istore 5), (18, 1, .aload_n 0), (19, 3, .getfield 19), (22, 2, .iload 5), (24, 1, .aload_n 0), (25, 3, .getfield 19), (28, 2, .iload 5), (30, 1, .iaload), (31, 1, .iload_n 3), (32, 1, .aload_n 0), (33, 1, .iload_n 1), (34, 2, .iload 4), (36, 3, .invokevirtual 59), (39, 3, .invokestatic 62), (42, 3, .invokestatic 51), (45, 1, .iastore), (46, 3, .iinc 4 1), (49, 3, .goto (-46)), (52, 1, .return_)]
theorem ck_20 : pm_ck prog_5_method_3_code cd_20 = true := by decide +kernel
def mt_20 : pmM := (⟨"LampFeast$FuseSearch", "joinToUp", "(III)V"⟩, prog_5_method_3_code, 6, none, 3, 3, cd_20)
def cd_21 : List (Nat × Nat × Instr) := [(0, 1, .aload_n 0), (1, 3, .getfield 15), (4, 3, .getfield 67), (7, 1, .iload_n 1), (8, 1, .iaload), (9, 1, .istore_n 2), (10, 1, .iload_n 2), (11, 1, .aload_n 0), (12, 3, .getfield 9), (15, 1, .iload_n 1), (16, 3, .invokevirtual 70), (19, 3, .if_icmp .gt 23), (22, 1, .aload_n 0), (23, 3, .getfield 9), (26, 3, .getfield 73), (29, 1, .iload_n 1), (30, 1, .iaload), (31, 1, .iconst 1), (32, 3, .if_icmp .ne 14), (35, 1, .iload_n 2), (36, 3, .sipush 500), (39, 3, .if_icmp .le 7), (42, 1, .iconst 1), (43, 3, .goto 4), (46, 1, .iconst 0), (47, 1, .istore_n 3), (48, 1, .iload_n 3), (49, 3, .ifCond .eq 8), (52, 2, .ldc 23), (54, 3, .goto 23), (57, 2, .ldc 76), (59, 1, .iconst 1), (60, 1, .iload_n 1), (61, 1, .ishl), (62, 1, .iadd), (63, 1, .aload_n 0), (64, 3, .getfield 19), (67, 1, .iload_n 1), (68, 2, .bipush 24), (70, 1, .imul), (71, 1, .iload_n 1), (72, 1, .iadd), (73, 1, .iaload), (74, 3, .invokestatic 51), (77, 1, .ireturn)]
theorem ck_21 : pm_ck prog_5_method_4_code cd_21 = true := by decide +kernel
def mt_21 : pmM := (⟨"LampFeast$FuseSearch", "costWithFuse", "(I)I"⟩, prog_5_method_4_code, 4, (some .int), 3, 1, cd_21)
def cd_22 : List (Nat × Nat × Instr) := [(0, 1, .aload_n 0), (1, 3, .getfield 9), (4, 3, .getfield 73), (7, 1, .iload_n 1), (8, 1, .iaload), (9, 1, .iconst 1), (10, 3, .if_icmp .eq 23), (13, 1, .aload_n 0), (14, 3, .getfield 15), (17, 3, .getfield 67), (20, 1, .iload_n 2), (21, 1, .iaload), (22, 1, .aload_n 0), (23, 3, .getfield 9), (26, 1, .iload_n 1), (27, 3, .invokevirtual 70), (30, 3, .if_icmp .le 7), (33, 1, .iconst 1), (34, 3, .goto 4), (37, 1, .iconst 0), (38, 1, .istore_n 3), (39, 1, .iload_n 3), (40, 3, .ifCond .eq 8), (43, 2, .ldc 23), (45, 3, .goto 14), (48, 1, .aload_n 0), (49, 3, .getfield 19), (52, 1, .iload_n 1), (53, 2, .bipush 24), (55, 1, .imul), (56, 1, .iload_n 2), (57, 1, .iadd), (58, 1, .iaload), (59, 1, .ireturn)]
theorem ck_22 : pm_ck prog_5_method_5_code cd_22 = true := by decide +kernel
def mt_22 : pmM := (⟨"LampFeast$FuseSearch", "costWithout", "(II)I"⟩, prog_5_method_5_code, 4, (some .int), 3, 2, cd_22)
def cd_23 : List (Nat × Nat × Instr) := [(0, 2, .ldc 23), (2, 1, .iload_n 0), (3, 1, .iload_n 1), (4, 1, .iadd), (5, 3, .invokestatic 62), (8, 1, .ireturn)]
theorem ck_23 : pm_ck prog_5_method_6_code cd_23 = true := by decide +kernel
def mt_23 : pmM := (⟨"LampFeast$FuseSearch", "join", "(II)I"⟩, prog_5_method_6_code, 2, (some .int), 3, 2, cd_23)
def cd_24 : List (Nat × Nat × Instr) := [(0, 1, .aload_n 0), (1, 3, .getfield 24), (4, 2, .bipush 24), (6, 1, .ishr), (7, 1, .ireturn)]
theorem ck_24 : pm_ck prog_5_method_7_code cd_24 = true := by decide +kernel
def mt_24 : pmM := (⟨"LampFeast$FuseSearch", "howMany", "()I"⟩, prog_5_method_7_code, 1, (some .int), 3, 0, cd_24)
def cd_25 : List (Nat × Nat × Instr) := [(0, 1, .aload_n 0), (1, 3, .getfield 24), (4, 2, .ldc 77), (6, 1, .iand), (7, 1, .ireturn)]
theorem ck_25 : pm_ck prog_5_method_8_code cd_25 = true := by decide +kernel
def mt_25 : pmM := (⟨"LampFeast$FuseSearch", "asBits", "()I"⟩, prog_5_method_8_code, 1, (some .int), 3, 0, cd_25)
def cd_26 : List (Nat × Nat × Instr) := [(0, 1, .iconst 0), (1, 1, .istore_n 1), (2, 1, .iload_n 1), (3, 1, .aload_n 0), (4, 3, .getfield 9), (7, 3, .getfield 39), (10, 3, .if_icmp .ge 42), (13, 1, .aload_n 0), (14, 3, .getfield 9), (17, 3, .getfield 78), (20, 1, .iload_n 1), (21, 1, .aload_n 0), (22, 3, .invokevirtual 81), (25, 1, .iload_n 1), (26, 3, .invokestatic 85), (29, 3, .ifCond .eq 15), (32, 1, .aload_n 0), (33, 3, .getfield 15), (36, 3, .getfield 67), (39, 1, .iload_n 1), (40, 1, .iaload), (41, 3, .goto 4), (44, 1, .iconst 0), (45, 1, .iastore), (46, 3, .iinc 1 1), (49, 3, .goto (-47)), (52, 1, .return_)]
theorem ck_26 : pm_ck prog_5_method_9_code cd_26 = true := by decide +kernel
def mt_26 : pmM := (⟨"LampFeast$FuseSearch", "putFuses", "()V"⟩, prog_5_method_9_code, 2, none, 3, 0, cd_26)
def cd_27 : List (Nat × Nat × Instr) := [(0, 1, .aload_n 0), (1, 3, .invokespecial 3), (4, 1, .aload_n 0), (5, 1, .aload_n 1), (6, 3, .putfield 9), (9, 1, .aload_n 0), (10, 1, .iconst 1), (11, 3, .putfield 15), (14, 1, .aload_n 0), (15, 2, .bipush 6), (17, 3, .putfield 19), (20, 1, .aload_n 0), (21, 2, .bipush 8), (23, 2, .newarray .int), (25, 3, .putfield 22), (28, 1, .aload_n 0), (29, 3, .getfield 22), (32, 2, .bipush 127), (34, 3, .invokestatic 26), (37, 1, .aload_n 0), (38, 2, .bipush 24), (40, 2, .newarray .int), (42, 3, .putfield 32), (45, 1, .aload_n 0), (46, 2, .bipush 24), (48, 2, .newarray .int), (50, 3, .putfield 35), (53, 1, .aload_n 0), (54, 2, .bipush 24), (56, 2, .newarray .int), (58, 3, .putfield 38), (61, 1, .aload_n 0), (62, 3, .sipush 180), (65, 2, .newarray .int), (67, 3, .putfield 41), (70, 1, .aload_n 0), (71, 2, .bipush 6), (73, 2, .newarray .int), (75, 3, .putfield 44), (78, 1, .return_)]
theorem ck_27 : pm_ck prog_6_method_1_code cd_27 = true := by decide +kernel
def mt_27 : pmM := (⟨"LampFeast$Nights", "<init>", "(LLampFeast$Strings;)V"⟩, prog_6_method_1_code, 2, none, 4, 1, cd_27)
def cd_28 : List (Nat × Nat × Instr) := [(0, 1, .aload_n 0), (1, 3, .getfield 32), (4, 1, .iload_n 1), (5, 1, .iload_n 1), (6, 1, .iastore), (7, 1, .return_)]
theorem ck_28 : pm_ck prog_6_method_2_code cd_28 = true := by decide +kernel
def mt_28 : pmM := (⟨"LampFeast$Nights", "putLast", "(I)V"⟩, prog_6_method_2_code, 2, none, 4, 1, cd_28)
def cd_29 : List (Nat × Nat × Instr) := [(0, 1, .iconst 0), (1, 1, .istore_n 2), (2, 1, .iload_n 2), (3, 1, .aload_n 0), (4, 3, .getfield 9), (7, 3, .getfield 47), (10, 3, .if_icmp .ge 21), (13, 1, .aload_n 0), (14, 3, .getfield 32), (17, 1, .iload_n 2), (18, 1, .iaload), (19, 1, .iload_n 1), (20, 3, .if_icmp .ne 5), (23, 1, .iload_n 2), (24, 1, .ireturn), (25, 3, .iinc 2 1), (28, 3, .goto (-26)), (31, 1, .iconst (-1)), (32, 1, .ireturn)]
theorem ck_29 : pm_ck prog_6_method_3_code cd_29 = true := by decide +kernel
def mt_29 : pmM := (⟨"LampFeast$Nights", "placeOf", "(I)I"⟩, prog_6_method_3_code, 3, (some .int), 4, 1, cd_29)
def cd_30 : List (Nat × Nat × Instr) := [(0, 1, .aload_n 0), (1, 1, .iload_n 1), (2, 3, .invokevirtual 52), (5, 1, .istore_n 3), (6, 1, .iload_n 3), (7, 3, .ifCond .ge 5), (10, 1, .iload_n 3), (11, 1, .ireturn), (12, 1, .iload_n 3), (13, 2, .istore 4), (15, 2, .iload 4), (17, 1, .iload_n 2), (18, 3, .if_icmp .ge 25), (21, 1, .aload_n 0), (22, 3, .getfield 32), (25, 2, .iload 4), (27, 1, .aload_n 0), (28, 3, .getfield 32), (31, 2, .iload 4), (33, 1, .iconst 1), (34, 1, .iadd), (35, 1, .iaload), (36, 1, .iastore), (37, 3, .iinc 4 1), (40, 3, .goto (-25)), (43, 1, .iload_n 3), (44, 2, .istore 4), (46, 2, .iload 4), (48, 1, .iload_n 2), (49, 3, .if_icmp .le 25), (52, 1, .aload_n 0), (53, 3, .getfield 32), (56, 2, .iload 4), (58, 1, .aload_n 0), (59, 3, .getfield 32), (62, 2, .iload 4), (64, 1, .iconst 1), (65, 1, .isub), (66, 1, .iaload), (67, 1, .iastore), (68, 3, .iinc 4 (-1)), (71, 3, .goto (-25)), (74, 1, .aload_n 0), (75, 3, .getfield 32), (78, 1, .iload_n 2), (79, 1, .iload_n 1), (80, 1, .iastore), (81, 1, .iload_n 3), (82, 1, .ireturn)]
theorem ck_30 : pm_ck prog_6_method_4_code cd_30 = true := by decide +kernel
def mt_30 : pmM := (⟨"LampFeast$Nights", "move", "(II)I"⟩, prog_6_method_4_code, 5, (some .int), 4, 2, cd_30)
def cd_31 : List (Nat × Nat × Instr) := [(0, 1, .aload_n 0), (1, 3, .invokevirtual 56), (4, 1, .iconst 0), (5, 1, .istore_n 1), (6, 1, .iconst 0), (7, 1, .istore_n 2), (8, 1, .iload_n 2), (9, 1, .aload_n 0), (10, 3, .getfield 9), (13, 3, .getfield 47), (16, 3, .if_icmp .ge 24), (19, 1, .iload_n 1), (20, 1, .aload_n 0), (21, 1, .aload_n 0), (22, 3, .getfield 32), (25, 1, .iload_n 2), (26, 1, .iaload), (27, 3, .invokevirtual 59), (30, 3, .invokestatic 62), (33, 1, .istore_n 1), (34, 3, .iinc 2 1), (37, 3, .goto (-29)), (40, 1, .iload_n 1), (41, 1, .ireturn)]
theorem ck_31 : pm_ck prog_6_method_5_code cd_31 = true := by decide +kernel
def mt_31 : pmM := (⟨"LampFeast$Nights", "hangAll", "()I"⟩, prog_6_method_5_code, 3, (some .int), 4, 0, cd_31)
def cd_32 : List (Nat × Nat × Instr) := [(0, 1, .aload_n 0), (1, 3, .getfield 41), (4, 1, .aload_n 0), (5, 3, .getfield 19), (8, 3, .invokestatic 26), (11, 1, .aload_n 0), (12, 3, .getfield 35), (15, 1, .iconst (-1)), (16, 3, .invokestatic 26), (19, 1, .aload_n 0), (20, 3, .getfield 38), (23, 1, .iconst (-1)), (24, 3, .invokestatic 26), (27, 1, .return_)]
theorem ck_32 : pm_ck prog_6_method_6_code cd_32 = true := by decide +kernel
def mt_32 : pmM := (⟨"LampFeast$Nights", "clearNights", "()V"⟩, prog_6_method_6_code, 1, none, 4, 0, cd_32)
def cd_33_0 : List (Nat × Nat × Instr) := [(0, 1, .aload_n 0), (1, 3, .getfield 9), (4, 3, .getfield 68), (7, 1, .iload_n 1), (8, 1, .iaload), (9, 1, .istore_n 2), (10, 1, .iload_n 2), (11, 3, .ifCond .ge 7), (14, 1, .iconst 0), (15, 3, .goto 9), (18, 1, .aload_n 0), (19, 3, .getfield 35), (22, 1, .iload_n 2), (23, 1, .iaload), (24, 1, .istore_n 3), (25, 1, .iload_n 3), (26, 3, .ifCond .lt 18), (29, 1, .aload_n 0), (30, 3, .getfield 9), (33, 1, .iload_n 1), (34, 3, .invokevirtual 71), (37, 1, .aload_n 0), (38, 3, .getfield 19), (41, 3, .if_icmp .le 6), (44, 2, .bipush 99), (46, 1, .ireturn), (47, 1, .aload_n 0), (48, 3, .getfield 22), (51, 1, .aload_n 0), (52, 3, .getfield 9), (55, 3, .getfield 73), (58, 1, .iload_n 1), (59, 1, .iaload), (60, 1, .iaload), (61, 2, .istore 4), (63, 1, .iload_n 3), (64, 2, .istore 5), (66, 2, .iload 5), (68, 2, .bipush 60), (70, 3, .if_icmp .ge 91), (73, 2, .iload 4), (75, 2, .iload 5), (77, 2, .bipush 7), (79, 1, .irem), (80, 3, .invokestatic 76), (83, 3, .ifCond .eq 20), (86, 1, .aload_n 0), (87, 2, .iload 5), (89, 1, .aload_n 0), (90, 3, .getfield 9), (93, 1, .iload_n 1), (94, 3, .invokevirtual 71), (97, 3, .invokevirtual 80), (100, 3, .goto 4), (103, 1, .iconst (-1)), (104, 2, .istore 6), (106, 2, .iload 6), (108, 3, .ifCond .lt 47), (111, 1, .aload_n 0), (112, 3, .getfield 41)]
theorem ck_33_0 : pm_ck prog_6_method_7_code cd_33_0 = true := by decide +kernel
def cd_33_1 : List (Nat × Nat × Instr) := [(115, 2, .iload 5), (117, 1, .iconst 3), (118, 1, .imul), (119, 2, .iload 6), (121, 1, .iadd), (122, 1, .dup2), (123, 1, .iaload), (124, 1, .aload_n 0), (125, 3, .getfield 9), (128, 1, .iload_n 1), (129, 3, .invokevirtual 71), (132, 1, .isub), (133, 1, .iastore), (134, 1, .aload_n 0), (135, 3, .getfield 35), (138, 1, .iload_n 1), (139, 2, .iload 5), (141, 1, .iastore), (142, 1, .aload_n 0), (143, 3, .getfield 38), (146, 1, .iload_n 1), (147, 2, .iload 6), (149, 1, .iastore), (150, 1, .iconst 1), (151, 2, .iload 5), (153, 1, .iadd), (154, 1, .ireturn), (155, 3, .iinc 5 1), (158, 3, .goto (-92)), (161, 2, .bipush 99), (163, 1, .ireturn)]
theorem ck_33_1 : pm_ck prog_6_method_7_code cd_33_1 = true := by decide +kernel
def cd_33 : List (Nat × Nat × Instr) := cd_33_0 ++ (cd_33_1)
theorem ck_33 : pm_ck prog_6_method_7_code cd_33 = true := pm_ck_app ck_33_0 (ck_33_1)
def mt_33 : pmM := (⟨"LampFeast$Nights", "endWith", "(I)I"⟩, prog_6_method_7_code, 7, (some .int), 4, 1, cd_33)
def cd_34 : List (Nat × Nat × Instr) := [(0, 1, .iconst 0), (1, 1, .istore_n 3), (2, 1, .iload_n 3), (3, 1, .aload_n 0), (4, 3, .getfield 15), (7, 3, .if_icmp .ge 25), (10, 1, .aload_n 0), (11, 3, .getfield 41), (14, 1, .iload_n 1), (15, 1, .iconst 3), (16, 1, .imul), (17, 1, .iload_n 3), (18, 1, .iadd), (19, 1, .iaload), (20, 1, .iload_n 2), (21, 3, .if_icmp .lt 5), (24, 1, .iload_n 3), (25, 1, .ireturn), (26, 3, .iinc 3 1), (29, 3, .goto (-27)), (32, 1, .iconst (-1)), (33, 1, .ireturn)]
theorem ck_34 : pm_ck prog_6_method_8_code cd_34 = true := by decide +kernel
def mt_34 : pmM := (⟨"LampFeast$Nights", "freeCrew", "(II)I"⟩, prog_6_method_8_code, 4, (some .int), 4, 2, cd_34)
def cd_35 : List (Nat × Nat × Instr) := [(0, 1, .aload_n 0), (1, 3, .getfield 35), (4, 1, .iload_n 1), (5, 1, .iaload), (6, 3, .ifCond .lt 48), (9, 1, .aload_n 0), (10, 3, .getfield 41), (13, 1, .aload_n 0), (14, 3, .getfield 35), (17, 1, .iload_n 1), (18, 1, .iaload), (19, 1, .iconst 3), (20, 1, .imul), (21, 1, .aload_n 0), (22, 3, .getfield 38), (25, 1, .iload_n 1), (26, 1, .iaload), (27, 1, .iadd), (28, 1, .dup2), (29, 1, .iaload), (30, 1, .aload_n 0), (31, 3, .getfield 9), (34, 1, .iload_n 1), (35, 3, .invokevirtual 71), (38, 1, .iadd), (39, 1, .iastore), (40, 1, .aload_n 0), (41, 3, .getfield 35), (44, 1, .iload_n 1), (45, 1, .iconst (-1)), (46, 1, .iastore), (47, 1, .aload_n 0), (48, 3, .getfield 38), (51, 1, .iload_n 1), (52, 1, .iconst (-1)), (53, 1, .iastore), (54, 1, .return_)]
theorem ck_35 : pm_ck prog_6_method_9_code cd_35 = true := by decide +kernel
def mt_35 : pmM := (⟨"LampFeast$Nights", "takeDown", "(I)V"⟩, prog_6_method_9_code, 2, none, 4, 1, cd_35)
def cd_36 : List (Nat × Nat × Instr) := [(0, 1, .iconst 0), (1, 1, .istore_n 1), (2, 1, .iload_n 1), (3, 1, .aload_n 0), (4, 3, .getfield 9), (7, 3, .getfield 47), (10, 3, .if_icmp .ge 16), (13, 1, .aload_n 0), (14, 3, .getfield 32), (17, 1, .iload_n 1), (18, 1, .iload_n 1), (19, 1, .iastore), (20, 3, .iinc 1 1), (23, 3, .goto (-21)), (26, 1, .aload_n 0), (27, 1, .aload_n 0), (28, 3, .invokevirtual 83), (31, 3, .putfield 87), (34, 1, .aload_n 0), (35, 3, .invokevirtual 56), (38, 1, .aload_n 0), (39, 1, .iconst 0), (40, 1, .iconst 0), (41, 1, .iconst 0), (42, 3, .invokevirtual 90), (45, 1, .aload_n 0), (46, 3, .getfield 87), (49, 1, .ireturn)]
theorem ck_36 : pm_ck prog_6_method_10_code cd_36 = true := by decide +kernel
def mt_36 : pmM := (⟨"LampFeast$Nights", "takeBestOrder", "()I"⟩, prog_6_method_10_code, 2, (some .int), 4, 0, cd_36)
def cd_37 : List (Nat × Nat × Instr) := [(0, 1, .iload_n 1), (1, 1, .aload_n 0), (2, 3, .getfield 9), (5, 3, .getfield 47), (8, 3, .if_icmp .ge 9), (11, 1, .iload_n 1), (12, 2, .bipush 6), (14, 3, .if_icmp .lt 9), (17, 1, .aload_n 0), (18, 1, .iload_n 3), (19, 3, .invokevirtual 94), (22, 1, .return_), (23, 1, .iconst 0), (24, 2, .istore 4), (26, 2, .iload 4), (28, 1, .aload_n 0), (29, 3, .getfield 9), (32, 3, .getfield 47), (35, 3, .if_icmp .ge 71), (38, 1, .iload_n 2), (39, 2, .iload 4), (41, 3, .invokestatic 76), (44, 3, .ifCond .eq 6), (47, 3, .goto 53), (50, 1, .iload_n 3), (51, 1, .aload_n 0), (52, 2, .iload 4), (54, 3, .invokevirtual 59), (57, 3, .invokestatic 62), (60, 2, .istore 5), (62, 2, .iload 5), (64, 1, .aload_n 0), (65, 3, .getfield 87), (68, 3, .if_icmp .ge 26), (71, 1, .aload_n 0), (72, 3, .getfield 44), (75, 1, .iload_n 1), (76, 2, .iload 4), (78, 1, .iastore), (79, 1, .aload_n 0), (80, 1, .iload_n 1), (81, 1, .iconst 1), (82, 1, .iadd), (83, 1, .iload_n 2), (84, 1, .iconst 1), (85, 2, .iload 4), (87, 1, .ishl), (88, 1, .ior), (89, 2, .iload 5), (91, 3, .invokevirtual 90), (94, 1, .aload_n 0), (95, 2, .iload 4), (97, 3, .invokevirtual 98), (100, 3, .iinc 4 1), (103, 3, .goto (-77)), (106, 1, .return_)]
theorem ck_37 : pm_ck prog_6_method_11_code cd_37 = true := by decide +kernel
def mt_37 : pmM := (⟨"LampFeast$Nights", "tryFrom", "(III)V"⟩, prog_6_method_11_code, 6, none, 4, 3, cd_37)
def cd_38 : List (Nat × Nat × Instr) := [(0, 1, .iload_n 1), (1, 1, .aload_n 0), (2, 3, .getfield 87), (5, 3, .if_icmp .lt 4), (8, 1, .return_), (9, 1, .aload_n 0), (10, 1, .iload_n 1), (11, 3, .putfield 87), (14, 1, .iconst 0), (15, 1, .istore_n 2), (16, 1, .iload_n 2), (17, 1, .aload_n 0), (18, 3, .getfield 9), (21, 3, .getfield 47), (24, 3, .if_icmp .ge 27), (27, 1, .iload_n 2), (28, 2, .bipush 6), (30, 3, .if_icmp .ge 21), (33, 1, .aload_n 0), (34, 3, .getfield 32), (37, 1, .iload_n 2), (38, 1, .aload_n 0), (39, 3, .getfield 44), (42, 1, .iload_n 2), (43, 1, .iaload), (44, 1, .iastore), (45, 3, .iinc 2 1), (48, 3, .goto (-32)), (51, 1, .return_)]
theorem ck_38 : pm_ck prog_6_method_12_code cd_38 = true := by decide +kernel
def mt_38 : pmM := (⟨"LampFeast$Nights", "keepTrial", "(I)V"⟩, prog_6_method_12_code, 3, none, 4, 1, cd_38)
def cd_39 : List (Nat × Nat × Instr) := [(0, 1, .aload_n 0), (1, 3, .invokespecial 3), (4, 1, .aload_n 0), (5, 2, .bipush 24), (7, 2, .newarray .int), (9, 3, .putfield 9), (12, 1, .aload_n 0), (13, 2, .bipush 24), (15, 2, .newarray .int), (17, 3, .putfield 15), (20, 1, .aload_n 0), (21, 2, .bipush 24), (23, 2, .newarray .int), (25, 3, .putfield 18), (28, 1, .aload_n 0), (29, 2, .bipush 24), (31, 2, .newarray .int), (33, 3, .putfield 21), (36, 1, .aload_n 0), (37, 2, .bipush 24), (39, 2, .newarray .int), (41, 3, .putfield 24), (44, 1, .aload_n 0), (45, 2, .bipush 24), (47, 2, .newarray .int), (49, 3, .putfield 27), (52, 1, .aload_n 0), (53, 2, .bipush 24), (55, 2, .newarray .int), (57, 3, .putfield 30), (60, 1, .aload_n 0), (61, 2, .bipush 24), (63, 2, .newarray .int), (65, 3, .putfield 33), (68, 1, .aload_n 0), (69, 2, .bipush 24), (71, 2, .newarray .boolean), (73, 3, .putfield 36), (76, 1, .aload_n 0), (77, 2, .bipush 24), (79, 2, .newarray .int), (81, 3, .putfield 40), (84, 1, .aload_n 0), (85, 2, .bipush 24), (87, 2, .newarray .int), (89, 3, .putfield 43), (92, 1, .aload_n 0), (93, 3, .sipush 1440), (96, 2, .newarray .int), (98, 3, .putfield 46), (101, 1, .return_)]
theorem ck_39 : pm_ck prog_7_method_1_code cd_39 = true := by decide +kernel
def mt_39 : pmM := (⟨"LampFeast$Strings", "<init>", "()V"⟩, prog_7_method_1_code, 1, none, 5, 0, cd_39)
def cd_40 : List (Nat × Nat × Instr) := [(0, 1, .iload_n 1), (1, 3, .ifCond .lt 15), (4, 1, .iload_n 1), (5, 1, .aload_n 0), (6, 3, .getfield 49), (9, 3, .if_icmp .ge 7), (12, 1, .iconst 1), (13, 3, .goto 4), (16, 1, .iconst 0), (17, 1, .ireturn)]
theorem ck_40 : pm_ck prog_7_method_2_code cd_40 = true := by decide +kernel
def mt_40 : pmM := (⟨"LampFeast$Strings", "has", "(I)Z"⟩, prog_7_method_2_code, 2, (some .boolean), 5, 1, cd_40)
def cd_41 : List (Nat × Nat × Instr) := [(0, 1, .aload_n 0), (1, 1, .iload_n 1), (2, 3, .invokevirtual 53), (5, 3, .ifCond .eq 21), (8, 1, .iload_n 2), (9, 3, .ifCond .lt 17), (12, 1, .iload_n 2), (13, 1, .aload_n 0), (14, 3, .getfield 27), (17, 1, .iload_n 1), (18, 1, .iaload), (19, 3, .if_icmp .ge 7), (22, 1, .iconst 1), (23, 3, .goto 4), (26, 1, .iconst 0), (27, 1, .ireturn)]
theorem ck_41 : pm_ck prog_7_method_3_code cd_41 = true := by decide +kernel
def mt_41 : pmM := (⟨"LampFeast$Strings", "hasLamp", "(II)Z"⟩, prog_7_method_3_code, 3, (some .boolean), 5, 2, cd_41)
def cd_42 : List (Nat × Nat × Instr) := [(0, 1, .aload_n 0), (1, 3, .getfield 49), (4, 2, .istore 7), (6, 1, .aload_n 0), (7, 3, .getfield 18), (10, 2, .iload 7), (12, 1, .iload_n 1), (13, 2, .bipush 100), (15, 1, .idiv), (16, 1, .iastore), (17, 1, .aload_n 0), (18, 3, .getfield 9), (21, 2, .iload 7), (23, 1, .iload_n 1), (24, 2, .bipush 10), (26, 1, .idiv), (27, 2, .bipush 10), (29, 1, .irem), (30, 1, .iastore), (31, 1, .aload_n 0), (32, 3, .getfield 15), (35, 2, .iload 7), (37, 1, .iload_n 1), (38, 2, .bipush 10), (40, 1, .irem), (41, 1, .iconst 1), (42, 3, .if_icmp .ne 7), (45, 1, .iload_n 2), (46, 3, .goto 4), (49, 1, .iconst (-1)), (50, 1, .iastore), (51, 1, .aload_n 0), (52, 3, .getfield 21), (55, 2, .iload 7), (57, 1, .iload_n 3), (58, 1, .iastore), (59, 1, .aload_n 0), (60, 3, .getfield 24), (63, 2, .iload 7), (65, 2, .iload 4), (67, 1, .iastore), (68, 1, .aload_n 0), (69, 3, .getfield 27), (72, 2, .iload 7), (74, 2, .iload 5), (76, 1, .iastore), (77, 1, .aload_n 0), (78, 3, .getfield 30), (81, 2, .iload 7), (83, 2, .iload 6), (85, 1, .iastore), (86, 1, .aload_n 0), (87, 1, .dup), (88, 3, .getfield 49), (91, 1, .iconst 1), (92, 1, .iadd), (93, 3, .putfield 49), (96, 2, .iload 7), (98, 1, .ireturn)]
theorem ck_42 : pm_ck prog_7_method_4_code cd_42 = true := by decide +kernel
def mt_42 : pmM := (⟨"LampFeast$Strings", "add", "(IIIIII)I"⟩, prog_7_method_4_code, 8, (some .int), 5, 6, cd_42)
def cd_43 : List (Nat × Nat × Instr) := [(0, 1, .aload_n 0), (1, 3, .getfield 46), (4, 1, .iload_n 1), (5, 2, .bipush 60), (7, 1, .imul), (8, 1, .iload_n 2), (9, 1, .iadd), (10, 1, .iaload), (11, 1, .ireturn)]
theorem ck_43 : pm_ck prog_7_method_5_code cd_43 = true := by decide +kernel
def mt_43 : pmM := (⟨"LampFeast$Strings", "crateOf", "(II)I"⟩, prog_7_method_5_code, 3, (some .int), 5, 2, cd_43)
def cd_44 : List (Nat × Nat × Instr) := [(0, 1, .aload_n 0), (1, 3, .getfield 46), (4, 1, .iload_n 1), (5, 2, .bipush 60), (7, 1, .imul), (8, 1, .iload_n 2), (9, 1, .iadd), (10, 1, .iload_n 3), (11, 1, .iastore), (12, 1, .return_)]
theorem ck_44 : pm_ck prog_7_method_6_code cd_44 = true := by decide +kernel
def mt_44 : pmM := (⟨"LampFeast$Strings", "setCrateOf", "(III)V"⟩, prog_7_method_6_code, 4, none, 5, 3, cd_44)
def cd_45 : List (Nat × Nat × Instr) := [(0, 1, .iload_n 2), (1, 3, .ifCond .eq 13), (4, 1, .aload_n 0), (5, 3, .getfield 9), (8, 1, .iload_n 1), (9, 1, .iaload), (10, 1, .iload_n 2), (11, 3, .if_icmp .ne 7), (14, 1, .iconst 1), (15, 3, .goto 4), (18, 1, .iconst 0), (19, 1, .ireturn)]
theorem ck_45 : pm_ck prog_7_method_7_code cd_45 = true := by decide +kernel
def mt_45 : pmM := (⟨"LampFeast$Strings", "isOf", "(II)Z"⟩, prog_7_method_7_code, 3, (some .boolean), 5, 2, cd_45)
def cd_46 : List (Nat × Nat × Instr) := [(0, 1, .aload_n 0), (1, 3, .getfield 27), (4, 1, .iload_n 1), (5, 1, .iaload), (6, 1, .aload_n 0), (7, 3, .getfield 30), (10, 1, .iload_n 1), (11, 1, .iaload), (12, 1, .imul), (13, 1, .istore_n 2), (14, 1, .aload_n 0), (15, 3, .getfield 9), (18, 1, .iload_n 1), (19, 1, .iaload), (20, 1, .iconst 2), (21, 3, .if_icmp .ne 9), (24, 1, .iconst 2), (25, 1, .iload_n 2), (26, 1, .imul), (27, 3, .goto 4), (30, 1, .iload_n 2), (31, 1, .ireturn)]
theorem ck_46 : pm_ck prog_7_method_8_code cd_46 = true := by decide +kernel
def mt_46 : pmM := (⟨"LampFeast$Strings", "load", "(I)I"⟩, prog_7_method_8_code, 3, (some .int), 5, 1, cd_46)
def cd_47 : List (Nat × Nat × Instr) := [(0, 3, .sipush 500), (3, 1, .aload_n 0), (4, 3, .getfield 24), (7, 1, .iload_n 1), (8, 1, .iaload), (9, 1, .imul), (10, 1, .ireturn)]
theorem ck_47 : pm_ck prog_7_method_9_code cd_47 = true := by decide +kernel
def mt_47 : pmM := (⟨"LampFeast$Strings", "bears", "(I)I"⟩, prog_7_method_9_code, 2, (some .int), 5, 1, cd_47)
def cd_48 : List (Nat × Nat × Instr) := [(0, 1, .iconst 1), (1, 1, .aload_n 0), (2, 3, .getfield 21), (5, 1, .iload_n 1), (6, 1, .iaload), (7, 2, .bipush 20), (9, 1, .idiv), (10, 1, .iadd), (11, 1, .ireturn)]
theorem ck_48 : pm_ck prog_7_method_10_code cd_48 = true := by decide +kernel
def mt_48 : pmM := (⟨"LampFeast$Strings", "hours", "(I)I"⟩, prog_7_method_10_code, 2, (some .int), 5, 1, cd_48)
def cd_49 : List (Nat × Nat × Instr) := [(0, 1, .aload_n 0), (1, 3, .getfield 36), (4, 1, .iload_n 1), (5, 1, .baload), (6, 3, .ifCond .eq 4), (9, 1, .return_), (10, 1, .aload_n 0), (11, 3, .getfield 36), (14, 1, .iload_n 1), (15, 1, .iconst 1), (16, 1, .bastore), (17, 1, .aload_n 0), (18, 3, .getfield 40), (21, 1, .iload_n 1), (22, 1, .iconst 0), (23, 1, .iastore), (24, 1, .aload_n 0), (25, 3, .getfield 43), (28, 1, .iload_n 1), (29, 1, .aload_n 0), (30, 3, .getfield 27), (33, 1, .iload_n 1), (34, 1, .iaload), (35, 1, .iconst 1), (36, 1, .isub), (37, 1, .iastore), (38, 1, .return_)]
theorem ck_49 : pm_ck prog_7_method_11_code cd_49 = true := by decide +kernel
def mt_49 : pmM := (⟨"LampFeast$Strings", "kill", "(I)V"⟩, prog_7_method_11_code, 2, none, 5, 1, cd_49)
def cd_50 : List (Nat × Nat × Instr) := [(0, 1, .aload_n 0), (1, 3, .invokespecial 3), (4, 1, .aload_n 0), (5, 2, .bipush 24), (7, 2, .newarray .int), (9, 3, .putfield 9), (12, 1, .return_)]
theorem ck_50 : pm_ck prog_8_method_1_code cd_50 = true := by decide +kernel
def mt_50 : pmM := (⟨"LampFeast$Waiting", "<init>", "()V"⟩, prog_8_method_1_code, 1, none, 6, 0, cd_50)
def cd_51 : List (Nat × Nat × Instr) := [(0, 1, .aload_n 0), (1, 3, .getfield 9), (4, 1, .aload_n 0), (5, 3, .getfield 15), (8, 1, .iload_n 1), (9, 1, .iastore), (10, 1, .aload_n 0), (11, 1, .dup), (12, 3, .getfield 15), (15, 1, .iconst 1), (16, 1, .iadd), (17, 3, .putfield 15), (20, 1, .aload_n 0), (21, 3, .getfield 15), (24, 1, .ireturn)]
theorem ck_51 : pm_ck prog_8_method_2_code cd_51 = true := by decide +kernel
def mt_51 : pmM := (⟨"LampFeast$Waiting", "add", "(I)I"⟩, prog_8_method_2_code, 2, (some .int), 6, 1, cd_51)
def cd_52 : List (Nat × Nat × Instr) := [(0, 1, .iconst 0), (1, 1, .istore_n 2), (2, 1, .iconst 0), (3, 1, .istore_n 3), (4, 1, .iload_n 3), (5, 2, .bipush 24), (7, 3, .if_icmp .ge 45), (10, 1, .iload_n 1), (11, 1, .iload_n 3), (12, 3, .invokestatic 19), (15, 3, .ifCond .ne 6), (18, 3, .goto 28), (21, 1, .iload_n 2), (22, 1, .aload_n 0), (23, 3, .getfield 15), (26, 3, .if_icmp .ge 13), (29, 1, .aload_n 0), (30, 3, .getfield 9), (33, 1, .iload_n 2), (34, 1, .iaload), (35, 1, .iload_n 3), (36, 3, .if_icmp .eq 7), (39, 1, .iconst 1), (40, 1, .iload_n 2), (41, 1, .iadd), (42, 1, .ireturn), (43, 3, .iinc 2 1), (46, 3, .iinc 3 1), (49, 3, .goto (-45)), (52, 1, .aload_n 0), (53, 3, .getfield 15), (56, 1, .iload_n 2), (57, 3, .if_icmp .le 8), (60, 2, .bipush 99), (62, 3, .goto 4), (65, 1, .iconst 0), (66, 1, .ireturn)]
theorem ck_52 : pm_ck prog_8_method_3_code cd_52 = true := by decide +kernel
def mt_52 : pmM := (⟨"LampFeast$Waiting", "compare", "(I)I"⟩, prog_8_method_3_code, 4, (some .int), 6, 1, cd_52)
def cd_53 : List (Nat × Nat × Instr) := [(0, 1, .aload_n 0), (1, 3, .invokespecial 3), (4, 1, .aload_n 0), (5, 2, .bipush 6), (7, 2, .newarray .int), (9, 3, .putfield 9), (12, 1, .aload_n 0), (13, 3, .new 13), (16, 1, .dup), (17, 3, .invokespecial 15), (20, 3, .putfield 16), (23, 1, .aload_n 0), (24, 3, .new 20), (27, 1, .dup), (28, 3, .invokespecial 22), (31, 3, .putfield 23), (34, 1, .aload_n 0), (35, 3, .new 27), (38, 1, .dup), (39, 1, .aload_n 0), (40, 3, .getfield 23), (43, 3, .invokespecial 29), (46, 3, .putfield 32), (49, 1, .aload_n 0), (50, 3, .new 36), (53, 1, .dup), (54, 1, .aload_n 0), (55, 3, .getfield 23), (58, 1, .aload_n 0), (59, 3, .getfield 32), (62, 3, .invokespecial 38), (65, 3, .putfield 41), (68, 1, .aload_n 0), (69, 3, .new 45), (72, 1, .dup), (73, 1, .aload_n 0), (74, 3, .getfield 23), (77, 3, .invokespecial 47), (80, 3, .putfield 48), (83, 1, .aload_n 0), (84, 3, .new 52), (87, 1, .dup), (88, 3, .invokespecial 54), (91, 3, .putfield 55), (94, 1, .aload_n 0), (95, 3, .new 59), (98, 1, .dup), (99, 3, .invokespecial 61), (102, 3, .putfield 62), (105, 1, .return_)]
theorem ck_53 : pm_ck prog_1_method_1_code cd_53 = true := by decide +kernel
def mt_53 : pmM := (⟨"LampFeast", "<init>", "()V"⟩, prog_1_method_1_code, 1, none, 7, 0, cd_53)
def cd_54 : List (Nat × Nat × Instr) := [(0, 1, .iload_n 1), (1, 1, .iconst 1), (2, 3, .sipush 1000), (5, 3, .invokestatic 66), (8, 3, .ifCond .ne 10), (11, 1, .aload_n 0), (12, 2, .ldc 70), (14, 3, .invokevirtual 71), (17, 1, .ireturn), (18, 1, .aload_n 0), (19, 3, .getfield 16), (22, 3, .getfield 75), (25, 2, .bipush 12), (27, 3, .if_icmp .lt 10), (30, 1, .aload_n 0), (31, 2, .ldc 79), (33, 3, .invokevirtual 71), (36, 1, .ireturn), (37, 1, .aload_n 0), (38, 3, .getfield 16), (41, 1, .iload_n 1), (42, 3, .invokevirtual 80), (45, 1, .ireturn)]
theorem ck_54 : pm_ck prog_1_method_2_code cd_54 = true := by decide +kernel
def mt_54 : pmM := (⟨"LampFeast", "crate", "(I)I"⟩, prog_1_method_2_code, 2, (some .int), 7, 1, cd_54)
def cd_55_0 : List (Nat × Nat × Instr) := [(0, 1, .iload_n 1), (1, 3, .invokestatic 83), (4, 3, .ifCond .eq 58), (7, 1, .aload_n 0), (8, 1, .iload_n 1), (9, 2, .bipush 10), (11, 1, .irem), (12, 1, .iload_n 2), (13, 3, .invokevirtual 87), (16, 3, .ifCond .eq 46), (19, 1, .iload_n 3), (20, 1, .iconst 1), (21, 2, .bipush 100), (23, 3, .invokestatic 66), (26, 3, .ifCond .eq 36), (29, 2, .iload 4), (31, 1, .iconst 1), (32, 2, .bipush 10), (34, 3, .invokestatic 66), (37, 3, .ifCond .eq 25), (40, 2, .iload 5), (42, 1, .iconst 1), (43, 2, .bipush 60), (45, 3, .invokestatic 66), (48, 3, .ifCond .eq 14), (51, 2, .iload 6), (53, 1, .iconst 1), (54, 2, .bipush 20), (56, 3, .invokestatic 66), (59, 3, .ifCond .ne 10), (62, 1, .aload_n 0), (63, 2, .ldc 70), (65, 3, .invokevirtual 71), (68, 1, .ireturn), (69, 1, .aload_n 0), (70, 3, .getfield 16), (73, 3, .invokevirtual 91), (76, 2, .iload 5), (78, 3, .if_icmp .ge 10), (81, 1, .aload_n 0), (82, 2, .ldc 95), (84, 3, .invokevirtual 71), (87, 1, .ireturn), (88, 1, .aload_n 0), (89, 3, .getfield 23), (92, 3, .getfield 96), (95, 2, .bipush 24), (97, 3, .if_icmp .lt 10), (100, 1, .aload_n 0), (101, 2, .ldc 79), (103, 3, .invokevirtual 71), (106, 1, .ireturn), (107, 1, .aload_n 0), (108, 3, .getfield 23), (111, 1, .iload_n 1), (112, 1, .iload_n 2), (113, 1, .iload_n 3), (114, 2, .iload 4), (116, 2, .iload 5), (118, 2, .iload 6)]
theorem ck_55_0 : pm_ck prog_1_method_3_code cd_55_0 = true := by decide +kernel
def cd_55_1 : List (Nat × Nat × Instr) := [(120, 3, .invokevirtual 97), (123, 2, .istore 7), (125, 1, .iconst 0), (126, 2, .istore 8), (128, 2, .iload 8), (130, 2, .iload 5), (132, 3, .if_icmp .ge 27), (135, 1, .aload_n 0), (136, 3, .getfield 23), (139, 2, .iload 7), (141, 2, .iload 8), (143, 1, .aload_n 0), (144, 3, .getfield 16), (147, 3, .invokevirtual 100), (150, 3, .invokevirtual 103), (153, 3, .iinc 8 1), (156, 3, .goto (-28)), (159, 1, .aload_n 0), (160, 3, .getfield 48), (163, 2, .iload 7), (165, 3, .invokevirtual 107), (168, 2, .iload 7), (170, 1, .ireturn)]
theorem ck_55_1 : pm_ck prog_1_method_3_code cd_55_1 = true := by decide +kernel
def cd_55 : List (Nat × Nat × Instr) := cd_55_0 ++ (cd_55_1)
theorem ck_55 : pm_ck prog_1_method_3_code cd_55 = true := pm_ck_app ck_55_0 (ck_55_1)
def mt_55 : pmM := (⟨"LampFeast", "string", "(IIIIII)I"⟩, prog_1_method_3_code, 9, (some .int), 7, 6, cd_55)
def cd_56 : List (Nat × Nat × Instr) := [(0, 1, .aload_n 0), (1, 3, .getfield 23), (4, 1, .iload_n 1), (5, 3, .invokevirtual 111), (8, 3, .ifCond .eq 13), (11, 1, .iload_n 2), (12, 1, .iconst 0), (13, 2, .ldc 114), (15, 3, .invokestatic 66), (18, 3, .ifCond .ne 10), (21, 1, .aload_n 0), (22, 2, .ldc 70), (24, 3, .invokevirtual 71), (27, 1, .ireturn), (28, 1, .aload_n 0), (29, 3, .getfield 23), (32, 3, .getfield 115), (35, 1, .iload_n 1), (36, 1, .iaload), (37, 1, .istore_n 3), (38, 1, .aload_n 0), (39, 3, .getfield 23), (42, 3, .getfield 115), (45, 1, .iload_n 1), (46, 1, .iload_n 2), (47, 1, .iastore), (48, 1, .iload_n 3), (49, 1, .ireturn)]
theorem ck_56 : pm_ck prog_1_method_4_code cd_56 = true := by decide +kernel
def mt_56 : pmM := (⟨"LampFeast", "fuse", "(II)I"⟩, prog_1_method_4_code, 4, (some .int), 7, 2, cd_56)
def cd_57 : List (Nat × Nat × Instr) := [(0, 1, .aload_n 0), (1, 3, .getfield 23), (4, 1, .iload_n 1), (5, 3, .invokevirtual 111), (8, 3, .ifCond .eq 12), (11, 1, .iload_n 2), (12, 1, .iconst 0), (13, 1, .iconst 1), (14, 3, .invokestatic 66), (17, 3, .ifCond .ne 10), (20, 1, .aload_n 0), (21, 2, .ldc 70), (23, 3, .invokevirtual 71), (26, 1, .ireturn), (27, 1, .aload_n 0), (28, 3, .getfield 23), (31, 3, .getfield 118), (34, 1, .iload_n 1), (35, 1, .baload), (36, 3, .invokestatic 122), (39, 1, .istore_n 3), (40, 1, .iload_n 2), (41, 1, .iconst 1), (42, 3, .if_icmp .ne 14), (45, 1, .aload_n 0), (46, 3, .getfield 23), (49, 1, .iload_n 1), (50, 3, .invokevirtual 126), (53, 3, .goto 13), (56, 1, .aload_n 0), (57, 3, .getfield 23), (60, 3, .getfield 118), (63, 1, .iload_n 1), (64, 1, .iconst 0), (65, 1, .bastore), (66, 1, .iload_n 3), (67, 1, .ireturn)]
theorem ck_57 : pm_ck prog_1_method_5_code cd_57 = true := by decide +kernel
def mt_57 : pmM := (⟨"LampFeast", "dead", "(II)I"⟩, prog_1_method_5_code, 4, (some .int), 7, 2, cd_57)
def cd_58_0 : List (Nat × Nat × Instr) := [(0, 1, .aload_n 0), (1, 3, .getfield 23), (4, 1, .iload_n 1), (5, 3, .invokevirtual 111), (8, 3, .ifCond .ne 10), (11, 1, .aload_n 0), (12, 2, .ldc 70), (14, 3, .invokevirtual 71), (17, 1, .ireturn), (18, 1, .iload_n 2), (19, 53, .tableswitch 155 0 9 #[53, 63, 73, 83, 93, 103, 113, 123, 133, 146]), (72, 1, .aload_n 0), (73, 3, .getfield 23), (76, 3, .getfield 129), (79, 1, .iload_n 1), (80, 1, .iaload), (81, 1, .ireturn), (82, 1, .aload_n 0), (83, 3, .getfield 23), (86, 3, .getfield 132), (89, 1, .iload_n 1), (90, 1, .iaload), (91, 1, .ireturn), (92, 1, .aload_n 0), (93, 3, .getfield 23), (96, 3, .getfield 135), (99, 1, .iload_n 1), (100, 1, .iaload), (101, 1, .ireturn), (102, 1, .aload_n 0), (103, 3, .getfield 23), (106, 3, .getfield 138), (109, 1, .iload_n 1), (110, 1, .iaload), (111, 1, .ireturn), (112, 1, .aload_n 0), (113, 3, .getfield 23), (116, 3, .getfield 141), (119, 1, .iload_n 1), (120, 1, .iaload), (121, 1, .ireturn), (122, 1, .aload_n 0), (123, 3, .getfield 23), (126, 3, .getfield 144), (129, 1, .iload_n 1), (130, 1, .iaload), (131, 1, .ireturn), (132, 1, .aload_n 0), (133, 3, .getfield 23), (136, 3, .getfield 147), (139, 1, .iload_n 1), (140, 1, .iaload), (141, 1, .ireturn), (142, 1, .aload_n 0), (143, 3, .getfield 23), (146, 3, .getfield 115), (149, 1, .iload_n 1), (150, 1, .iaload), (151, 1, .ireturn), (152, 1, .aload_n 0)]
theorem ck_58_0 : pm_ck prog_1_method_6_code cd_58_0 = true := by decide +kernel
def cd_58_1 : List (Nat × Nat × Instr) := [(153, 3, .getfield 23), (156, 3, .getfield 118), (159, 1, .iload_n 1), (160, 1, .baload), (161, 3, .invokestatic 122), (164, 1, .ireturn), (165, 1, .aload_n 0), (166, 1, .iload_n 1), (167, 3, .invokevirtual 150), (170, 3, .invokestatic 122), (173, 1, .ireturn), (174, 1, .aload_n 0), (175, 2, .ldc 70), (177, 3, .invokevirtual 71), (180, 1, .ireturn)]
theorem ck_58_1 : pm_ck prog_1_method_6_code cd_58_1 = true := by decide +kernel
def cd_58 : List (Nat × Nat × Instr) := cd_58_0 ++ (cd_58_1)
theorem ck_58 : pm_ck prog_1_method_6_code cd_58 = true := pm_ck_app ck_58_0 (ck_58_1)
def mt_58 : pmM := (⟨"LampFeast", "about", "(II)I"⟩, prog_1_method_6_code, 3, (some .int), 7, 2, cd_58)
def cd_59 : List (Nat × Nat × Instr) := [(0, 1, .aload_n 0), (1, 3, .getfield 23), (4, 1, .iload_n 1), (5, 3, .invokevirtual 111), (8, 3, .ifCond .eq 12), (11, 1, .iload_n 2), (12, 1, .iconst 0), (13, 1, .iconst 2), (14, 3, .invokestatic 66), (17, 3, .ifCond .ne 10), (20, 1, .aload_n 0), (21, 2, .ldc 70), (23, 3, .invokevirtual 71), (26, 1, .ireturn), (27, 1, .aload_n 0), (28, 3, .getfield 23), (31, 1, .iload_n 1), (32, 1, .iload_n 2), (33, 3, .invokevirtual 153), (36, 3, .ifCond .ne 10), (39, 1, .aload_n 0), (40, 2, .ldc 156), (42, 3, .invokevirtual 71), (45, 1, .ireturn), (46, 1, .aload_n 0), (47, 3, .getfield 23), (50, 1, .iload_n 1), (51, 3, .invokevirtual 157), (54, 1, .ireturn)]
theorem ck_59 : pm_ck prog_1_method_7_code cd_59 = true := by decide +kernel
def mt_59 : pmM := (⟨"LampFeast", "as", "(II)I"⟩, prog_1_method_7_code, 3, (some .int), 7, 2, cd_59)
def cd_60 : List (Nat × Nat × Instr) := [(0, 1, .aload_n 0), (1, 3, .getfield 23), (4, 1, .iload_n 1), (5, 3, .invokevirtual 111), (8, 3, .ifCond .eq 12), (11, 1, .iload_n 2), (12, 1, .iconst 0), (13, 1, .iconst 3), (14, 3, .invokestatic 66), (17, 3, .ifCond .ne 10), (20, 1, .aload_n 0), (21, 2, .ldc 70), (23, 3, .invokevirtual 71), (26, 1, .ireturn), (27, 1, .aload_n 0), (28, 3, .getfield 32), (31, 3, .invokevirtual 160), (34, 1, .iload_n 2), (35, 25, .tableswitch 55 0 2 #[25, 35, 45]), (60, 1, .aload_n 0), (61, 3, .getfield 32), (64, 3, .getfield 163), (67, 1, .iload_n 1), (68, 1, .iaload), (69, 1, .ireturn), (70, 1, .aload_n 0), (71, 3, .getfield 32), (74, 3, .getfield 166), (77, 1, .iload_n 1), (78, 1, .iaload), (79, 1, .ireturn), (80, 1, .aload_n 0), (81, 3, .getfield 32), (84, 3, .getfield 169), (87, 1, .iload_n 1), (88, 1, .iaload), (89, 1, .ireturn), (90, 1, .aload_n 0), (91, 3, .getfield 32), (94, 1, .iload_n 1), (95, 3, .invokevirtual 172), (98, 1, .ireturn)]
theorem ck_60 : pm_ck prog_1_method_8_code cd_60 = true := by decide +kernel
def mt_60 : pmM := (⟨"LampFeast", "told", "(II)I"⟩, prog_1_method_8_code, 3, (some .int), 7, 2, cd_60)
def cd_61 : List (Nat × Nat × Instr) := [(0, 1, .iload_n 1), (1, 1, .iconst 0), (2, 2, .ldc 175), (4, 3, .invokestatic 66), (7, 3, .ifCond .ne 10), (10, 1, .aload_n 0), (11, 2, .ldc 70), (13, 3, .invokevirtual 71), (16, 1, .ireturn), (17, 1, .aload_n 0), (18, 3, .getfield 32), (21, 3, .getfield 176), (24, 1, .istore_n 2), (25, 1, .aload_n 0), (26, 3, .getfield 32), (29, 1, .iload_n 1), (30, 3, .putfield 176), (33, 1, .iload_n 2), (34, 1, .ireturn)]
theorem ck_61 : pm_ck prog_1_method_9_code cd_61 = true := by decide +kernel
def mt_61 : pmM := (⟨"LampFeast", "most", "(I)I"⟩, prog_1_method_9_code, 3, (some .int), 7, 1, cd_61)
def cd_62 : List (Nat × Nat × Instr) := [(0, 1, .aload_n 0), (1, 3, .getfield 32), (4, 3, .invokevirtual 179), (7, 1, .ireturn)]
theorem ck_62 : pm_ck prog_1_method_10_code cd_62 = true := by decide +kernel
def mt_62 : pmM := (⟨"LampFeast", "blow", "()I"⟩, prog_1_method_10_code, 1, (some .int), 7, 0, cd_62)
def cd_63 : List (Nat × Nat × Instr) := [(0, 1, .iload_n 1), (1, 1, .iconst 0), (2, 1, .iconst 1), (3, 3, .invokestatic 66), (6, 3, .ifCond .ne 10), (9, 1, .aload_n 0), (10, 2, .ldc 70), (12, 3, .invokevirtual 71), (15, 1, .ireturn), (16, 1, .aload_n 0), (17, 3, .getfield 41), (20, 3, .invokevirtual 182), (23, 3, .ifCond .ne 10), (26, 1, .aload_n 0), (27, 2, .ldc 186), (29, 3, .invokevirtual 71), (32, 1, .ireturn), (33, 1, .iload_n 1), (34, 3, .ifCond .ne 13), (37, 1, .aload_n 0), (38, 3, .getfield 41), (41, 3, .invokevirtual 187), (44, 3, .goto 10), (47, 1, .aload_n 0), (48, 3, .getfield 41), (51, 3, .invokevirtual 190), (54, 1, .ireturn)]
theorem ck_63 : pm_ck prog_1_method_11_code cd_63 = true := by decide +kernel
def mt_63 : pmM := (⟨"LampFeast", "fewest", "(I)I"⟩, prog_1_method_11_code, 2, (some .int), 7, 1, cd_63)
def cd_64 : List (Nat × Nat × Instr) := [(0, 1, .aload_n 0), (1, 3, .getfield 41), (4, 3, .invokevirtual 182), (7, 3, .ifCond .ne 10), (10, 1, .aload_n 0), (11, 2, .ldc 186), (13, 3, .invokevirtual 71), (16, 1, .ireturn), (17, 1, .aload_n 0), (18, 3, .getfield 41), (21, 3, .invokevirtual 193), (24, 1, .aload_n 0), (25, 3, .getfield 41), (28, 3, .invokevirtual 187), (31, 1, .ireturn)]
theorem ck_64 : pm_ck prog_1_method_12_code cd_64 = true := by decide +kernel
def mt_64 : pmM := (⟨"LampFeast", "fuses", "()I"⟩, prog_1_method_12_code, 1, (some .int), 7, 0, cd_64)
def cd_65_0 : List (Nat × Nat × Instr) := [(0, 1, .iload_n 1), (1, 3, .ifCond .lt 15), (4, 1, .iload_n 1), (5, 1, .aload_n 0), (6, 3, .getfield 23), (9, 3, .getfield 96), (12, 1, .ishr), (13, 3, .ifCond .eq 10), (16, 1, .aload_n 0), (17, 2, .ldc 70), (19, 3, .invokevirtual 71), (22, 1, .ireturn), (23, 1, .iconst 0), (24, 1, .istore_n 2), (25, 1, .iconst 0), (26, 1, .istore_n 3), (27, 1, .iload_n 3), (28, 1, .aload_n 0), (29, 3, .getfield 23), (32, 3, .getfield 96), (35, 3, .if_icmp .ge 84), (38, 1, .iload_n 1), (39, 1, .iload_n 3), (40, 3, .invokestatic 196), (43, 2, .istore 4), (45, 1, .aload_n 0), (46, 3, .getfield 23), (49, 3, .getfield 132), (52, 1, .iload_n 3), (53, 1, .iaload), (54, 3, .ifCond .lt 23), (57, 1, .iload_n 1), (58, 1, .aload_n 0), (59, 3, .getfield 23), (62, 3, .getfield 132), (65, 1, .iload_n 3), (66, 1, .iaload), (67, 3, .invokestatic 196), (70, 3, .ifCond .eq 7), (73, 1, .iconst 1), (74, 3, .goto 4), (77, 1, .iconst 0), (78, 2, .istore 5), (80, 2, .iload 5), (82, 3, .ifCond .eq 15), (85, 2, .iload 4), (87, 3, .ifCond .ne 10), (90, 1, .aload_n 0), (91, 2, .ldc 186), (93, 3, .invokevirtual 71), (96, 1, .ireturn), (97, 2, .iload 4), (99, 3, .ifCond .eq 14), (102, 2, .iload 5), (104, 3, .ifCond .ne 9), (107, 1, .iload_n 2), (108, 1, .iconst 1), (109, 1, .iload_n 3), (110, 1, .ishl), (111, 1, .ior)]
theorem ck_65_0 : pm_ck prog_1_method_13_code cd_65_0 = true := by decide +kernel
def cd_65_1 : List (Nat × Nat × Instr) := [(112, 1, .istore_n 2), (113, 3, .iinc 3 1), (116, 3, .goto (-89)), (119, 1, .iload_n 2), (120, 1, .ireturn)]
theorem ck_65_1 : pm_ck prog_1_method_13_code cd_65_1 = true := by decide +kernel
def cd_65 : List (Nat × Nat × Instr) := cd_65_0 ++ (cd_65_1)
theorem ck_65 : pm_ck prog_1_method_13_code cd_65 = true := pm_ck_app ck_65_0 (ck_65_1)
def mt_65 : pmM := (⟨"LampFeast", "explain", "(I)I"⟩, prog_1_method_13_code, 6, (some .int), 7, 1, cd_65)
def cd_66_0 : List (Nat × Nat × Instr) := [(0, 1, .aload_n 0), (1, 3, .getfield 23), (4, 1, .iload_n 1), (5, 1, .iload_n 2), (6, 3, .invokevirtual 199), (9, 3, .ifCond .eq 12), (12, 1, .iload_n 3), (13, 1, .iconst 0), (14, 1, .iconst 1), (15, 3, .invokestatic 66), (18, 3, .ifCond .ne 10), (21, 1, .aload_n 0), (22, 2, .ldc 70), (24, 3, .invokevirtual 71), (27, 1, .ireturn), (28, 1, .aload_n 0), (29, 3, .getfield 23), (32, 3, .getfield 118), (35, 1, .iload_n 1), (36, 1, .baload), (37, 3, .ifCond .ne 10), (40, 1, .aload_n 0), (41, 2, .ldc 95), (43, 3, .invokevirtual 71), (46, 1, .ireturn), (47, 1, .iload_n 3), (48, 1, .iconst 1), (49, 3, .if_icmp .ne 21), (52, 1, .aload_n 0), (53, 3, .getfield 23), (56, 3, .getfield 202), (59, 1, .iload_n 1), (60, 1, .iaload), (61, 1, .iload_n 2), (62, 1, .iconst 1), (63, 1, .iadd), (64, 3, .invokestatic 205), (67, 3, .goto 12), (70, 1, .aload_n 0), (71, 3, .getfield 23), (74, 3, .getfield 202), (77, 1, .iload_n 1), (78, 1, .iaload), (79, 2, .istore 4), (81, 1, .iload_n 3), (82, 3, .ifCond .ne 19), (85, 1, .aload_n 0), (86, 3, .getfield 23), (89, 3, .getfield 211), (92, 1, .iload_n 1), (93, 1, .iaload), (94, 1, .iload_n 2), (95, 3, .invokestatic 214), (98, 3, .goto 12), (101, 1, .aload_n 0), (102, 3, .getfield 23), (105, 3, .getfield 211), (108, 1, .iload_n 1), (109, 1, .iaload), (110, 2, .istore 5)]
theorem ck_66_0 : pm_ck prog_1_method_14_code cd_66_0 = true := by decide +kernel
def cd_66_1 : List (Nat × Nat × Instr) := [(112, 2, .iload 4), (114, 2, .iload 5), (116, 3, .if_icmp .le 10), (119, 1, .aload_n 0), (120, 2, .ldc 186), (122, 3, .invokevirtual 71), (125, 1, .ireturn), (126, 1, .aload_n 0), (127, 3, .getfield 23), (130, 3, .getfield 202), (133, 1, .iload_n 1), (134, 2, .iload 4), (136, 1, .iastore), (137, 1, .aload_n 0), (138, 3, .getfield 23), (141, 3, .getfield 211), (144, 1, .iload_n 1), (145, 2, .iload 5), (147, 1, .iastore), (148, 2, .iload 5), (150, 2, .iload 4), (152, 1, .isub), (153, 1, .iconst 1), (154, 1, .iadd), (155, 1, .ireturn)]
theorem ck_66_1 : pm_ck prog_1_method_14_code cd_66_1 = true := by decide +kernel
def cd_66 : List (Nat × Nat × Instr) := cd_66_0 ++ (cd_66_1)
theorem ck_66 : pm_ck prog_1_method_14_code cd_66 = true := pm_ck_app ck_66_0 (ck_66_1)
def mt_66 : pmM := (⟨"LampFeast", "look", "(III)I"⟩, prog_1_method_14_code, 6, (some .int), 7, 3, cd_66)
def cd_67 : List (Nat × Nat × Instr) := [(0, 1, .aload_n 0), (1, 3, .getfield 23), (4, 1, .iload_n 1), (5, 3, .invokevirtual 111), (8, 3, .ifCond .ne 10), (11, 1, .aload_n 0), (12, 2, .ldc 70), (14, 3, .invokevirtual 71), (17, 1, .ireturn), (18, 1, .aload_n 0), (19, 3, .getfield 23), (22, 3, .getfield 118), (25, 1, .iload_n 1), (26, 1, .baload), (27, 3, .ifCond .ne 10), (30, 1, .aload_n 0), (31, 2, .ldc 95), (33, 3, .invokevirtual 71), (36, 1, .ireturn), (37, 1, .aload_n 0), (38, 3, .getfield 23), (41, 3, .getfield 202), (44, 1, .iload_n 1), (45, 1, .iaload), (46, 1, .aload_n 0), (47, 3, .getfield 23), (50, 3, .getfield 211), (53, 1, .iload_n 1), (54, 1, .iaload), (55, 3, .if_icmp .ne 10), (58, 1, .aload_n 0), (59, 2, .ldc 186), (61, 3, .invokevirtual 71), (64, 1, .ireturn), (65, 1, .aload_n 0), (66, 3, .getfield 23), (69, 3, .getfield 202), (72, 1, .iload_n 1), (73, 1, .iaload), (74, 1, .aload_n 0), (75, 3, .getfield 23), (78, 3, .getfield 211), (81, 1, .iload_n 1), (82, 1, .iaload), (83, 1, .iadd), (84, 1, .iconst 2), (85, 1, .idiv), (86, 1, .ireturn)]
theorem ck_67 : pm_ck prog_1_method_15_code cd_67 = true := by decide +kernel
def mt_67 : pmM := (⟨"LampFeast", "next", "(I)I"⟩, prog_1_method_15_code, 2, (some .int), 7, 1, cd_67)
def cd_68 : List (Nat × Nat × Instr) := [(0, 1, .aload_n 0), (1, 3, .getfield 23), (4, 1, .iload_n 1), (5, 3, .invokevirtual 111), (8, 3, .ifCond .ne 10), (11, 1, .aload_n 0), (12, 2, .ldc 70), (14, 3, .invokevirtual 71), (17, 1, .ireturn), (18, 1, .aload_n 0), (19, 3, .getfield 23), (22, 3, .getfield 118), (25, 1, .iload_n 1), (26, 1, .baload), (27, 3, .ifCond .ne 10), (30, 1, .aload_n 0), (31, 2, .ldc 95), (33, 3, .invokevirtual 71), (36, 1, .ireturn), (37, 1, .iload_n 2), (38, 3, .ifCond .eq 15), (41, 1, .aload_n 0), (42, 3, .getfield 23), (45, 3, .getfield 211), (48, 1, .iload_n 1), (49, 1, .iaload), (50, 3, .goto 12), (53, 1, .aload_n 0), (54, 3, .getfield 23), (57, 3, .getfield 202), (60, 1, .iload_n 1), (61, 1, .iaload), (62, 1, .ireturn)]
theorem ck_68 : pm_ck prog_1_method_16_code cd_68 = true := by decide +kernel
def mt_68 : pmM := (⟨"LampFeast", "fault", "(IZ)I"⟩, prog_1_method_16_code, 3, (some .int), 7, 2, cd_68)
def cd_69 : List (Nat × Nat × Instr) := [(0, 1, .iload_n 1), (1, 1, .iconst 1), (2, 1, .iconst 3), (3, 3, .invokestatic 66), (6, 3, .ifCond .eq 13), (9, 1, .iload_n 2), (10, 1, .iconst 1), (11, 2, .bipush 12), (13, 3, .invokestatic 66), (16, 3, .ifCond .ne 10), (19, 1, .aload_n 0), (20, 2, .ldc 70), (22, 3, .invokevirtual 71), (25, 1, .ireturn), (26, 1, .aload_n 0), (27, 3, .getfield 48), (30, 1, .iload_n 1), (31, 3, .putfield 217), (34, 1, .aload_n 0), (35, 3, .getfield 48), (38, 1, .iload_n 2), (39, 3, .putfield 220), (42, 1, .iconst 1), (43, 1, .ireturn)]
theorem ck_69 : pm_ck prog_1_method_17_code cd_69 = true := by decide +kernel
def mt_69 : pmM := (⟨"LampFeast", "crews", "(II)I"⟩, prog_1_method_17_code, 3, (some .int), 7, 2, cd_69)
def cd_70 : List (Nat × Nat × Instr) := [(0, 1, .iload_n 1), (1, 1, .iconst 0), (2, 2, .bipush 7), (4, 3, .invokestatic 66), (7, 3, .ifCond .eq 13), (10, 1, .iload_n 2), (11, 1, .iconst 0), (12, 2, .bipush 127), (14, 3, .invokestatic 66), (17, 3, .ifCond .ne 10), (20, 1, .aload_n 0), (21, 2, .ldc 70), (23, 3, .invokevirtual 71), (26, 1, .ireturn), (27, 1, .aload_n 0), (28, 3, .getfield 48), (31, 3, .getfield 223), (34, 1, .iload_n 1), (35, 1, .iaload), (36, 1, .istore_n 3), (37, 1, .aload_n 0), (38, 3, .getfield 48), (41, 3, .getfield 223), (44, 1, .iload_n 1), (45, 1, .iload_n 2), (46, 1, .iastore), (47, 1, .iload_n 3), (48, 1, .ireturn)]
theorem ck_70 : pm_ck prog_1_method_18_code cd_70 = true := by decide +kernel
def mt_70 : pmM := (⟨"LampFeast", "open", "(II)I"⟩, prog_1_method_18_code, 4, (some .int), 7, 2, cd_70)
def cd_71 : List (Nat × Nat × Instr) := [(0, 1, .aload_n 0), (1, 3, .getfield 23), (4, 1, .iload_n 1), (5, 3, .invokevirtual 111), (8, 3, .ifCond .eq 14), (11, 1, .aload_n 0), (12, 3, .getfield 23), (15, 1, .iload_n 2), (16, 3, .invokevirtual 111), (19, 3, .ifCond .ne 10), (22, 1, .aload_n 0), (23, 2, .ldc 70), (25, 3, .invokevirtual 71), (28, 1, .ireturn), (29, 1, .aload_n 0), (30, 3, .getfield 48), (33, 1, .iload_n 1), (34, 1, .iload_n 2), (35, 3, .invokevirtual 226), (38, 1, .ireturn)]
theorem ck_71 : pm_ck prog_1_method_19_code cd_71 = true := by decide +kernel
def mt_71 : pmM := (⟨"LampFeast", "order", "(II)I"⟩, prog_1_method_19_code, 3, (some .int), 7, 2, cd_71)
def cd_72 : List (Nat × Nat × Instr) := [(0, 1, .aload_n 0), (1, 3, .getfield 48), (4, 3, .invokevirtual 229), (7, 1, .ireturn)]
theorem ck_72 : pm_ck prog_1_method_20_code cd_72 = true := by decide +kernel
def mt_72 : pmM := (⟨"LampFeast", "plan", "()I"⟩, prog_1_method_20_code, 1, (some .int), 7, 0, cd_72)
def cd_73 : List (Nat × Nat × Instr) := [(0, 1, .aload_n 0), (1, 3, .getfield 23), (4, 1, .iload_n 1), (5, 3, .invokevirtual 111), (8, 3, .ifCond .eq 12), (11, 1, .iload_n 2), (12, 1, .iconst 0), (13, 1, .iconst 3), (14, 3, .invokestatic 66), (17, 3, .ifCond .ne 10), (20, 1, .aload_n 0), (21, 2, .ldc 70), (23, 3, .invokevirtual 71), (26, 1, .ireturn), (27, 1, .aload_n 0), (28, 3, .getfield 48), (31, 3, .invokevirtual 229), (34, 1, .pop), (35, 1, .iload_n 2), (36, 28, .tableswitch 57 0 2 #[28, 38, 48]), (64, 1, .aload_n 0), (65, 3, .getfield 48), (68, 3, .getfield 232), (71, 1, .iload_n 1), (72, 1, .iaload), (73, 1, .ireturn), (74, 1, .aload_n 0), (75, 3, .getfield 48), (78, 3, .getfield 235), (81, 1, .iload_n 1), (82, 1, .iaload), (83, 1, .ireturn), (84, 1, .aload_n 0), (85, 3, .getfield 48), (88, 1, .iload_n 1), (89, 3, .invokevirtual 238), (92, 1, .ireturn), (93, 1, .aload_n 0), (94, 3, .getfield 23), (97, 1, .iload_n 1), (98, 3, .invokevirtual 241), (101, 1, .ireturn)]
theorem ck_73 : pm_ck prog_1_method_21_code cd_73 = true := by decide +kernel
def mt_73 : pmM := (⟨"LampFeast", "hung", "(II)I"⟩, prog_1_method_21_code, 3, (some .int), 7, 2, cd_73)
def cd_74 : List (Nat × Nat × Instr) := [(0, 1, .aload_n 0), (1, 3, .getfield 23), (4, 3, .getfield 96), (7, 2, .bipush 6), (9, 3, .if_icmp .le 10), (12, 1, .aload_n 0), (13, 2, .ldc 95), (15, 3, .invokevirtual 71), (18, 1, .ireturn), (19, 1, .aload_n 0), (20, 3, .getfield 48), (23, 3, .invokevirtual 243), (26, 1, .ireturn)]
theorem ck_74 : pm_ck prog_1_method_22_code cd_74 = true := by decide +kernel
def mt_74 : pmM := (⟨"LampFeast", "best", "()I"⟩, prog_1_method_22_code, 1, (some .int), 7, 0, cd_74)
def cd_75 : List (Nat × Nat × Instr) := [(0, 1, .iload_n 1), (1, 1, .iconst 0), (2, 2, .bipush 7), (4, 3, .invokestatic 66), (7, 3, .ifCond .eq 14), (10, 1, .iload_n 2), (11, 1, .iconst 0), (12, 3, .sipush 1000), (15, 3, .invokestatic 66), (18, 3, .ifCond .ne 10), (21, 1, .aload_n 0), (22, 2, .ldc 70), (24, 3, .invokevirtual 71), (27, 1, .ireturn), (28, 1, .aload_n 0), (29, 3, .getfield 55), (32, 3, .getfield 246), (35, 1, .iload_n 1), (36, 1, .iaload), (37, 1, .istore_n 3), (38, 1, .aload_n 0), (39, 3, .getfield 55), (42, 3, .getfield 246), (45, 1, .iload_n 1), (46, 1, .iload_n 2), (47, 1, .iastore), (48, 1, .iload_n 3), (49, 1, .ireturn)]
theorem ck_75 : pm_ck prog_1_method_23_code cd_75 = true := by decide +kernel
def mt_75 : pmM := (⟨"LampFeast", "front", "(II)I"⟩, prog_1_method_23_code, 4, (some .int), 7, 2, cd_75)
def cd_76 : List (Nat × Nat × Instr) := [(0, 1, .iload_n 1), (1, 1, .iconst 0), (2, 2, .bipush 100), (4, 3, .invokestatic 66), (7, 3, .ifCond .ne 10), (10, 1, .aload_n 0), (11, 2, .ldc 70), (13, 3, .invokevirtual 71), (16, 1, .ireturn), (17, 1, .aload_n 0), (18, 3, .getfield 55), (21, 3, .getfield 249), (24, 1, .istore_n 2), (25, 1, .aload_n 0), (26, 3, .getfield 55), (29, 1, .iload_n 1), (30, 3, .putfield 249), (33, 1, .iload_n 2), (34, 1, .ireturn)]
theorem ck_76 : pm_ck prog_1_method_24_code cd_76 = true := by decide +kernel
def mt_76 : pmM := (⟨"LampFeast", "part", "(I)I"⟩, prog_1_method_24_code, 3, (some .int), 7, 1, cd_76)
def cd_77 : List (Nat × Nat × Instr) := [(0, 1, .iload_n 1), (1, 1, .iconst (-1)), (2, 2, .bipush 7), (4, 3, .invokestatic 66), (7, 3, .ifCond .eq 13), (10, 1, .iload_n 2), (11, 1, .iconst 0), (12, 2, .ldc 252), (14, 3, .invokestatic 66), (17, 3, .ifCond .ne 10), (20, 1, .aload_n 0), (21, 2, .ldc 70), (23, 3, .invokevirtual 71), (26, 1, .ireturn), (27, 1, .iload_n 1), (28, 3, .ifCond .ge 14), (31, 1, .aload_n 0), (32, 3, .getfield 55), (35, 1, .iload_n 2), (36, 3, .invokevirtual 253), (39, 3, .goto 12), (42, 1, .aload_n 0), (43, 3, .getfield 55), (46, 1, .iload_n 1), (47, 1, .iload_n 2), (48, 3, .invokevirtual 256), (51, 1, .ireturn)]
theorem ck_77 : pm_ck prog_1_method_25_code cd_77 = true := by decide +kernel
def mt_77 : pmM := (⟨"LampFeast", "share", "(II)I"⟩, prog_1_method_25_code, 3, (some .int), 7, 2, cd_77)
def cd_78 : List (Nat × Nat × Instr) := [(0, 1, .aload_n 0), (1, 3, .getfield 23), (4, 1, .iload_n 1), (5, 1, .iload_n 2), (6, 3, .invokevirtual 199), (9, 3, .ifCond .ne 10), (12, 1, .aload_n 0), (13, 2, .ldc 70), (15, 3, .invokevirtual 71), (18, 1, .ireturn), (19, 1, .aload_n 0), (20, 3, .getfield 23), (23, 1, .iload_n 1), (24, 1, .iload_n 2), (25, 3, .invokevirtual 259), (28, 1, .ireturn)]
theorem ck_78 : pm_ck prog_1_method_26_code cd_78 = true := by decide +kernel
def mt_78 : pmM := (⟨"LampFeast", "lamp", "(II)I"⟩, prog_1_method_26_code, 3, (some .int), 7, 2, cd_78)
def cd_79 : List (Nat × Nat × Instr) := [(0, 1, .aload_n 0), (1, 3, .getfield 23), (4, 1, .iload_n 1), (5, 1, .iload_n 2), (6, 3, .invokevirtual 199), (9, 3, .ifCond .ne 10), (12, 1, .aload_n 0), (13, 2, .ldc 70), (15, 3, .invokevirtual 71), (18, 1, .ireturn), (19, 1, .aload_n 0), (20, 3, .getfield 16), (23, 3, .invokevirtual 91), (26, 3, .ifCond .ne 10), (29, 1, .aload_n 0), (30, 2, .ldc 95), (32, 3, .invokevirtual 71), (35, 1, .ireturn), (36, 1, .aload_n 0), (37, 3, .getfield 16), (40, 3, .invokevirtual 100), (43, 1, .istore_n 3), (44, 1, .aload_n 0), (45, 3, .getfield 16), (48, 1, .aload_n 0), (49, 3, .getfield 23), (52, 1, .iload_n 1), (53, 1, .iload_n 2), (54, 3, .invokevirtual 259), (57, 3, .invokevirtual 262), (60, 1, .aload_n 0), (61, 3, .getfield 23), (64, 1, .iload_n 1), (65, 1, .iload_n 2), (66, 1, .iload_n 3), (67, 3, .invokevirtual 103), (70, 1, .iload_n 3), (71, 1, .ireturn)]
theorem ck_79 : pm_ck prog_1_method_27_code cd_79 = true := by decide +kernel
def mt_79 : pmM := (⟨"LampFeast", "replace", "(II)I"⟩, prog_1_method_27_code, 4, (some .int), 7, 2, cd_79)
def cd_80 : List (Nat × Nat × Instr) := [(0, 1, .aload_n 0), (1, 3, .getfield 16), (4, 1, .iload_n 1), (5, 3, .invokevirtual 265), (8, 3, .ifCond .ne 10), (11, 1, .aload_n 0), (12, 2, .ldc 70), (14, 3, .invokevirtual 71), (17, 1, .ireturn), (18, 1, .iload_n 2), (19, 29, .tableswitch 69 0 3 #[29, 39, 49, 59]), (48, 1, .aload_n 0), (49, 3, .getfield 16), (52, 3, .getfield 266), (55, 1, .iload_n 1), (56, 1, .iaload), (57, 1, .ireturn), (58, 1, .aload_n 0), (59, 3, .getfield 16), (62, 3, .getfield 267), (65, 1, .iload_n 1), (66, 1, .iaload), (67, 1, .ireturn), (68, 1, .aload_n 0), (69, 3, .getfield 16), (72, 3, .getfield 270), (75, 1, .iload_n 1), (76, 1, .iaload), (77, 1, .ireturn), (78, 1, .aload_n 0), (79, 3, .getfield 16), (82, 3, .getfield 273), (85, 1, .iload_n 1), (86, 1, .iaload), (87, 1, .ireturn), (88, 1, .aload_n 0), (89, 2, .ldc 70), (91, 3, .invokevirtual 71), (94, 1, .ireturn)]
theorem ck_80 : pm_ck prog_1_method_28_code cd_80 = true := by decide +kernel
def mt_80 : pmM := (⟨"LampFeast", "box", "(II)I"⟩, prog_1_method_28_code, 3, (some .int), 7, 2, cd_80)
def cd_81 : List (Nat × Nat × Instr) := [(0, 1, .aload_n 0), (1, 3, .getfield 62), (4, 3, .getfield 276), (7, 2, .bipush 24), (9, 3, .if_icmp .lt 10), (12, 1, .aload_n 0), (13, 2, .ldc 79), (15, 3, .invokevirtual 71), (18, 1, .ireturn), (19, 1, .aload_n 0), (20, 3, .getfield 62), (23, 1, .iload_n 1), (24, 3, .invokevirtual 277), (27, 1, .ireturn)]
theorem ck_81 : pm_ck prog_1_method_29_code cd_81 = true := by decide +kernel
def mt_81 : pmM := (⟨"LampFeast", "tell", "(I)I"⟩, prog_1_method_29_code, 2, (some .int), 7, 1, cd_81)
def cd_82 : List (Nat × Nat × Instr) := [(0, 1, .aload_n 0), (1, 3, .getfield 41), (4, 3, .invokevirtual 182), (7, 1, .istore_n 1), (8, 1, .iload_n 1), (9, 3, .ifCond .eq 20), (12, 1, .aload_n 0), (13, 3, .getfield 62), (16, 1, .aload_n 0), (17, 3, .getfield 41), (20, 3, .invokevirtual 190), (23, 3, .invokevirtual 278), (26, 3, .goto 9), (29, 1, .aload_n 0), (30, 2, .ldc 186), (32, 3, .invokevirtual 71), (35, 1, .istore_n 2), (36, 1, .aload_n 0), (37, 3, .getfield 62), (40, 1, .iconst 0), (41, 3, .putfield 276), (44, 1, .iload_n 2), (45, 1, .ireturn)]
theorem ck_82 : pm_ck prog_1_method_30_code cd_82 = true := by decide +kernel
def mt_82 : pmM := (⟨"LampFeast", "check", "()I"⟩, prog_1_method_30_code, 3, (some .int), 7, 0, cd_82)
def cd_83 : List (Nat × Nat × Instr) := [(0, 1, .iload_n 1), (1, 39, .tableswitch 81 0 5 #[39, 47, 55, 60, 65, 73]), (40, 1, .aload_n 0), (41, 3, .getfield 23), (44, 3, .getfield 96), (47, 1, .ireturn), (48, 1, .aload_n 0), (49, 3, .getfield 16), (52, 3, .getfield 75), (55, 1, .ireturn), (56, 1, .aload_n 0), (57, 3, .invokevirtual 281), (60, 1, .ireturn), (61, 1, .aload_n 0), (62, 3, .invokevirtual 284), (65, 1, .ireturn), (66, 1, .aload_n 0), (67, 3, .getfield 62), (70, 3, .getfield 276), (73, 1, .ireturn), (74, 1, .aload_n 0), (75, 3, .getfield 16), (78, 3, .invokevirtual 91), (81, 1, .ireturn), (82, 1, .aload_n 0), (83, 2, .ldc 70), (85, 3, .invokevirtual 71), (88, 1, .ireturn)]
theorem ck_83 : pm_ck prog_1_method_31_code cd_83 = true := by decide +kernel
def mt_83 : pmM := (⟨"LampFeast", "count", "(I)I"⟩, prog_1_method_31_code, 2, (some .int), 7, 1, cd_83)
def cd_84 : List (Nat × Nat × Instr) := [(0, 1, .iload_n 1), (1, 1, .iconst 1), (2, 1, .iconst 5), (3, 3, .invokestatic 66), (6, 3, .ifCond .ne 10), (9, 1, .aload_n 0), (10, 2, .ldc 70), (12, 3, .invokevirtual 71), (15, 1, .ireturn), (16, 1, .aload_n 0), (17, 3, .getfield 9), (20, 1, .iload_n 1), (21, 1, .iaload), (22, 1, .ireturn)]
theorem ck_84 : pm_ck prog_1_method_32_code cd_84 = true := by decide +kernel
def mt_84 : pmM := (⟨"LampFeast", "found", "(I)I"⟩, prog_1_method_32_code, 2, (some .int), 7, 1, cd_84)
def cd_85 : List (Nat × Nat × Instr) := [(0, 3, .ldc_w 287), (3, 1, .iload_n 1), (4, 1, .isub), (5, 1, .istore_n 2), (6, 1, .iload_n 2), (7, 1, .iconst 1), (8, 1, .iconst 5), (9, 3, .invokestatic 66), (12, 3, .ifCond .eq 13), (15, 1, .aload_n 0), (16, 3, .getfield 9), (19, 1, .iload_n 2), (20, 1, .dup2), (21, 1, .iaload), (22, 1, .iconst 1), (23, 1, .iadd), (24, 1, .iastore), (25, 1, .iload_n 1), (26, 1, .ireturn)]
theorem ck_85 : pm_ck prog_1_method_33_code cd_85 = true := by decide +kernel
def mt_85 : pmM := (⟨"LampFeast", "finding", "(I)I"⟩, prog_1_method_33_code, 3, (some .int), 7, 1, cd_85)
def cd_86 : List (Nat × Nat × Instr) := [(0, 1, .iload_n 0), (1, 1, .iload_n 1), (2, 3, .if_icmp .lt 12), (5, 1, .iload_n 0), (6, 1, .iload_n 2), (7, 3, .if_icmp .gt 7), (10, 1, .iconst 1), (11, 3, .goto 4), (14, 1, .iconst 0), (15, 1, .ireturn)]
theorem ck_86 : pm_ck prog_1_method_34_code cd_86 = true := by decide +kernel
def mt_86 : pmM := (⟨"LampFeast", "within", "(III)Z"⟩, prog_1_method_34_code, 3, (some .boolean), 7, 3, cd_86)
def cd_87 : List (Nat × Nat × Instr) := [(0, 1, .iload_n 0), (1, 3, .ifCond .eq 7), (4, 1, .iconst 1), (5, 3, .goto 4), (8, 1, .iconst 0), (9, 1, .ireturn)]
theorem ck_87 : pm_ck prog_1_method_35_code cd_87 = true := by decide +kernel
def mt_87 : pmM := (⟨"LampFeast", "bit", "(Z)I"⟩, prog_1_method_35_code, 1, (some .int), 7, 1, cd_87)
def cd_88 : List (Nat × Nat × Instr) := [(0, 1, .iload_n 0), (1, 1, .iload_n 1), (2, 1, .ishr), (3, 1, .iconst 1), (4, 1, .iand), (5, 1, .iconst 1), (6, 3, .if_icmp .ne 7), (9, 1, .iconst 1), (10, 3, .goto 4), (13, 1, .iconst 0), (14, 1, .ireturn)]
theorem ck_88 : pm_ck prog_1_method_36_code cd_88 = true := by decide +kernel
def mt_88 : pmM := (⟨"LampFeast", "hasBit", "(II)Z"⟩, prog_1_method_36_code, 2, (some .boolean), 7, 2, cd_88)
def cd_89 : List (Nat × Nat × Instr) := [(0, 1, .iload_n 0), (1, 3, .ifCond .lt 35), (4, 1, .iload_n 0), (5, 2, .bipush 100), (7, 1, .idiv), (8, 2, .bipush 8), (10, 3, .if_icmp .ge 26), (13, 1, .iload_n 0), (14, 2, .bipush 10), (16, 1, .idiv), (17, 2, .bipush 10), (19, 1, .irem), (20, 1, .iconst 2), (21, 3, .if_icmp .gt 15), (24, 1, .iload_n 0), (25, 2, .bipush 10), (27, 1, .irem), (28, 1, .iconst 1), (29, 3, .if_icmp .gt 7), (32, 1, .iconst 1), (33, 3, .goto 4), (36, 1, .iconst 0), (37, 1, .ireturn)]
theorem ck_89 : pm_ck prog_1_method_37_code cd_89 = true := by decide +kernel
def mt_89 : pmM := (⟨"LampFeast", "isHow", "(I)Z"⟩, prog_1_method_37_code, 1, (some .boolean), 7, 1, cd_89)
def cd_90 : List (Nat × Nat × Instr) := [(0, 1, .iload_n 1), (1, 1, .iconst 1), (2, 3, .if_icmp .ne 14), (5, 1, .aload_n 0), (6, 3, .getfield 23), (9, 1, .iload_n 2), (10, 3, .invokevirtual 111), (13, 3, .goto 12), (16, 1, .iload_n 2), (17, 3, .ifCond .ne 7), (20, 1, .iconst 1), (21, 3, .goto 4), (24, 1, .iconst 0), (25, 1, .ireturn)]
theorem ck_90 : pm_ck prog_1_method_38_code cd_90 = true := by decide +kernel
def mt_90 : pmM := (⟨"LampFeast", "isUp", "(II)Z"⟩, prog_1_method_38_code, 3, (some .boolean), 7, 2, cd_90)
def cd_91 : List (Nat × Nat × Instr) := [(0, 1, .aload_n 0), (1, 3, .getfield 32), (4, 3, .invokevirtual 160), (7, 1, .aload_n 0), (8, 3, .getfield 32), (11, 3, .getfield 288), (14, 1, .iload_n 1), (15, 1, .baload), (16, 1, .ireturn)]
theorem ck_91 : pm_ck prog_1_method_39_code cd_91 = true := by decide +kernel
def mt_91 : pmM := (⟨"LampFeast", "darkNow", "(I)Z"⟩, prog_1_method_39_code, 2, (some .boolean), 7, 1, cd_91)
def cd_92 : List (Nat × Nat × Instr) := [(0, 1, .iconst 0), (1, 1, .istore_n 1), (2, 1, .iconst 0), (3, 1, .istore_n 2), (4, 1, .iload_n 2), (5, 1, .aload_n 0), (6, 3, .getfield 23), (9, 3, .getfield 96), (12, 3, .if_icmp .ge 24), (15, 1, .iload_n 1), (16, 1, .aload_n 0), (17, 3, .getfield 23), (20, 3, .getfield 118), (23, 1, .iload_n 2), (24, 1, .baload), (25, 3, .invokestatic 122), (28, 1, .iadd), (29, 1, .istore_n 1), (30, 3, .iinc 2 1), (33, 3, .goto (-29)), (36, 1, .iload_n 1), (37, 1, .ireturn)]
theorem ck_92 : pm_ck prog_1_method_40_code cd_92 = true := by decide +kernel
def mt_92 : pmM := (⟨"LampFeast", "countDead", "()I"⟩, prog_1_method_40_code, 3, (some .int), 7, 0, cd_92)
def cd_93 : List (Nat × Nat × Instr) := [(0, 1, .aload_n 0), (1, 3, .getfield 32), (4, 3, .invokevirtual 160), (7, 1, .iconst 0), (8, 1, .istore_n 1), (9, 1, .iconst 0), (10, 1, .istore_n 2), (11, 1, .iload_n 2), (12, 1, .aload_n 0), (13, 3, .getfield 23), (16, 3, .getfield 96), (19, 3, .if_icmp .ge 24), (22, 1, .iload_n 1), (23, 1, .aload_n 0), (24, 3, .getfield 32), (27, 3, .getfield 288), (30, 1, .iload_n 2), (31, 1, .baload), (32, 3, .invokestatic 122), (35, 1, .iadd), (36, 1, .istore_n 1), (37, 3, .iinc 2 1), (40, 3, .goto (-29)), (43, 1, .iload_n 1), (44, 1, .ireturn)]
theorem ck_93 : pm_ck prog_1_method_41_code cd_93 = true := by decide +kernel
def mt_93 : pmM := (⟨"LampFeast", "countDark", "()I"⟩, prog_1_method_41_code, 3, (some .int), 7, 0, cd_93)
def cd_94_0 : List (Nat × Nat × Instr) := [(0, 1, .aload_n 0), (1, 3, .invokespecial 1), (4, 1, .aload_n 0), (5, 3, .sipush 1000), (8, 3, .putfield 7), (11, 1, .aload_n 0), (12, 1, .iconst 1), (13, 3, .putfield 13), (16, 1, .aload_n 0), (17, 2, .bipush 6), (19, 3, .putfield 16), (22, 1, .aload_n 0), (23, 2, .bipush 50), (25, 3, .putfield 19), (28, 1, .aload_n 0), (29, 2, .bipush 12), (31, 2, .newarray .int), (33, 3, .putfield 22), (36, 1, .aload_n 0), (37, 2, .bipush 12), (39, 2, .newarray .int), (41, 3, .putfield 26), (44, 1, .aload_n 0), (45, 2, .bipush 12), (47, 2, .newarray .int), (49, 3, .putfield 29), (52, 1, .aload_n 0), (53, 2, .bipush 24), (55, 2, .newarray .int), (57, 3, .putfield 32), (60, 1, .aload_n 0), (61, 2, .bipush 24), (63, 2, .newarray .int), (65, 3, .putfield 35), (68, 1, .aload_n 0), (69, 2, .bipush 24), (71, 2, .newarray .int), (73, 3, .putfield 38), (76, 1, .aload_n 0), (77, 2, .bipush 24)]
theorem ck_94_0 : pm_ck prog_10_method_1_code cd_94_0 = true := by decide +kernel
def cd_94_1 : List (Nat × Nat × Instr) := [(79, 2, .newarray .int), (81, 3, .putfield 41), (84, 1, .aload_n 0), (85, 2, .bipush 24), (87, 2, .newarray .int), (89, 3, .putfield 44), (92, 1, .aload_n 0), (93, 2, .bipush 24), (95, 2, .newarray .int), (97, 3, .putfield 47), (100, 1, .aload_n 0), (101, 2, .bipush 24), (103, 2, .newarray .int), (105, 3, .putfield 50), (108, 1, .aload_n 0), (109, 2, .bipush 24), (111, 2, .newarray .int), (113, 3, .putfield 53), (116, 1, .aload_n 0), (117, 2, .bipush 24), (119, 2, .newarray .int), (121, 3, .putfield 56), (124, 1, .aload_n 0), (125, 2, .bipush 24), (127, 2, .newarray .int), (129, 3, .putfield 59), (132, 1, .aload_n 0), (133, 2, .bipush 24), (135, 2, .newarray .boolean), (137, 3, .putfield 62), (140, 1, .aload_n 0), (141, 3, .sipush 1440), (144, 2, .newarray .int), (146, 3, .putfield 66), (149, 1, .aload_n 0), (150, 2, .bipush 8), (152, 2, .newarray .int), (154, 3, .putfield 69), (157, 1, .aload_n 0), (158, 2, .bipush 8)]
theorem ck_94_1 : pm_ck prog_10_method_1_code cd_94_1 = true := by decide +kernel
def cd_94_2 : List (Nat × Nat × Instr) := [(160, 2, .newarray .int), (162, 3, .putfield 72), (165, 1, .aload_n 0), (166, 2, .bipush 24), (168, 2, .newarray .int), (170, 3, .putfield 75), (173, 1, .aload_n 0), (174, 2, .bipush 6), (176, 2, .newarray .int), (178, 3, .putfield 78), (181, 1, .aload_n 0), (182, 2, .bipush 24), (184, 2, .newarray .int), (186, 3, .putfield 81), (189, 1, .aload_n 0), (190, 2, .bipush 24), (192, 2, .newarray .int), (194, 3, .putfield 84), (197, 1, .aload_n 0), (198, 2, .bipush 24), (200, 2, .newarray .int), (202, 3, .putfield 87), (205, 1, .aload_n 0), (206, 2, .bipush 24), (208, 2, .newarray .int), (210, 3, .putfield 90), (213, 1, .aload_n 0), (214, 3, .sipush 600), (217, 2, .newarray .int), (219, 3, .putfield 93), (222, 1, .aload_n 0), (223, 2, .bipush 24), (225, 2, .newarray .int), (227, 3, .putfield 96), (230, 1, .aload_n 0), (231, 2, .bipush 24), (233, 2, .newarray .int), (235, 3, .putfield 99), (238, 1, .aload_n 0), (239, 2, .bipush 24)]
theorem ck_94_2 : pm_ck prog_10_method_1_code cd_94_2 = true := by decide +kernel
def cd_94_3 : List (Nat × Nat × Instr) := [(241, 2, .newarray .int), (243, 3, .putfield 102), (246, 1, .aload_n 0), (247, 3, .sipush 180), (250, 2, .newarray .int), (252, 3, .putfield 105), (255, 1, .aload_n 0), (256, 2, .bipush 24), (258, 2, .newarray .int), (260, 3, .putfield 108), (263, 1, .iconst 0), (264, 1, .istore_n 1), (265, 1, .iload_n 1), (266, 2, .bipush 8), (268, 3, .if_icmp .ge 17), (271, 1, .aload_n 0), (272, 3, .getfield 69), (275, 1, .iload_n 1), (276, 2, .bipush 127), (278, 1, .iastore), (279, 3, .iinc 1 1), (282, 3, .goto (-17)), (285, 1, .return_)]
theorem ck_94_3 : pm_ck prog_10_method_1_code cd_94_3 = true := by decide +kernel
def cd_94 : List (Nat × Nat × Instr) := cd_94_0 ++ (cd_94_1 ++ (cd_94_2 ++ (cd_94_3)))
theorem ck_94 : pm_ck prog_10_method_1_code cd_94 = true := pm_ck_app ck_94_0 (pm_ck_app ck_94_1 (pm_ck_app ck_94_2 (ck_94_3)))
def mt_94 : pmM := (⟨"LampFeastModel", "<init>", "()V"⟩, prog_10_method_1_code, 2, none, 8, 0, cd_94)
def cd_95 : List (Nat × Nat × Instr) := [(0, 1, .iload_n 0), (1, 1, .iload_n 1), (2, 3, .if_icmp .lt 12), (5, 1, .iload_n 0), (6, 1, .iload_n 2), (7, 3, .if_icmp .gt 7), (10, 1, .iconst 1), (11, 3, .goto 4), (14, 1, .iconst 0), (15, 1, .ireturn)]
theorem ck_95 : pm_ck prog_10_method_3_code cd_95 = true := by decide +kernel
def mt_95 : pmM := (⟨"LampFeastModel", "in", "(III)Z"⟩, prog_10_method_3_code, 3, (some .boolean), 8, 3, cd_95)
def cd_96 : List (Nat × Nat × Instr) := [(0, 1, .aload_n 0), (1, 3, .getfield 78), (4, 1, .iload_n 1), (5, 1, .dup2), (6, 1, .iaload), (7, 1, .iconst 1), (8, 1, .iadd), (9, 1, .iastore), (10, 2, .ldc 111), (12, 1, .iload_n 1), (13, 1, .isub), (14, 1, .ireturn)]
theorem ck_96 : pm_ck prog_10_method_4_code cd_96 = true := by decide +kernel
def mt_96 : pmM := (⟨"LampFeastModel", "finds", "(I)I"⟩, prog_10_method_4_code, 2, (some .int), 8, 1, cd_96)
def cd_97 : List (Nat × Nat × Instr) := [(0, 1, .iload_n 1), (1, 1, .iconst 0), (2, 1, .aload_n 0), (3, 3, .getfield 112), (6, 1, .iconst 1), (7, 1, .isub), (8, 3, .invokestatic 115), (11, 1, .ireturn)]
theorem ck_97 : pm_ck prog_10_method_5_code cd_97 = true := by decide +kernel
def mt_97 : pmM := (⟨"LampFeastModel", "isString", "(I)Z"⟩, prog_10_method_5_code, 2, (some .boolean), 8, 1, cd_97)
def cd_98 : List (Nat × Nat × Instr) := [(0, 1, .iload_n 0), (1, 1, .iload_n 1), (2, 1, .ishr), (3, 1, .iconst 1), (4, 1, .iand), (5, 1, .iconst 1), (6, 3, .if_icmp .ne 7), (9, 1, .iconst 1), (10, 3, .goto 4), (13, 1, .iconst 0), (14, 1, .ireturn)]
theorem ck_98 : pm_ck prog_10_method_6_code cd_98 = true := by decide +kernel
def mt_98 : pmM := (⟨"LampFeastModel", "has", "(II)Z"⟩, prog_10_method_6_code, 2, (some .boolean), 8, 2, cd_98)
def cd_99 : List (Nat × Nat × Instr) := [(0, 1, .iload_n 1), (1, 1, .iconst 1), (2, 3, .sipush 1000), (5, 3, .invokestatic 115), (8, 3, .ifCond .ne 9), (11, 1, .aload_n 0), (12, 1, .iconst 1), (13, 3, .invokevirtual 119), (16, 1, .ireturn), (17, 1, .aload_n 0), (18, 3, .getfield 123), (21, 2, .bipush 12), (23, 3, .if_icmp .ne 9), (26, 1, .aload_n 0), (27, 1, .iconst 4), (28, 3, .invokevirtual 119), (31, 1, .ireturn), (32, 1, .aload_n 0), (33, 3, .getfield 22), (36, 1, .aload_n 0), (37, 3, .getfield 123), (40, 1, .iload_n 1), (41, 1, .iastore), (42, 1, .aload_n 0), (43, 3, .getfield 26), (46, 1, .aload_n 0), (47, 3, .getfield 123), (50, 1, .iload_n 1), (51, 1, .iastore), (52, 1, .aload_n 0), (53, 1, .dup), (54, 3, .getfield 123), (57, 1, .iconst 1), (58, 1, .iadd), (59, 3, .putfield 123), (62, 1, .aload_n 0), (63, 3, .getfield 123), (66, 1, .iconst 1), (67, 1, .isub), (68, 1, .ireturn)]
theorem ck_99 : pm_ck prog_10_method_7_code cd_99 = true := by decide +kernel
def mt_99 : pmM := (⟨"LampFeastModel", "crate", "(I)I"⟩, prog_10_method_7_code, 2, (some .int), 8, 1, cd_99)
def cd_100 : List (Nat × Nat × Instr) := [(0, 1, .iconst 0), (1, 1, .istore_n 1), (2, 1, .iconst 0), (3, 1, .istore_n 2), (4, 1, .iload_n 2), (5, 1, .aload_n 0), (6, 3, .getfield 123), (9, 3, .if_icmp .ge 18), (12, 1, .iload_n 1), (13, 1, .aload_n 0), (14, 3, .getfield 26), (17, 1, .iload_n 2), (18, 1, .iaload), (19, 1, .iadd), (20, 1, .istore_n 1), (21, 3, .iinc 2 1), (24, 3, .goto (-20)), (27, 1, .iload_n 1), (28, 1, .ireturn)]
theorem ck_100 : pm_ck prog_10_method_8_code cd_100 = true := by decide +kernel
def mt_100 : pmM := (⟨"LampFeastModel", "lampsLeft", "()I"⟩, prog_10_method_8_code, 3, (some .int), 8, 0, cd_100)
def cd_101 : List (Nat × Nat × Instr) := [(0, 1, .iconst 0), (1, 1, .istore_n 1), (2, 1, .aload_n 0), (3, 3, .getfield 26), (6, 1, .iload_n 1), (7, 1, .iaload), (8, 3, .ifCond .ne 9), (11, 3, .iinc 1 1), (14, 3, .goto (-12)), (17, 1, .aload_n 0), (18, 3, .getfield 26), (21, 1, .iload_n 1), (22, 1, .dup2), (23, 1, .iaload), (24, 1, .iconst 1), (25, 1, .isub), (26, 1, .iastore), (27, 1, .iload_n 1), (28, 1, .ireturn)]
theorem ck_101 : pm_ck prog_10_method_9_code cd_101 = true := by decide +kernel
def mt_101 : pmM := (⟨"LampFeastModel", "taken", "()I"⟩, prog_10_method_9_code, 2, (some .int), 8, 0, cd_101)
def cd_102_0 : List (Nat × Nat × Instr) := [(0, 1, .iload_n 1), (1, 2, .bipush 10), (3, 1, .irem), (4, 1, .iconst 1), (5, 3, .if_icmp .ne 7), (8, 1, .iconst 1), (9, 3, .goto 4), (12, 1, .iconst 0), (13, 2, .istore 7), (15, 1, .iload_n 1), (16, 3, .ifCond .lt 51), (19, 1, .iload_n 1), (20, 2, .bipush 100), (22, 1, .idiv), (23, 2, .bipush 7), (25, 3, .if_icmp .gt 42), (28, 1, .iload_n 1), (29, 2, .bipush 10), (31, 1, .idiv), (32, 2, .bipush 10), (34, 1, .irem), (35, 1, .iconst 2), (36, 3, .if_icmp .gt 31), (39, 1, .iload_n 1), (40, 2, .bipush 10), (42, 1, .irem), (43, 1, .iconst 1), (44, 3, .if_icmp .gt 23), (47, 2, .iload 7), (49, 3, .ifCond .eq 14), (52, 1, .aload_n 0), (53, 1, .iload_n 2), (54, 3, .invokevirtual 126), (57, 3, .ifCond .ne 16), (60, 3, .goto 7), (63, 1, .iload_n 2), (64, 3, .ifCond .eq 9), (67, 1, .aload_n 0), (68, 1, .iconst 1), (69, 3, .invokevirtual 119)]
theorem ck_102_0 : pm_ck prog_10_method_10_code cd_102_0 = true := by decide +kernel
def cd_102_1 : List (Nat × Nat × Instr) := [(72, 1, .ireturn), (73, 1, .iload_n 3), (74, 1, .iconst 1), (75, 2, .bipush 100), (77, 3, .invokestatic 115), (80, 3, .ifCond .eq 36), (83, 2, .iload 4), (85, 1, .iconst 1), (86, 2, .bipush 10), (88, 3, .invokestatic 115), (91, 3, .ifCond .eq 25), (94, 2, .iload 5), (96, 1, .iconst 1), (97, 2, .bipush 60), (99, 3, .invokestatic 115), (102, 3, .ifCond .eq 14), (105, 2, .iload 6), (107, 1, .iconst 1), (108, 2, .bipush 20), (110, 3, .invokestatic 115), (113, 3, .ifCond .ne 9), (116, 1, .aload_n 0), (117, 1, .iconst 1), (118, 3, .invokevirtual 119), (121, 1, .ireturn), (122, 1, .aload_n 0), (123, 3, .invokevirtual 130), (126, 2, .iload 5), (128, 3, .if_icmp .ge 9), (131, 1, .aload_n 0), (132, 1, .iconst 3), (133, 3, .invokevirtual 119), (136, 1, .ireturn), (137, 1, .aload_n 0), (138, 3, .getfield 112), (141, 2, .bipush 24), (143, 3, .if_icmp .ne 9), (146, 1, .aload_n 0), (147, 1, .iconst 4), (148, 3, .invokevirtual 119)]
theorem ck_102_1 : pm_ck prog_10_method_10_code cd_102_1 = true := by decide +kernel
def cd_102_2 : List (Nat × Nat × Instr) := [(151, 1, .ireturn), (152, 1, .aload_n 0), (153, 3, .getfield 112), (156, 2, .istore 8), (158, 1, .aload_n 0), (159, 3, .getfield 32), (162, 2, .iload 8), (164, 1, .iload_n 1), (165, 2, .bipush 10), (167, 1, .idiv), (168, 2, .bipush 10), (170, 1, .irem), (171, 1, .iastore), (172, 1, .aload_n 0), (173, 3, .getfield 35), (176, 2, .iload 8), (178, 2, .iload 7), (180, 3, .ifCond .eq 7), (183, 1, .iload_n 2), (184, 3, .goto 4), (187, 1, .iconst (-1)), (188, 1, .iastore), (189, 1, .aload_n 0), (190, 3, .getfield 38), (193, 2, .iload 8), (195, 1, .iload_n 1), (196, 2, .bipush 100), (198, 1, .idiv), (199, 1, .iastore), (200, 1, .aload_n 0), (201, 3, .getfield 41), (204, 2, .iload 8), (206, 1, .iload_n 3), (207, 1, .iastore), (208, 1, .aload_n 0), (209, 3, .getfield 44), (212, 2, .iload 8), (214, 2, .iload 4), (216, 1, .iastore), (217, 1, .aload_n 0)]
theorem ck_102_2 : pm_ck prog_10_method_10_code cd_102_2 = true := by decide +kernel
def cd_102_3 : List (Nat × Nat × Instr) := [(218, 3, .getfield 47), (221, 2, .iload 8), (223, 2, .iload 5), (225, 1, .iastore), (226, 1, .aload_n 0), (227, 3, .getfield 50), (230, 2, .iload 8), (232, 2, .iload 6), (234, 1, .iastore), (235, 1, .aload_n 0), (236, 3, .getfield 53), (239, 2, .iload 8), (241, 1, .iconst 0), (242, 1, .iastore), (243, 1, .aload_n 0), (244, 3, .getfield 62), (247, 2, .iload 8), (249, 1, .iconst 0), (250, 1, .bastore), (251, 1, .iconst 0), (252, 2, .istore 9), (254, 2, .iload 9), (256, 2, .iload 5), (258, 3, .if_icmp .ge 26), (261, 1, .aload_n 0), (262, 3, .getfield 66), (265, 2, .bipush 60), (267, 2, .iload 8), (269, 1, .imul), (270, 2, .iload 9), (272, 1, .iadd), (273, 1, .aload_n 0), (274, 3, .invokevirtual 134), (277, 1, .iastore), (278, 3, .iinc 9 1), (281, 3, .goto (-27)), (284, 1, .aload_n 0), (285, 3, .getfield 81), (288, 2, .iload 8), (290, 2, .iload 8)]
theorem ck_102_3 : pm_ck prog_10_method_10_code cd_102_3 = true := by decide +kernel
def cd_102_4 : List (Nat × Nat × Instr) := [(292, 1, .iastore), (293, 1, .aload_n 0), (294, 1, .dup), (295, 3, .getfield 112), (298, 1, .iconst 1), (299, 1, .iadd), (300, 3, .putfield 112), (303, 2, .iload 8), (305, 1, .ireturn)]
theorem ck_102_4 : pm_ck prog_10_method_10_code cd_102_4 = true := by decide +kernel
def cd_102 : List (Nat × Nat × Instr) := cd_102_0 ++ (cd_102_1 ++ (cd_102_2 ++ (cd_102_3 ++ (cd_102_4))))
theorem ck_102 : pm_ck prog_10_method_10_code cd_102 = true := pm_ck_app ck_102_0 (pm_ck_app ck_102_1 (pm_ck_app ck_102_2 (pm_ck_app ck_102_3 (ck_102_4))))
def mt_102 : pmM := (⟨"LampFeastModel", "string", "(IIIIII)I"⟩, prog_10_method_10_code, 10, (some .int), 8, 6, cd_102)
def cd_103 : List (Nat × Nat × Instr) := [(0, 1, .aload_n 0), (1, 1, .iload_n 1), (2, 3, .invokevirtual 126), (5, 3, .ifCond .eq 13), (8, 1, .iload_n 2), (9, 1, .iconst 0), (10, 2, .ldc 137), (12, 3, .invokestatic 115), (15, 3, .ifCond .ne 9), (18, 1, .aload_n 0), (19, 1, .iconst 1), (20, 3, .invokevirtual 119), (23, 1, .ireturn), (24, 1, .aload_n 0), (25, 3, .getfield 53), (28, 1, .iload_n 1), (29, 1, .iaload), (30, 1, .istore_n 3), (31, 1, .aload_n 0), (32, 3, .getfield 53), (35, 1, .iload_n 1), (36, 1, .iload_n 2), (37, 1, .iastore), (38, 1, .iload_n 3), (39, 1, .ireturn)]
theorem ck_103 : pm_ck prog_10_method_11_code cd_103 = true := by decide +kernel
def mt_103 : pmM := (⟨"LampFeastModel", "fuse", "(II)I"⟩, prog_10_method_11_code, 4, (some .int), 8, 2, cd_103)
def cd_104 : List (Nat × Nat × Instr) := [(0, 1, .aload_n 0), (1, 3, .getfield 62), (4, 1, .iload_n 1), (5, 1, .iconst 1), (6, 1, .bastore), (7, 1, .aload_n 0), (8, 3, .getfield 56), (11, 1, .iload_n 1), (12, 1, .iconst 0), (13, 1, .iastore), (14, 1, .aload_n 0), (15, 3, .getfield 59), (18, 1, .iload_n 1), (19, 1, .aload_n 0), (20, 3, .getfield 47), (23, 1, .iload_n 1), (24, 1, .iaload), (25, 1, .iconst 1), (26, 1, .isub), (27, 1, .iastore), (28, 1, .return_)]
theorem ck_104 : pm_ck prog_10_method_12_code cd_104 = true := by decide +kernel
def mt_104 : pmM := (⟨"LampFeastModel", "dies", "(I)V"⟩, prog_10_method_12_code, 2, none, 8, 1, cd_104)
def cd_105 : List (Nat × Nat × Instr) := [(0, 1, .aload_n 0), (1, 1, .iload_n 1), (2, 3, .invokevirtual 126), (5, 3, .ifCond .eq 12), (8, 1, .iload_n 2), (9, 1, .iconst 0), (10, 1, .iconst 1), (11, 3, .invokestatic 115), (14, 3, .ifCond .ne 9), (17, 1, .aload_n 0), (18, 1, .iconst 1), (19, 3, .invokevirtual 119), (22, 1, .ireturn), (23, 1, .aload_n 0), (24, 3, .getfield 62), (27, 1, .iload_n 1), (28, 1, .baload), (29, 1, .istore_n 3), (30, 1, .iload_n 2), (31, 3, .ifCond .ne 13), (34, 1, .aload_n 0), (35, 3, .getfield 62), (38, 1, .iload_n 1), (39, 1, .iconst 0), (40, 1, .bastore), (41, 3, .goto 12), (44, 1, .iload_n 3), (45, 3, .ifCond .ne 8), (48, 1, .aload_n 0), (49, 1, .iload_n 1), (50, 3, .invokevirtual 138), (53, 1, .iload_n 3), (54, 3, .ifCond .eq 7), (57, 1, .iconst 1), (58, 3, .goto 4), (61, 1, .iconst 0), (62, 1, .ireturn)]
theorem ck_105 : pm_ck prog_10_method_13_code cd_105 = true := by decide +kernel
def mt_105 : pmM := (⟨"LampFeastModel", "dead", "(II)I"⟩, prog_10_method_13_code, 4, (some .int), 8, 2, cd_105)
def cd_106 : List (Nat × Nat × Instr) := [(0, 1, .iload_n 1), (1, 1, .istore_n 2), (2, 1, .iload_n 2), (3, 3, .ifCond .lt 22), (6, 1, .aload_n 0), (7, 3, .getfield 62), (10, 1, .iload_n 2), (11, 1, .baload), (12, 3, .ifCond .ne 13), (15, 1, .aload_n 0), (16, 3, .getfield 35), (19, 1, .iload_n 2), (20, 1, .iaload), (21, 1, .istore_n 2), (22, 3, .goto (-20)), (25, 1, .iload_n 2), (26, 3, .ifCond .lt 7), (29, 1, .iconst 1), (30, 3, .goto 4), (33, 1, .iconst 0), (34, 1, .ireturn)]
theorem ck_106 : pm_ck prog_10_method_14_code cd_106 = true := by decide +kernel
def mt_106 : pmM := (⟨"LampFeastModel", "isDark", "(I)Z"⟩, prog_10_method_14_code, 3, (some .boolean), 8, 1, cd_106)
def cd_107_0 : List (Nat × Nat × Instr) := [(0, 1, .aload_n 0), (1, 1, .iload_n 1), (2, 3, .invokevirtual 126), (5, 3, .ifCond .ne 9), (8, 1, .aload_n 0), (9, 1, .iconst 1), (10, 3, .invokevirtual 119), (13, 1, .ireturn), (14, 1, .iload_n 2), (15, 53, .tableswitch 138 0 9 #[53, 60, 67, 74, 81, 88, 95, 102, 109, 124]), (68, 1, .aload_n 0), (69, 3, .getfield 32), (72, 1, .iload_n 1), (73, 1, .iaload), (74, 1, .ireturn), (75, 1, .aload_n 0), (76, 3, .getfield 35), (79, 1, .iload_n 1), (80, 1, .iaload), (81, 1, .ireturn), (82, 1, .aload_n 0), (83, 3, .getfield 38), (86, 1, .iload_n 1), (87, 1, .iaload), (88, 1, .ireturn), (89, 1, .aload_n 0), (90, 3, .getfield 41), (93, 1, .iload_n 1), (94, 1, .iaload), (95, 1, .ireturn), (96, 1, .aload_n 0), (97, 3, .getfield 44), (100, 1, .iload_n 1), (101, 1, .iaload), (102, 1, .ireturn), (103, 1, .aload_n 0), (104, 3, .getfield 47), (107, 1, .iload_n 1), (108, 1, .iaload), (109, 1, .ireturn), (110, 1, .aload_n 0), (111, 3, .getfield 50), (114, 1, .iload_n 1), (115, 1, .iaload), (116, 1, .ireturn), (117, 1, .aload_n 0), (118, 3, .getfield 53), (121, 1, .iload_n 1), (122, 1, .iaload), (123, 1, .ireturn), (124, 1, .aload_n 0), (125, 3, .getfield 62), (128, 1, .iload_n 1), (129, 1, .baload), (130, 3, .ifCond .eq 7), (133, 1, .iconst 1), (134, 3, .goto 4), (137, 1, .iconst 0), (138, 1, .ireturn), (139, 1, .aload_n 0)]
theorem ck_107_0 : pm_ck prog_10_method_15_code cd_107_0 = true := by decide +kernel
def cd_107_1 : List (Nat × Nat × Instr) := [(140, 1, .iload_n 1), (141, 3, .invokevirtual 142), (144, 3, .ifCond .eq 7), (147, 1, .iconst 1), (148, 3, .goto 4), (151, 1, .iconst 0), (152, 1, .ireturn), (153, 1, .aload_n 0), (154, 1, .iconst 1), (155, 3, .invokevirtual 119), (158, 1, .ireturn)]
theorem ck_107_1 : pm_ck prog_10_method_15_code cd_107_1 = true := by decide +kernel
def cd_107 : List (Nat × Nat × Instr) := cd_107_0 ++ (cd_107_1)
theorem ck_107 : pm_ck prog_10_method_15_code cd_107 = true := pm_ck_app ck_107_0 (ck_107_1)
def mt_107 : pmM := (⟨"LampFeastModel", "about", "(II)I"⟩, prog_10_method_15_code, 3, (some .int), 8, 2, cd_107)
def cd_108 : List (Nat × Nat × Instr) := [(0, 1, .aload_n 0), (1, 3, .getfield 47), (4, 1, .iload_n 1), (5, 1, .iaload), (6, 1, .aload_n 0), (7, 3, .getfield 50), (10, 1, .iload_n 1), (11, 1, .iaload), (12, 1, .imul), (13, 1, .aload_n 0), (14, 3, .getfield 32), (17, 1, .iload_n 1), (18, 1, .iaload), (19, 1, .iconst 2), (20, 3, .if_icmp .ne 7), (23, 1, .iconst 2), (24, 3, .goto 4), (27, 1, .iconst 1), (28, 1, .imul), (29, 1, .ireturn)]
theorem ck_108 : pm_ck prog_10_method_16_code cd_108 = true := by decide +kernel
def mt_108 : pmM := (⟨"LampFeastModel", "loadOf", "(I)I"⟩, prog_10_method_16_code, 2, (some .int), 8, 1, cd_108)
def cd_109 : List (Nat × Nat × Instr) := [(0, 1, .aload_n 0), (1, 1, .iload_n 1), (2, 3, .invokevirtual 126), (5, 3, .ifCond .eq 12), (8, 1, .iload_n 2), (9, 1, .iconst 0), (10, 1, .iconst 2), (11, 3, .invokestatic 115), (14, 3, .ifCond .ne 9), (17, 1, .aload_n 0), (18, 1, .iconst 1), (19, 3, .invokevirtual 119), (22, 1, .ireturn), (23, 1, .iload_n 2), (24, 3, .ifCond .eq 13), (27, 1, .iload_n 2), (28, 1, .aload_n 0), (29, 3, .getfield 32), (32, 1, .iload_n 1), (33, 1, .iaload), (34, 3, .if_icmp .ne 11), (37, 1, .aload_n 0), (38, 1, .iload_n 1), (39, 3, .invokevirtual 145), (42, 3, .goto 8), (45, 1, .aload_n 0), (46, 1, .iconst 5), (47, 3, .invokevirtual 119), (50, 1, .ireturn)]
theorem ck_109 : pm_ck prog_10_method_17_code cd_109 = true := by decide +kernel
def mt_109 : pmM := (⟨"LampFeastModel", "as", "(II)I"⟩, prog_10_method_17_code, 3, (some .int), 8, 2, cd_109)
def cd_110_0 : List (Nat × Nat × Instr) := [(0, 1, .iconst 0), (1, 1, .istore_n 1), (2, 1, .iload_n 1), (3, 1, .aload_n 0), (4, 3, .getfield 112), (7, 3, .if_icmp .ge 23), (10, 1, .aload_n 0), (11, 3, .getfield 84), (14, 1, .iload_n 1), (15, 1, .iconst 0), (16, 1, .iastore), (17, 1, .aload_n 0), (18, 3, .getfield 87), (21, 1, .iload_n 1), (22, 1, .iconst 0), (23, 1, .iastore), (24, 3, .iinc 1 1), (27, 3, .goto (-25)), (30, 1, .aload_n 0), (31, 3, .getfield 112), (34, 1, .iconst 1), (35, 1, .isub), (36, 1, .istore_n 1), (37, 1, .iload_n 1), (38, 3, .ifCond .lt 105), (41, 1, .aload_n 0), (42, 3, .getfield 87), (45, 1, .iload_n 1), (46, 1, .dup2), (47, 1, .iaload), (48, 1, .aload_n 0), (49, 1, .iload_n 1), (50, 3, .invokevirtual 145), (53, 1, .iadd), (54, 1, .iastore), (55, 1, .aload_n 0), (56, 3, .getfield 84), (59, 1, .iload_n 1), (60, 1, .aload_n 0), (61, 1, .iload_n 1)]
theorem ck_110_0 : pm_ck prog_10_method_18_code cd_110_0 = true := by decide +kernel
def cd_110_1 : List (Nat × Nat × Instr) := [(62, 3, .invokevirtual 142), (65, 3, .ifCond .eq 7), (68, 1, .iconst 0), (69, 3, .goto 15), (72, 1, .aload_n 0), (73, 3, .getfield 84), (76, 1, .iload_n 1), (77, 1, .iaload), (78, 1, .aload_n 0), (79, 1, .iload_n 1), (80, 3, .invokevirtual 145), (83, 1, .iadd), (84, 1, .iastore), (85, 1, .aload_n 0), (86, 3, .getfield 35), (89, 1, .iload_n 1), (90, 1, .iaload), (91, 3, .ifCond .ge 6), (94, 3, .goto 43), (97, 1, .aload_n 0), (98, 3, .getfield 87), (101, 1, .aload_n 0), (102, 3, .getfield 35), (105, 1, .iload_n 1), (106, 1, .iaload), (107, 1, .dup2), (108, 1, .iaload), (109, 1, .aload_n 0), (110, 3, .getfield 87), (113, 1, .iload_n 1), (114, 1, .iaload), (115, 1, .iadd), (116, 1, .iastore), (117, 1, .aload_n 0), (118, 3, .getfield 84), (121, 1, .aload_n 0), (122, 3, .getfield 35), (125, 1, .iload_n 1), (126, 1, .iaload), (127, 1, .dup2)]
theorem ck_110_1 : pm_ck prog_10_method_18_code cd_110_1 = true := by decide +kernel
def cd_110_2 : List (Nat × Nat × Instr) := [(128, 1, .iaload), (129, 1, .aload_n 0), (130, 3, .getfield 84), (133, 1, .iload_n 1), (134, 1, .iaload), (135, 1, .iadd), (136, 1, .iastore), (137, 3, .iinc 1 (-1)), (140, 3, .goto (-103)), (143, 1, .iconst 0), (144, 1, .istore_n 1), (145, 1, .iload_n 1), (146, 1, .aload_n 0), (147, 3, .getfield 112), (150, 3, .if_icmp .ge 63), (153, 1, .aload_n 0), (154, 3, .getfield 90), (157, 1, .iload_n 1), (158, 1, .aload_n 0), (159, 3, .getfield 35), (162, 1, .iload_n 1), (163, 1, .iaload), (164, 3, .ifCond .ge 7), (167, 1, .iconst 0), (168, 3, .goto 14), (171, 1, .aload_n 0), (172, 3, .getfield 90), (175, 1, .aload_n 0), (176, 3, .getfield 35), (179, 1, .iload_n 1), (180, 1, .iaload), (181, 1, .iaload), (182, 1, .aload_n 0), (183, 3, .getfield 41), (186, 1, .iload_n 1), (187, 1, .iaload), (188, 1, .aload_n 0), (189, 3, .getfield 87), (192, 1, .iload_n 1), (193, 1, .iaload)]
theorem ck_110_2 : pm_ck prog_10_method_18_code cd_110_2 = true := by decide +kernel
def cd_110_3 : List (Nat × Nat × Instr) := [(194, 1, .imul), (195, 2, .bipush 10), (197, 1, .aload_n 0), (198, 3, .getfield 44), (201, 1, .iload_n 1), (202, 1, .iaload), (203, 1, .imul), (204, 1, .idiv), (205, 1, .iadd), (206, 1, .iastore), (207, 3, .iinc 1 1), (210, 3, .goto (-65)), (213, 1, .return_)]
theorem ck_110_3 : pm_ck prog_10_method_18_code cd_110_3 = true := by decide +kernel
def cd_110 : List (Nat × Nat × Instr) := cd_110_0 ++ (cd_110_1 ++ (cd_110_2 ++ (cd_110_3)))
theorem ck_110 : pm_ck prog_10_method_18_code cd_110 = true := pm_ck_app ck_110_0 (pm_ck_app ck_110_1 (pm_ck_app ck_110_2 (ck_110_3)))
def mt_110 : pmM := (⟨"LampFeastModel", "flow", "()V"⟩, prog_10_method_18_code, 2, none, 8, 0, cd_110)
def cd_111 : List (Nat × Nat × Instr) := [(0, 3, .sipush 500), (3, 1, .aload_n 0), (4, 3, .getfield 44), (7, 1, .iload_n 1), (8, 1, .iaload), (9, 1, .imul), (10, 1, .ireturn)]
theorem ck_111 : pm_ck prog_10_method_19_code cd_111 = true := by decide +kernel
def mt_111 : pmM := (⟨"LampFeastModel", "bears", "(I)I"⟩, prog_10_method_19_code, 2, (some .int), 8, 1, cd_111)
def cd_112_0 : List (Nat × Nat × Instr) := [(0, 1, .aload_n 0), (1, 3, .getfield 53), (4, 1, .iload_n 1), (5, 1, .iaload), (6, 3, .ifCond .le 20), (9, 1, .aload_n 0), (10, 3, .getfield 87), (13, 1, .iload_n 1), (14, 1, .iaload), (15, 1, .aload_n 0), (16, 3, .getfield 53), (19, 1, .iload_n 1), (20, 1, .iaload), (21, 3, .if_icmp .le 5), (24, 1, .iconst 1), (25, 1, .ireturn), (26, 1, .aload_n 0), (27, 3, .getfield 32), (30, 1, .iload_n 1), (31, 1, .iaload), (32, 1, .iconst 1), (33, 3, .if_icmp .ne 26), (36, 1, .aload_n 0), (37, 3, .getfield 53), (40, 1, .iload_n 1), (41, 1, .iaload), (42, 3, .ifCond .eq 15), (45, 1, .aload_n 0), (46, 3, .getfield 53), (49, 1, .iload_n 1), (50, 1, .iaload), (51, 3, .sipush 500), (54, 3, .if_icmp .le 5), (57, 1, .iconst 2), (58, 1, .ireturn), (59, 1, .aload_n 0), (60, 3, .getfield 90), (63, 1, .iload_n 1), (64, 1, .iaload), (65, 1, .aload_n 0), (66, 3, .getfield 7), (69, 3, .if_icmp .le 5), (72, 1, .iconst 3), (73, 1, .ireturn), (74, 1, .aload_n 0), (75, 3, .getfield 53), (78, 1, .iload_n 1), (79, 1, .iaload), (80, 1, .aload_n 0), (81, 1, .iload_n 1), (82, 3, .invokevirtual 148), (85, 3, .if_icmp .le 5), (88, 1, .iconst 4), (89, 1, .ireturn), (90, 1, .iload_n 1), (91, 1, .istore_n 2), (92, 1, .iload_n 2), (93, 3, .ifCond .lt 22), (96, 1, .aload_n 0), (97, 3, .getfield 53)]
theorem ck_112_0 : pm_ck prog_10_method_20_code cd_112_0 = true := by decide +kernel
def cd_112_1 : List (Nat × Nat × Instr) := [(100, 1, .iload_n 2), (101, 1, .iaload), (102, 3, .ifCond .ne 13), (105, 1, .aload_n 0), (106, 3, .getfield 35), (109, 1, .iload_n 2), (110, 1, .iaload), (111, 1, .istore_n 2), (112, 3, .goto (-20)), (115, 1, .iload_n 2), (116, 3, .ifCond .ge 5), (119, 1, .iconst 5), (120, 1, .ireturn), (121, 1, .iload_n 2), (122, 1, .iload_n 1), (123, 3, .if_icmp .eq 22), (126, 1, .aload_n 0), (127, 3, .getfield 53), (130, 1, .iload_n 2), (131, 1, .iaload), (132, 1, .aload_n 0), (133, 1, .iload_n 1), (134, 3, .invokevirtual 148), (137, 3, .if_icmp .le 8), (140, 2, .bipush 6), (142, 3, .goto 4), (145, 1, .iconst 0), (146, 1, .ireturn)]
theorem ck_112_1 : pm_ck prog_10_method_20_code cd_112_1 = true := by decide +kernel
def cd_112 : List (Nat × Nat × Instr) := cd_112_0 ++ (cd_112_1)
theorem ck_112 : pm_ck prog_10_method_20_code cd_112 = true := pm_ck_app ck_112_0 (ck_112_1)
def mt_112 : pmM := (⟨"LampFeastModel", "wrong", "(I)I"⟩, prog_10_method_20_code, 3, (some .int), 8, 1, cd_112)
def cd_113 : List (Nat × Nat × Instr) := [(0, 1, .aload_n 0), (1, 1, .iload_n 1), (2, 3, .invokevirtual 126), (5, 3, .ifCond .eq 12), (8, 1, .iload_n 2), (9, 1, .iconst 0), (10, 1, .iconst 3), (11, 3, .invokestatic 115), (14, 3, .ifCond .ne 9), (17, 1, .aload_n 0), (18, 1, .iconst 1), (19, 3, .invokevirtual 119), (22, 1, .ireturn), (23, 1, .aload_n 0), (24, 3, .invokevirtual 151), (27, 1, .iload_n 2), (28, 3, .ifCond .ne 12), (31, 1, .aload_n 0), (32, 3, .getfield 84), (35, 1, .iload_n 1), (36, 1, .iaload), (37, 3, .goto 36), (40, 1, .iload_n 2), (41, 1, .iconst 1), (42, 3, .if_icmp .ne 12), (45, 1, .aload_n 0), (46, 3, .getfield 87), (49, 1, .iload_n 1), (50, 1, .iaload), (51, 3, .goto 22), (54, 1, .iload_n 2), (55, 1, .iconst 2), (56, 3, .if_icmp .ne 12), (59, 1, .aload_n 0), (60, 3, .getfield 90), (63, 1, .iload_n 1), (64, 1, .iaload), (65, 3, .goto 8), (68, 1, .aload_n 0), (69, 1, .iload_n 1), (70, 3, .invokevirtual 154), (73, 1, .ireturn)]
theorem ck_113 : pm_ck prog_10_method_21_code cd_113 = true := by decide +kernel
def mt_113 : pmM := (⟨"LampFeastModel", "told", "(II)I"⟩, prog_10_method_21_code, 3, (some .int), 8, 2, cd_113)
def cd_114 : List (Nat × Nat × Instr) := [(0, 1, .iload_n 1), (1, 1, .iconst 0), (2, 2, .ldc 157), (4, 3, .invokestatic 115), (7, 3, .ifCond .ne 9), (10, 1, .aload_n 0), (11, 1, .iconst 1), (12, 3, .invokevirtual 119), (15, 1, .ireturn), (16, 1, .aload_n 0), (17, 3, .getfield 7), (20, 1, .istore_n 2), (21, 1, .aload_n 0), (22, 1, .iload_n 1), (23, 3, .putfield 7), (26, 1, .iload_n 2), (27, 1, .ireturn)]
theorem ck_114 : pm_ck prog_10_method_22_code cd_114 = true := by decide +kernel
def mt_114 : pmM := (⟨"LampFeastModel", "most", "(I)I"⟩, prog_10_method_22_code, 3, (some .int), 8, 1, cd_114)
def cd_115 : List (Nat × Nat × Instr) := [(0, 1, .iconst 0), (1, 1, .istore_n 1), (2, 1, .iconst 1), (3, 1, .istore_n 2), (4, 1, .iload_n 2), (5, 3, .ifCond .eq 73), (8, 1, .aload_n 0), (9, 3, .invokevirtual 151), (12, 1, .aload_n 0), (13, 3, .getfield 112), (16, 1, .iconst 1), (17, 1, .isub), (18, 1, .istore_n 3), (19, 1, .iload_n 3), (20, 3, .ifCond .lt 33), (23, 1, .aload_n 0), (24, 3, .getfield 53), (27, 1, .iload_n 3), (28, 1, .iaload), (29, 3, .ifCond .eq 18), (32, 1, .aload_n 0), (33, 3, .getfield 53), (36, 1, .iload_n 3), (37, 1, .iaload), (38, 1, .aload_n 0), (39, 3, .getfield 84), (42, 1, .iload_n 3), (43, 1, .iaload), (44, 3, .if_icmp .lt 9), (47, 3, .iinc 3 (-1)), (50, 3, .goto (-31)), (53, 1, .iload_n 3), (54, 3, .ifCond .lt 7), (57, 1, .iconst 1), (58, 3, .goto 4), (61, 1, .iconst 0), (62, 1, .istore_n 2), (63, 1, .iload_n 2), (64, 3, .ifCond .eq 11), (67, 1, .aload_n 0), (68, 1, .iload_n 3), (69, 3, .invokevirtual 138), (72, 3, .iinc 1 1), (75, 3, .goto (-71)), (78, 1, .iload_n 1), (79, 1, .ireturn)]
theorem ck_115 : pm_ck prog_10_method_23_code cd_115 = true := by decide +kernel
def mt_115 : pmM := (⟨"LampFeastModel", "blow", "()I"⟩, prog_10_method_23_code, 4, (some .int), 8, 0, cd_115)
def cd_116 : List (Nat × Nat × Instr) := [(0, 1, .aload_n 0), (1, 3, .getfield 96), (4, 1, .iload_n 1), (5, 1, .iaload), (6, 1, .iconst 2), (7, 3, .if_icmp .eq 43), (10, 1, .aload_n 0), (11, 3, .getfield 87), (14, 1, .iload_n 1), (15, 1, .iaload), (16, 1, .aload_n 0), (17, 1, .iload_n 1), (18, 3, .invokevirtual 148), (21, 3, .if_icmp .gt 29), (24, 1, .aload_n 0), (25, 3, .getfield 32), (28, 1, .iload_n 1), (29, 1, .iaload), (30, 1, .iconst 1), (31, 3, .if_icmp .ne 15), (34, 1, .aload_n 0), (35, 3, .getfield 87), (38, 1, .iload_n 1), (39, 1, .iaload), (40, 3, .sipush 500), (43, 3, .if_icmp .gt 7), (46, 1, .iconst 1), (47, 3, .goto 4), (50, 1, .iconst 0), (51, 1, .ireturn)]
theorem ck_116 : pm_ck prog_10_method_24_code cd_116 = true := by decide +kernel
def mt_116 : pmM := (⟨"LampFeastModel", "mayHave", "(I)Z"⟩, prog_10_method_24_code, 2, (some .boolean), 8, 1, cd_116)
def cd_117 : List (Nat × Nat × Instr) := [(0, 1, .aload_n 0), (1, 3, .getfield 96), (4, 1, .iload_n 1), (5, 1, .iaload), (6, 1, .iconst 1), (7, 3, .if_icmp .eq 37), (10, 1, .aload_n 0), (11, 3, .getfield 32), (14, 1, .iload_n 1), (15, 1, .iaload), (16, 1, .iconst 1), (17, 3, .if_icmp .eq 27), (20, 1, .iload_n 2), (21, 2, .bipush 24), (23, 3, .if_icmp .ge 21), (26, 1, .aload_n 0), (27, 3, .getfield 87), (30, 1, .iload_n 2), (31, 1, .iaload), (32, 1, .aload_n 0), (33, 1, .iload_n 1), (34, 3, .invokevirtual 148), (37, 3, .if_icmp .gt 7), (40, 1, .iconst 1), (41, 3, .goto 4), (44, 1, .iconst 0), (45, 1, .ireturn)]
theorem ck_117 : pm_ck prog_10_method_25_code cd_117 = true := by decide +kernel
def mt_117 : pmM := (⟨"LampFeastModel", "mayLack", "(II)Z"⟩, prog_10_method_25_code, 3, (some .boolean), 8, 2, cd_117)
def cd_118_0 : List (Nat × Nat × Instr) := [(0, 1, .iconst 0), (1, 1, .istore_n 1), (2, 1, .iload_n 1), (3, 3, .sipush 600), (6, 3, .if_icmp .ge 16), (9, 1, .aload_n 0), (10, 3, .getfield 93), (13, 1, .iload_n 1), (14, 1, .iconst 0), (15, 1, .iastore), (16, 3, .iinc 1 1), (19, 3, .goto (-17)), (22, 1, .aload_n 0), (23, 1, .iconst 0), (24, 3, .putfield 158), (27, 1, .aload_n 0), (28, 3, .getfield 112), (31, 1, .iconst 1), (32, 1, .isub), (33, 1, .istore_n 1), (34, 1, .iload_n 1), (35, 3, .ifCond .lt 164), (38, 1, .aload_n 0), (39, 1, .iload_n 1), (40, 3, .invokevirtual 161), (43, 3, .ifCond .eq 19), (46, 1, .iconst 1), (47, 1, .aload_n 0), (48, 3, .getfield 93), (51, 2, .bipush 25), (53, 1, .iload_n 1), (54, 1, .imul), (55, 1, .iload_n 1), (56, 1, .iadd), (57, 1, .iaload), (58, 1, .iadd), (59, 3, .goto 6), (62, 3, .sipush 1000), (65, 1, .istore_n 2), (66, 1, .aload_n 0), (67, 3, .getfield 35), (70, 1, .iload_n 1), (71, 1, .iaload), (72, 3, .ifCond .ge 16), (75, 1, .aload_n 0), (76, 1, .dup), (77, 3, .getfield 158), (80, 1, .iload_n 2), (81, 1, .iadd), (82, 3, .putfield 158), (85, 3, .goto 108), (88, 1, .iconst 0), (89, 1, .istore_n 3), (90, 1, .iload_n 3), (91, 2, .bipush 25), (93, 3, .if_icmp .ge 100), (96, 1, .aload_n 0), (97, 1, .iload_n 1), (98, 1, .iload_n 3), (99, 3, .invokevirtual 164)]
theorem ck_118_0 : pm_ck prog_10_method_26_code cd_118_0 = true := by decide +kernel
def cd_118_1 : List (Nat × Nat × Instr) := [(102, 3, .ifCond .eq 17), (105, 1, .aload_n 0), (106, 3, .getfield 93), (109, 2, .bipush 25), (111, 1, .iload_n 1), (112, 1, .imul), (113, 1, .iload_n 3), (114, 1, .iadd), (115, 1, .iaload), (116, 3, .goto 6), (119, 3, .sipush 1000), (122, 2, .istore 4), (124, 1, .aload_n 0), (125, 3, .getfield 93), (128, 2, .bipush 25), (130, 1, .aload_n 0), (131, 3, .getfield 35), (134, 1, .iload_n 1), (135, 1, .iaload), (136, 1, .imul), (137, 1, .iload_n 3), (138, 1, .iadd), (139, 1, .iaload), (140, 1, .iload_n 2), (141, 2, .iload 4), (143, 3, .if_icmp .ge 7), (146, 1, .iload_n 2), (147, 3, .goto 5), (150, 2, .iload 4), (152, 1, .iadd), (153, 2, .istore 5), (155, 1, .aload_n 0), (156, 3, .getfield 93), (159, 2, .bipush 25), (161, 1, .aload_n 0), (162, 3, .getfield 35), (165, 1, .iload_n 1), (166, 1, .iaload), (167, 1, .imul), (168, 1, .iload_n 3), (169, 1, .iadd), (170, 2, .iload 5), (172, 3, .sipush 1000), (175, 3, .if_icmp .le 9), (178, 3, .sipush 1000), (181, 3, .goto 5), (184, 2, .iload 5), (186, 1, .iastore), (187, 3, .iinc 3 1), (190, 3, .goto (-100)), (193, 3, .iinc 1 (-1)), (196, 3, .goto (-162)), (199, 1, .aload_n 0), (200, 3, .getfield 158), (203, 3, .sipush 1000), (206, 3, .if_icmp .le 9), (209, 3, .sipush 1000), (212, 3, .goto 7), (215, 1, .aload_n 0), (216, 3, .getfield 158)]
theorem ck_118_1 : pm_ck prog_10_method_26_code cd_118_1 = true := by decide +kernel
def cd_118_2 : List (Nat × Nat × Instr) := [(219, 1, .ireturn)]
theorem ck_118_2 : pm_ck prog_10_method_26_code cd_118_2 = true := by decide +kernel
def cd_118 : List (Nat × Nat × Instr) := cd_118_0 ++ (cd_118_1 ++ (cd_118_2))
theorem ck_118 : pm_ck prog_10_method_26_code cd_118 = true := pm_ck_app ck_118_0 (pm_ck_app ck_118_1 (ck_118_2))
def mt_118 : pmM := (⟨"LampFeastModel", "few", "()I"⟩, prog_10_method_26_code, 6, (some .int), 8, 0, cd_118)
def cd_119 : List (Nat × Nat × Instr) := [(0, 1, .aload_n 0), (1, 3, .invokevirtual 151), (4, 1, .iconst 0), (5, 1, .istore_n 1), (6, 1, .iload_n 1), (7, 2, .bipush 24), (9, 3, .if_icmp .ge 16), (12, 1, .aload_n 0), (13, 3, .getfield 96), (16, 1, .iload_n 1), (17, 1, .iconst 0), (18, 1, .iastore), (19, 3, .iinc 1 1), (22, 3, .goto (-16)), (25, 1, .aload_n 0), (26, 3, .invokevirtual 168), (29, 1, .istore_n 1), (30, 1, .iload_n 1), (31, 3, .sipush 1000), (34, 3, .if_icmp .lt 5), (37, 1, .iconst (-1)), (38, 1, .ireturn), (39, 1, .iconst 0), (40, 1, .istore_n 2), (41, 1, .aload_n 0), (42, 3, .getfield 112), (45, 1, .iconst 1), (46, 1, .isub), (47, 1, .istore_n 3), (48, 1, .iload_n 3), (49, 3, .ifCond .lt 40), (52, 1, .aload_n 0), (53, 3, .getfield 96), (56, 1, .iload_n 3), (57, 1, .iconst 2), (58, 1, .iastore), (59, 1, .aload_n 0), (60, 3, .invokevirtual 168), (63, 1, .iload_n 1), (64, 3, .if_icmp .ne 6), (67, 3, .goto 16), (70, 1, .aload_n 0), (71, 3, .getfield 96), (74, 1, .iload_n 3), (75, 1, .iconst 1), (76, 1, .iastore), (77, 1, .iload_n 2), (78, 1, .iconst 1), (79, 1, .iload_n 3), (80, 1, .ishl), (81, 1, .ior), (82, 1, .istore_n 2), (83, 3, .iinc 3 (-1)), (86, 3, .goto (-38)), (89, 1, .iload_n 2), (90, 1, .ireturn)]
theorem ck_119 : pm_ck prog_10_method_27_code cd_119 = true := by decide +kernel
def mt_119 : pmM := (⟨"LampFeastModel", "bestSet", "()I"⟩, prog_10_method_27_code, 4, (some .int), 8, 0, cd_119)
def cd_120 : List (Nat × Nat × Instr) := [(0, 1, .iconst 0), (1, 1, .istore_n 1), (2, 1, .iconst 0), (3, 1, .istore_n 2), (4, 1, .iload_n 2), (5, 2, .bipush 24), (7, 3, .if_icmp .ge 17), (10, 1, .iload_n 1), (11, 1, .iload_n 0), (12, 1, .iload_n 2), (13, 1, .ishr), (14, 1, .iconst 1), (15, 1, .iand), (16, 1, .iadd), (17, 1, .istore_n 1), (18, 3, .iinc 2 1), (21, 3, .goto (-17)), (24, 1, .iload_n 1), (25, 1, .ireturn)]
theorem ck_120 : pm_ck prog_10_method_28_code cd_120 = true := by decide +kernel
def mt_120 : pmM := (⟨"LampFeastModel", "ones", "(I)I"⟩, prog_10_method_28_code, 3, (some .int), 8, 1, cd_120)
def cd_121 : List (Nat × Nat × Instr) := [(0, 1, .iload_n 1), (1, 1, .iconst 0), (2, 1, .iconst 1), (3, 3, .invokestatic 115), (6, 3, .ifCond .ne 9), (9, 1, .aload_n 0), (10, 1, .iconst 1), (11, 3, .invokevirtual 119), (14, 1, .ireturn), (15, 1, .aload_n 0), (16, 3, .invokevirtual 171), (19, 1, .istore_n 2), (20, 1, .iload_n 2), (21, 3, .ifCond .ge 9), (24, 1, .aload_n 0), (25, 1, .iconst 2), (26, 3, .invokevirtual 119), (29, 1, .ireturn), (30, 1, .iload_n 1), (31, 3, .ifCond .ne 10), (34, 1, .iload_n 2), (35, 3, .invokestatic 174), (38, 3, .goto 4), (41, 1, .iload_n 2), (42, 1, .ireturn)]
theorem ck_121 : pm_ck prog_10_method_29_code cd_121 = true := by decide +kernel
def mt_121 : pmM := (⟨"LampFeastModel", "fewest", "(I)I"⟩, prog_10_method_29_code, 3, (some .int), 8, 1, cd_121)
def cd_122 : List (Nat × Nat × Instr) := [(0, 1, .aload_n 0), (1, 3, .invokevirtual 171), (4, 1, .istore_n 1), (5, 1, .iload_n 1), (6, 3, .ifCond .ge 9), (9, 1, .aload_n 0), (10, 1, .iconst 2), (11, 3, .invokevirtual 119), (14, 1, .ireturn), (15, 1, .iconst 0), (16, 1, .istore_n 2), (17, 1, .iload_n 2), (18, 1, .aload_n 0), (19, 3, .getfield 112), (22, 3, .if_icmp .ge 33), (25, 1, .aload_n 0), (26, 3, .getfield 53), (29, 1, .iload_n 2), (30, 1, .iload_n 1), (31, 1, .iload_n 2), (32, 3, .invokestatic 177), (35, 3, .ifCond .eq 12), (38, 1, .aload_n 0), (39, 3, .getfield 87), (42, 1, .iload_n 2), (43, 1, .iaload), (44, 3, .goto 4), (47, 1, .iconst 0), (48, 1, .iastore), (49, 3, .iinc 2 1), (52, 3, .goto (-35)), (55, 1, .iload_n 1), (56, 3, .invokestatic 174), (59, 1, .ireturn)]
theorem ck_122 : pm_ck prog_10_method_30_code cd_122 = true := by decide +kernel
def mt_122 : pmM := (⟨"LampFeastModel", "fuses", "()I"⟩, prog_10_method_30_code, 3, (some .int), 8, 0, cd_122)
def cd_123_0 : List (Nat × Nat × Instr) := [(0, 1, .iload_n 1), (1, 3, .ifCond .lt 12), (4, 1, .iload_n 1), (5, 1, .aload_n 0), (6, 3, .getfield 112), (9, 1, .ishr), (10, 3, .ifCond .eq 9), (13, 1, .aload_n 0), (14, 1, .iconst 1), (15, 3, .invokevirtual 119), (18, 1, .ireturn), (19, 1, .iconst 0), (20, 1, .istore_n 2), (21, 1, .iconst 0), (22, 1, .istore_n 3), (23, 1, .iload_n 3), (24, 1, .aload_n 0), (25, 3, .getfield 112), (28, 3, .if_icmp .ge 76), (31, 1, .aload_n 0), (32, 3, .getfield 35), (35, 1, .iload_n 3), (36, 1, .iaload), (37, 3, .ifCond .lt 20), (40, 1, .iload_n 1), (41, 1, .aload_n 0), (42, 3, .getfield 35), (45, 1, .iload_n 3), (46, 1, .iaload), (47, 3, .invokestatic 177), (50, 3, .ifCond .eq 7), (53, 1, .iconst 1), (54, 3, .goto 4), (57, 1, .iconst 0), (58, 2, .istore 4), (60, 2, .iload 4), (62, 3, .ifCond .eq 17), (65, 1, .iload_n 1), (66, 1, .iload_n 3), (67, 3, .invokestatic 177), (70, 3, .ifCond .ne 9), (73, 1, .aload_n 0), (74, 1, .iconst 2), (75, 3, .invokevirtual 119), (78, 1, .ireturn), (79, 1, .iload_n 1), (80, 1, .iload_n 3), (81, 3, .invokestatic 177), (84, 3, .ifCond .eq 14), (87, 2, .iload 4), (89, 3, .ifCond .ne 9), (92, 1, .iload_n 2), (93, 1, .iconst 1), (94, 1, .iload_n 3), (95, 1, .ishl), (96, 1, .ior), (97, 1, .istore_n 2), (98, 3, .iinc 3 1), (101, 3, .goto (-78)), (104, 1, .iload_n 2)]
theorem ck_123_0 : pm_ck prog_10_method_31_code cd_123_0 = true := by decide +kernel
def cd_123_1 : List (Nat × Nat × Instr) := [(105, 1, .ireturn)]
theorem ck_123_1 : pm_ck prog_10_method_31_code cd_123_1 = true := by decide +kernel
def cd_123 : List (Nat × Nat × Instr) := cd_123_0 ++ (cd_123_1)
theorem ck_123 : pm_ck prog_10_method_31_code cd_123 = true := pm_ck_app ck_123_0 (ck_123_1)
def mt_123 : pmM := (⟨"LampFeastModel", "explain", "(I)I"⟩, prog_10_method_31_code, 5, (some .int), 8, 1, cd_123)
def cd_124_0 : List (Nat × Nat × Instr) := [(0, 1, .aload_n 0), (1, 1, .iload_n 1), (2, 3, .invokevirtual 126), (5, 3, .ifCond .eq 28), (8, 1, .iload_n 2), (9, 1, .iconst 0), (10, 1, .aload_n 0), (11, 3, .getfield 47), (14, 1, .iload_n 1), (15, 1, .iaload), (16, 1, .iconst 1), (17, 1, .isub), (18, 3, .invokestatic 115), (21, 3, .ifCond .eq 12), (24, 1, .iload_n 3), (25, 1, .iconst 0), (26, 1, .iconst 1), (27, 3, .invokestatic 115), (30, 3, .ifCond .ne 9), (33, 1, .aload_n 0), (34, 1, .iconst 1), (35, 3, .invokevirtual 119), (38, 1, .ireturn), (39, 1, .aload_n 0), (40, 3, .getfield 62), (43, 1, .iload_n 1), (44, 1, .baload), (45, 3, .ifCond .ne 9), (48, 1, .aload_n 0), (49, 1, .iconst 3), (50, 3, .invokevirtual 119), (53, 1, .ireturn), (54, 1, .iload_n 3), (55, 1, .iconst 1), (56, 3, .if_icmp .ne 21), (59, 1, .iload_n 2), (60, 1, .iconst 1), (61, 1, .iadd), (62, 1, .aload_n 0), (63, 3, .getfield 56), (66, 1, .iload_n 1), (67, 1, .iaload), (68, 3, .if_icmp .le 9), (71, 1, .iload_n 2), (72, 1, .iconst 1), (73, 1, .iadd), (74, 3, .goto 9), (77, 1, .aload_n 0), (78, 3, .getfield 56), (81, 1, .iload_n 1), (82, 1, .iaload), (83, 2, .istore 4), (85, 1, .iload_n 3), (86, 3, .ifCond .ne 17), (89, 1, .iload_n 2), (90, 1, .aload_n 0), (91, 3, .getfield 59), (94, 1, .iload_n 1), (95, 1, .iaload), (96, 3, .if_icmp .ge 7)]
theorem ck_124_0 : pm_ck prog_10_method_32_code cd_124_0 = true := by decide +kernel
def cd_124_1 : List (Nat × Nat × Instr) := [(99, 1, .iload_n 2), (100, 3, .goto 9), (103, 1, .aload_n 0), (104, 3, .getfield 59), (107, 1, .iload_n 1), (108, 1, .iaload), (109, 2, .istore 5), (111, 2, .iload 4), (113, 2, .iload 5), (115, 3, .if_icmp .le 9), (118, 1, .aload_n 0), (119, 1, .iconst 2), (120, 3, .invokevirtual 119), (123, 1, .ireturn), (124, 1, .aload_n 0), (125, 3, .getfield 56), (128, 1, .iload_n 1), (129, 2, .iload 4), (131, 1, .iastore), (132, 1, .aload_n 0), (133, 3, .getfield 59), (136, 1, .iload_n 1), (137, 2, .iload 5), (139, 1, .iastore), (140, 2, .iload 5), (142, 2, .iload 4), (144, 1, .isub), (145, 1, .iconst 1), (146, 1, .iadd), (147, 1, .ireturn)]
theorem ck_124_1 : pm_ck prog_10_method_32_code cd_124_1 = true := by decide +kernel
def cd_124 : List (Nat × Nat × Instr) := cd_124_0 ++ (cd_124_1)
theorem ck_124 : pm_ck prog_10_method_32_code cd_124 = true := pm_ck_app ck_124_0 (ck_124_1)
def mt_124 : pmM := (⟨"LampFeastModel", "look", "(III)I"⟩, prog_10_method_32_code, 6, (some .int), 8, 3, cd_124)
def cd_125 : List (Nat × Nat × Instr) := [(0, 1, .aload_n 0), (1, 1, .iload_n 1), (2, 3, .invokevirtual 126), (5, 3, .ifCond .ne 9), (8, 1, .aload_n 0), (9, 1, .iconst 1), (10, 3, .invokevirtual 119), (13, 1, .ireturn), (14, 1, .aload_n 0), (15, 3, .getfield 62), (18, 1, .iload_n 1), (19, 1, .baload), (20, 3, .ifCond .ne 9), (23, 1, .aload_n 0), (24, 1, .iconst 3), (25, 3, .invokevirtual 119), (28, 1, .ireturn), (29, 1, .aload_n 0), (30, 3, .getfield 56), (33, 1, .iload_n 1), (34, 1, .iaload), (35, 1, .aload_n 0), (36, 3, .getfield 59), (39, 1, .iload_n 1), (40, 1, .iaload), (41, 3, .if_icmp .ne 11), (44, 1, .aload_n 0), (45, 1, .iconst 2), (46, 3, .invokevirtual 119), (49, 3, .goto 18), (52, 1, .aload_n 0), (53, 3, .getfield 56), (56, 1, .iload_n 1), (57, 1, .iaload), (58, 1, .aload_n 0), (59, 3, .getfield 59), (62, 1, .iload_n 1), (63, 1, .iaload), (64, 1, .iadd), (65, 1, .iconst 2), (66, 1, .idiv), (67, 1, .ireturn)]
theorem ck_125 : pm_ck prog_10_method_33_code cd_125 = true := by decide +kernel
def mt_125 : pmM := (⟨"LampFeastModel", "next", "(I)I"⟩, prog_10_method_33_code, 2, (some .int), 8, 1, cd_125)
def cd_126 : List (Nat × Nat × Instr) := [(0, 1, .aload_n 0), (1, 1, .iload_n 1), (2, 3, .invokevirtual 126), (5, 3, .ifCond .ne 9), (8, 1, .aload_n 0), (9, 1, .iconst 1), (10, 3, .invokevirtual 119), (13, 1, .ireturn), (14, 1, .aload_n 0), (15, 3, .getfield 62), (18, 1, .iload_n 1), (19, 1, .baload), (20, 3, .ifCond .ne 9), (23, 1, .aload_n 0), (24, 1, .iconst 3), (25, 3, .invokevirtual 119), (28, 1, .ireturn), (29, 1, .iload_n 2), (30, 3, .ifCond .eq 12), (33, 1, .aload_n 0), (34, 3, .getfield 59), (37, 1, .iload_n 1), (38, 1, .iaload), (39, 3, .goto 9), (42, 1, .aload_n 0), (43, 3, .getfield 56), (46, 1, .iload_n 1), (47, 1, .iaload), (48, 1, .ireturn)]
theorem ck_126 : pm_ck prog_10_method_34_code cd_126 = true := by decide +kernel
def mt_126 : pmM := (⟨"LampFeastModel", "fault", "(IZ)I"⟩, prog_10_method_34_code, 3, (some .int), 8, 2, cd_126)
def cd_127 : List (Nat × Nat × Instr) := [(0, 1, .iload_n 1), (1, 1, .iconst 1), (2, 1, .iconst 3), (3, 3, .invokestatic 115), (6, 3, .ifCond .eq 13), (9, 1, .iload_n 2), (10, 1, .iconst 1), (11, 2, .bipush 12), (13, 3, .invokestatic 115), (16, 3, .ifCond .ne 9), (19, 1, .aload_n 0), (20, 1, .iconst 1), (21, 3, .invokevirtual 119), (24, 1, .ireturn), (25, 1, .aload_n 0), (26, 1, .iload_n 1), (27, 3, .putfield 13), (30, 1, .aload_n 0), (31, 1, .iload_n 2), (32, 3, .putfield 16), (35, 1, .iconst 1), (36, 1, .ireturn)]
theorem ck_127 : pm_ck prog_10_method_35_code cd_127 = true := by decide +kernel
def mt_127 : pmM := (⟨"LampFeastModel", "crews", "(II)I"⟩, prog_10_method_35_code, 3, (some .int), 8, 2, cd_127)
def cd_128 : List (Nat × Nat × Instr) := [(0, 1, .iload_n 1), (1, 1, .iconst 0), (2, 2, .bipush 7), (4, 3, .invokestatic 115), (7, 3, .ifCond .eq 13), (10, 1, .iload_n 2), (11, 1, .iconst 0), (12, 2, .bipush 127), (14, 3, .invokestatic 115), (17, 3, .ifCond .ne 9), (20, 1, .aload_n 0), (21, 1, .iconst 1), (22, 3, .invokevirtual 119), (25, 1, .ireturn), (26, 1, .aload_n 0), (27, 3, .getfield 69), (30, 1, .iload_n 1), (31, 1, .iaload), (32, 1, .istore_n 3), (33, 1, .aload_n 0), (34, 3, .getfield 69), (37, 1, .iload_n 1), (38, 1, .iload_n 2), (39, 1, .iastore), (40, 1, .iload_n 3), (41, 1, .ireturn)]
theorem ck_128 : pm_ck prog_10_method_36_code cd_128 = true := by decide +kernel
def mt_128 : pmM := (⟨"LampFeastModel", "open", "(II)I"⟩, prog_10_method_36_code, 4, (some .int), 8, 2, cd_128)
def cd_129 : List (Nat × Nat × Instr) := [(0, 1, .iconst 0), (1, 1, .istore_n 2), (2, 1, .aload_n 0), (3, 3, .getfield 81), (6, 1, .iload_n 2), (7, 1, .iaload), (8, 1, .iload_n 1), (9, 3, .if_icmp .eq 9), (12, 3, .iinc 2 1), (15, 3, .goto (-13)), (18, 1, .iload_n 2), (19, 1, .ireturn)]
theorem ck_129 : pm_ck prog_10_method_37_code cd_129 = true := by decide +kernel
def mt_129 : pmM := (⟨"LampFeastModel", "placeOf", "(I)I"⟩, prog_10_method_37_code, 3, (some .int), 8, 1, cd_129)
def cd_130 : List (Nat × Nat × Instr) := [(0, 1, .aload_n 0), (1, 1, .iload_n 1), (2, 3, .invokevirtual 126), (5, 3, .ifCond .eq 11), (8, 1, .aload_n 0), (9, 1, .iload_n 2), (10, 3, .invokevirtual 126), (13, 3, .ifCond .ne 9), (16, 1, .aload_n 0), (17, 1, .iconst 1), (18, 3, .invokevirtual 119), (21, 1, .ireturn), (22, 1, .aload_n 0), (23, 1, .iload_n 1), (24, 3, .invokevirtual 180), (27, 1, .istore_n 3), (28, 1, .iload_n 3), (29, 2, .istore 4), (31, 2, .iload 4), (33, 1, .iload_n 2), (34, 3, .if_icmp .ge 25), (37, 1, .aload_n 0), (38, 3, .getfield 81), (41, 2, .iload 4), (43, 1, .aload_n 0), (44, 3, .getfield 81), (47, 2, .iload 4), (49, 1, .iconst 1), (50, 1, .iadd), (51, 1, .iaload), (52, 1, .iastore), (53, 3, .iinc 4 1), (56, 3, .goto (-25)), (59, 1, .iload_n 3), (60, 2, .istore 4), (62, 2, .iload 4), (64, 1, .iload_n 2), (65, 3, .if_icmp .le 25), (68, 1, .aload_n 0), (69, 3, .getfield 81), (72, 2, .iload 4), (74, 1, .aload_n 0), (75, 3, .getfield 81), (78, 2, .iload 4), (80, 1, .iconst 1), (81, 1, .isub), (82, 1, .iaload), (83, 1, .iastore), (84, 3, .iinc 4 (-1)), (87, 3, .goto (-25)), (90, 1, .aload_n 0), (91, 3, .getfield 81), (94, 1, .iload_n 2), (95, 1, .iload_n 1), (96, 1, .iastore), (97, 1, .iload_n 3), (98, 1, .ireturn)]
theorem ck_130 : pm_ck prog_10_method_38_code cd_130 = true := by decide +kernel
def mt_130 : pmM := (⟨"LampFeastModel", "order", "(II)I"⟩, prog_10_method_38_code, 5, (some .int), 8, 2, cd_130)
def cd_131 : List (Nat × Nat × Instr) := [(0, 1, .iconst 1), (1, 1, .aload_n 0), (2, 3, .getfield 41), (5, 1, .iload_n 1), (6, 1, .iaload), (7, 2, .bipush 20), (9, 1, .idiv), (10, 1, .iadd), (11, 1, .ireturn)]
theorem ck_131 : pm_ck prog_10_method_39_code cd_131 = true := by decide +kernel
def mt_131 : pmM := (⟨"LampFeastModel", "wants", "(I)I"⟩, prog_10_method_39_code, 2, (some .int), 8, 1, cd_131)
def cd_132_0 : List (Nat × Nat × Instr) := [(0, 1, .aload_n 0), (1, 3, .getfield 35), (4, 1, .iload_n 1), (5, 1, .iaload), (6, 3, .ifCond .lt 18), (9, 1, .aload_n 0), (10, 3, .getfield 99), (13, 1, .aload_n 0), (14, 3, .getfield 35), (17, 1, .iload_n 1), (18, 1, .iaload), (19, 1, .iaload), (20, 3, .ifCond .ge 4), (23, 1, .return_), (24, 1, .aload_n 0), (25, 3, .getfield 35), (28, 1, .iload_n 1), (29, 1, .iaload), (30, 3, .ifCond .ge 7), (33, 1, .iconst 0), (34, 3, .goto 14), (37, 1, .aload_n 0), (38, 3, .getfield 99), (41, 1, .aload_n 0), (42, 3, .getfield 35), (45, 1, .iload_n 1), (46, 1, .iaload), (47, 1, .iaload), (48, 1, .istore_n 2), (49, 1, .iload_n 2), (50, 2, .bipush 60), (52, 3, .if_icmp .ge 108), (55, 1, .aload_n 0), (56, 3, .getfield 69), (59, 1, .aload_n 0), (60, 3, .getfield 38), (63, 1, .iload_n 1), (64, 1, .iaload), (65, 1, .iaload), (66, 1, .iload_n 2), (67, 2, .bipush 7), (69, 1, .irem), (70, 3, .invokestatic 177), (73, 3, .ifCond .ne 6), (76, 3, .goto 78), (79, 1, .iconst 0), (80, 1, .istore_n 3), (81, 1, .iload_n 3), (82, 1, .aload_n 0), (83, 3, .getfield 13), (86, 3, .if_icmp .ge 68), (89, 1, .aload_n 0), (90, 3, .getfield 105), (93, 1, .iconst 3), (94, 1, .iload_n 2), (95, 1, .imul), (96, 1, .iload_n 3), (97, 1, .iadd), (98, 1, .iaload), (99, 1, .aload_n 0)]
theorem ck_132_0 : pm_ck prog_10_method_40_code cd_132_0 = true := by decide +kernel
def cd_132_1 : List (Nat × Nat × Instr) := [(100, 1, .iload_n 1), (101, 3, .invokevirtual 183), (104, 1, .iadd), (105, 1, .aload_n 0), (106, 3, .getfield 16), (109, 3, .if_icmp .le 6), (112, 3, .goto 36), (115, 1, .aload_n 0), (116, 3, .getfield 105), (119, 1, .iconst 3), (120, 1, .iload_n 2), (121, 1, .imul), (122, 1, .iload_n 3), (123, 1, .iadd), (124, 1, .dup2), (125, 1, .iaload), (126, 1, .aload_n 0), (127, 1, .iload_n 1), (128, 3, .invokevirtual 183), (131, 1, .iadd), (132, 1, .iastore), (133, 1, .aload_n 0), (134, 3, .getfield 99), (137, 1, .iload_n 1), (138, 1, .iload_n 2), (139, 1, .iastore), (140, 1, .aload_n 0), (141, 3, .getfield 102), (144, 1, .iload_n 1), (145, 1, .iload_n 3), (146, 1, .iastore), (147, 1, .return_), (148, 3, .iinc 3 1), (151, 3, .goto (-70)), (154, 3, .iinc 2 1), (157, 3, .goto (-108)), (160, 1, .return_)]
theorem ck_132_1 : pm_ck prog_10_method_40_code cd_132_1 = true := by decide +kernel
def cd_132 : List (Nat × Nat × Instr) := cd_132_0 ++ (cd_132_1)
theorem ck_132 : pm_ck prog_10_method_40_code cd_132 = true := pm_ck_app ck_132_0 (ck_132_1)
def mt_132 : pmM := (⟨"LampFeastModel", "hangs", "(I)V"⟩, prog_10_method_40_code, 4, none, 8, 1, cd_132)
def cd_133_0 : List (Nat × Nat × Instr) := [(0, 1, .iconst 0), (1, 1, .istore_n 2), (2, 1, .iload_n 2), (3, 3, .sipush 180), (6, 3, .if_icmp .ge 16), (9, 1, .aload_n 0), (10, 3, .getfield 105), (13, 1, .iload_n 2), (14, 1, .iconst 0), (15, 1, .iastore), (16, 3, .iinc 2 1), (19, 3, .goto (-17)), (22, 1, .iconst 0), (23, 1, .istore_n 2), (24, 1, .iload_n 2), (25, 1, .aload_n 0), (26, 3, .getfield 112), (29, 3, .if_icmp .ge 23), (32, 1, .aload_n 0), (33, 3, .getfield 99), (36, 1, .iload_n 2), (37, 1, .iconst (-1)), (38, 1, .iastore), (39, 1, .aload_n 0), (40, 3, .getfield 102), (43, 1, .iload_n 2), (44, 1, .iconst (-1)), (45, 1, .iastore), (46, 3, .iinc 2 1), (49, 3, .goto (-25)), (52, 1, .iconst 0), (53, 1, .istore_n 2), (54, 1, .iconst 0), (55, 1, .istore_n 3), (56, 1, .iload_n 3), (57, 1, .aload_n 0), (58, 3, .getfield 112), (61, 3, .if_icmp .ge 57), (64, 1, .aload_n 0), (65, 1, .aload_n 1), (66, 1, .iload_n 3), (67, 1, .iaload), (68, 3, .invokevirtual 186), (71, 1, .aload_n 0), (72, 3, .getfield 99), (75, 1, .aload_n 1), (76, 1, .iload_n 3), (77, 1, .iaload), (78, 1, .iaload), (79, 3, .ifCond .ge 8), (82, 2, .bipush 99), (84, 3, .goto 13), (87, 1, .iconst 1), (88, 1, .aload_n 0), (89, 3, .getfield 99), (92, 1, .aload_n 1), (93, 1, .iload_n 3), (94, 1, .iaload), (95, 1, .iaload), (96, 1, .iadd)]
theorem ck_133_0 : pm_ck prog_10_method_41_code cd_133_0 = true := by decide +kernel
def cd_133_1 : List (Nat × Nat × Instr) := [(97, 2, .istore 4), (99, 2, .iload 4), (101, 1, .iload_n 2), (102, 3, .if_icmp .le 8), (105, 2, .iload 4), (107, 3, .goto 4), (110, 1, .iload_n 2), (111, 1, .istore_n 2), (112, 3, .iinc 3 1), (115, 3, .goto (-59)), (118, 1, .iload_n 2), (119, 1, .ireturn)]
theorem ck_133_1 : pm_ck prog_10_method_41_code cd_133_1 = true := by decide +kernel
def cd_133 : List (Nat × Nat × Instr) := cd_133_0 ++ (cd_133_1)
theorem ck_133 : pm_ck prog_10_method_41_code cd_133 = true := pm_ck_app ck_133_0 (ck_133_1)
def mt_133 : pmM := (⟨"LampFeastModel", "ends", "([I)I"⟩, prog_10_method_41_code, 5, (some .int), 8, 1, cd_133)
def cd_134 : List (Nat × Nat × Instr) := [(0, 1, .aload_n 0), (1, 1, .aload_n 0), (2, 3, .getfield 81), (5, 3, .invokevirtual 189), (8, 1, .ireturn)]
theorem ck_134 : pm_ck prog_10_method_42_code cd_134 = true := by decide +kernel
def mt_134 : pmM := (⟨"LampFeastModel", "plan", "()I"⟩, prog_10_method_42_code, 1, (some .int), 8, 0, cd_134)
def cd_135 : List (Nat × Nat × Instr) := [(0, 1, .aload_n 0), (1, 1, .iload_n 1), (2, 3, .invokevirtual 126), (5, 3, .ifCond .eq 12), (8, 1, .iload_n 2), (9, 1, .iconst 0), (10, 1, .iconst 3), (11, 3, .invokestatic 115), (14, 3, .ifCond .ne 9), (17, 1, .aload_n 0), (18, 1, .iconst 1), (19, 3, .invokevirtual 119), (22, 1, .ireturn), (23, 1, .aload_n 0), (24, 1, .aload_n 0), (25, 3, .getfield 81), (28, 3, .invokevirtual 189), (31, 1, .istore_n 3), (32, 1, .iload_n 2), (33, 3, .ifCond .ne 12), (36, 1, .aload_n 0), (37, 3, .getfield 99), (40, 1, .iload_n 1), (41, 1, .iaload), (42, 3, .goto 35), (45, 1, .iload_n 2), (46, 1, .iconst 1), (47, 3, .if_icmp .ne 12), (50, 1, .aload_n 0), (51, 3, .getfield 102), (54, 1, .iload_n 1), (55, 1, .iaload), (56, 3, .goto 21), (59, 1, .iload_n 2), (60, 1, .iconst 2), (61, 3, .if_icmp .ne 11), (64, 1, .aload_n 0), (65, 1, .iload_n 1), (66, 3, .invokevirtual 180), (69, 3, .goto 8), (72, 1, .aload_n 0), (73, 1, .iload_n 1), (74, 3, .invokevirtual 183), (77, 1, .ireturn)]
theorem ck_135 : pm_ck prog_10_method_43_code cd_135 = true := by decide +kernel
def mt_135 : pmM := (⟨"LampFeastModel", "hung", "(II)I"⟩, prog_10_method_43_code, 4, (some .int), 8, 2, cd_135)
def cd_136 : List (Nat × Nat × Instr) := [(0, 1, .iload_n 1), (1, 1, .istore_n 3), (2, 1, .iload_n 2), (3, 2, .istore 4), (5, 1, .iconst 0), (6, 2, .istore 5), (8, 1, .iconst 0), (9, 2, .istore 6), (11, 2, .iload 6), (13, 1, .aload_n 0), (14, 3, .getfield 112), (17, 3, .if_icmp .ge 87), (20, 2, .iload 4), (22, 1, .aload_n 0), (23, 3, .getfield 112), (26, 2, .iload 6), (28, 1, .isub), (29, 1, .idiv), (30, 2, .istore 4), (32, 1, .iload_n 3), (33, 2, .iload 4), (35, 1, .idiv), (36, 2, .istore 7), (38, 1, .iload_n 3), (39, 2, .iload 4), (41, 1, .irem), (42, 1, .istore_n 3), (43, 1, .iconst 0), (44, 2, .istore 8), (46, 2, .iload 5), (48, 2, .iload 8), (50, 3, .invokestatic 177), (53, 3, .ifCond .ne 8), (56, 2, .iload 7), (58, 3, .ifCond .le 22), (61, 2, .iload 5), (63, 2, .iload 8), (65, 3, .invokestatic 177), (68, 3, .ifCond .ne 6), (71, 3, .iinc 7 (-1)), (74, 3, .iinc 8 1), (77, 3, .goto (-31)), (80, 1, .aload_n 0), (81, 3, .getfield 108), (84, 2, .iload 6), (86, 2, .iload 8), (88, 1, .iastore), (89, 2, .iload 5), (91, 1, .iconst 1), (92, 2, .iload 8), (94, 1, .ishl), (95, 1, .ior), (96, 2, .istore 5), (98, 3, .iinc 6 1), (101, 3, .goto (-90)), (104, 1, .return_)]
theorem ck_136 : pm_ck prog_10_method_44_code cd_136 = true := by decide +kernel
def mt_136 : pmM := (⟨"LampFeastModel", "lay", "(II)V"⟩, prog_10_method_44_code, 9, none, 8, 2, cd_136)
def cd_137_0 : List (Nat × Nat × Instr) := [(0, 1, .aload_n 0), (1, 3, .getfield 112), (4, 2, .bipush 6), (6, 3, .if_icmp .le 9), (9, 1, .aload_n 0), (10, 1, .iconst 3), (11, 3, .invokevirtual 119), (14, 1, .ireturn), (15, 1, .iconst 1), (16, 1, .istore_n 1), (17, 1, .iconst 2), (18, 1, .istore_n 2), (19, 1, .iload_n 2), (20, 1, .aload_n 0), (21, 3, .getfield 112), (24, 3, .if_icmp .gt 13), (27, 1, .iload_n 1), (28, 1, .iload_n 2), (29, 1, .imul), (30, 1, .istore_n 1), (31, 3, .iinc 2 1), (34, 3, .goto (-15)), (37, 1, .iconst 0), (38, 1, .istore_n 2), (39, 2, .bipush 100), (41, 1, .istore_n 3), (42, 1, .iconst 0), (43, 2, .istore 4), (45, 2, .iload 4), (47, 1, .iload_n 1), (48, 3, .if_icmp .ge 41), (51, 1, .aload_n 0), (52, 2, .iload 4), (54, 1, .iload_n 1), (55, 3, .invokevirtual 193), (58, 1, .aload_n 0), (59, 1, .aload_n 0), (60, 3, .getfield 108), (63, 3, .invokevirtual 189), (66, 2, .istore 5), (68, 2, .iload 5), (70, 1, .iload_n 3), (71, 3, .if_icmp .lt 6), (74, 3, .goto 9), (77, 2, .iload 5), (79, 1, .istore_n 3), (80, 2, .iload 4), (82, 1, .istore_n 2), (83, 3, .iinc 4 1), (86, 3, .goto (-41)), (89, 1, .aload_n 0), (90, 1, .iload_n 2), (91, 1, .iload_n 1), (92, 3, .invokevirtual 193), (95, 1, .iconst 0), (96, 2, .istore 4), (98, 2, .iload 4), (100, 1, .aload_n 0), (101, 3, .getfield 112), (104, 3, .if_icmp .ge 23)]
theorem ck_137_0 : pm_ck prog_10_method_45_code cd_137_0 = true := by decide +kernel
def cd_137_1 : List (Nat × Nat × Instr) := [(107, 1, .aload_n 0), (108, 3, .getfield 81), (111, 2, .iload 4), (113, 1, .aload_n 0), (114, 3, .getfield 108), (117, 2, .iload 4), (119, 1, .iaload), (120, 1, .iastore), (121, 3, .iinc 4 1), (124, 3, .goto (-26)), (127, 1, .iload_n 3), (128, 1, .ireturn)]
theorem ck_137_1 : pm_ck prog_10_method_45_code cd_137_1 = true := by decide +kernel
def cd_137 : List (Nat × Nat × Instr) := cd_137_0 ++ (cd_137_1)
theorem ck_137 : pm_ck prog_10_method_45_code cd_137 = true := pm_ck_app ck_137_0 (ck_137_1)
def mt_137 : pmM := (⟨"LampFeastModel", "best", "()I"⟩, prog_10_method_45_code, 6, (some .int), 8, 0, cd_137)
def cd_138 : List (Nat × Nat × Instr) := [(0, 1, .iload_n 1), (1, 1, .iconst 0), (2, 2, .bipush 7), (4, 3, .invokestatic 115), (7, 3, .ifCond .eq 14), (10, 1, .iload_n 2), (11, 1, .iconst 0), (12, 3, .sipush 1000), (15, 3, .invokestatic 115), (18, 3, .ifCond .ne 9), (21, 1, .aload_n 0), (22, 1, .iconst 1), (23, 3, .invokevirtual 119), (26, 1, .ireturn), (27, 1, .aload_n 0), (28, 3, .getfield 72), (31, 1, .iload_n 1), (32, 1, .iaload), (33, 1, .istore_n 3), (34, 1, .aload_n 0), (35, 3, .getfield 72), (38, 1, .iload_n 1), (39, 1, .iload_n 2), (40, 1, .iastore), (41, 1, .iload_n 3), (42, 1, .ireturn)]
theorem ck_138 : pm_ck prog_10_method_46_code cd_138 = true := by decide +kernel
def mt_138 : pmM := (⟨"LampFeastModel", "front", "(II)I"⟩, prog_10_method_46_code, 4, (some .int), 8, 2, cd_138)
def cd_139 : List (Nat × Nat × Instr) := [(0, 1, .iload_n 1), (1, 1, .iconst 0), (2, 2, .bipush 100), (4, 3, .invokestatic 115), (7, 3, .ifCond .ne 9), (10, 1, .aload_n 0), (11, 1, .iconst 1), (12, 3, .invokevirtual 119), (15, 1, .ireturn), (16, 1, .aload_n 0), (17, 3, .getfield 19), (20, 1, .istore_n 2), (21, 1, .aload_n 0), (22, 1, .iload_n 1), (23, 3, .putfield 19), (26, 1, .iload_n 2), (27, 1, .ireturn)]
theorem ck_139 : pm_ck prog_10_method_47_code cd_139 = true := by decide +kernel
def mt_139 : pmM := (⟨"LampFeastModel", "part", "(I)I"⟩, prog_10_method_47_code, 3, (some .int), 8, 1, cd_139)
def cd_140_0 : List (Nat × Nat × Instr) := [(0, 1, .iload_n 1), (1, 1, .iconst (-1)), (2, 2, .bipush 7), (4, 3, .invokestatic 115), (7, 3, .ifCond .eq 13), (10, 1, .iload_n 2), (11, 1, .iconst 0), (12, 2, .ldc 197), (14, 3, .invokestatic 115), (17, 3, .ifCond .ne 9), (20, 1, .aload_n 0), (21, 1, .iconst 1), (22, 3, .invokevirtual 119), (25, 1, .ireturn), (26, 1, .iconst 0), (27, 1, .istore_n 3), (28, 1, .iconst 0), (29, 2, .istore 4), (31, 2, .iload 4), (33, 2, .bipush 8), (35, 3, .if_icmp .ge 19), (38, 1, .iload_n 3), (39, 1, .aload_n 0), (40, 3, .getfield 72), (43, 2, .iload 4), (45, 1, .iaload), (46, 1, .iadd), (47, 1, .istore_n 3), (48, 3, .iinc 4 1), (51, 3, .goto (-20)), (54, 1, .iload_n 3), (55, 3, .ifCond .ne 13), (58, 1, .iload_n 1), (59, 3, .ifCond .ge 7), (62, 1, .iload_n 2), (63, 3, .goto 4), (66, 1, .iconst 0), (67, 1, .ireturn), (68, 1, .iload_n 2), (69, 1, .aload_n 0)]
theorem ck_140_0 : pm_ck prog_10_method_48_code cd_140_0 = true := by decide +kernel
def cd_140_1 : List (Nat × Nat × Instr) := [(70, 3, .getfield 19), (73, 1, .imul), (74, 2, .bipush 100), (76, 1, .idiv), (77, 2, .istore 4), (79, 1, .iload_n 1), (80, 3, .ifCond .ge 6), (83, 2, .iload 4), (85, 1, .ireturn), (86, 1, .iload_n 2), (87, 2, .iload 4), (89, 1, .isub), (90, 2, .istore 5), (92, 2, .iload 5), (94, 2, .istore 6), (96, 1, .iconst 0), (97, 2, .istore 7), (99, 2, .iload 5), (101, 1, .i2l), (102, 1, .aload_n 0), (103, 3, .getfield 72), (106, 1, .iload_n 1), (107, 1, .iaload), (108, 1, .i2l), (109, 1, .lmul), (110, 1, .iload_n 3), (111, 1, .i2l), (112, 1, .lrem), (113, 2, .lstore 8), (115, 1, .iconst 0), (116, 2, .istore 10), (118, 2, .iload 10), (120, 2, .bipush 8), (122, 3, .if_icmp .ge 65), (125, 2, .iload 5), (127, 1, .i2l), (128, 1, .aload_n 0), (129, 3, .getfield 72), (132, 2, .iload 10), (134, 1, .iaload)]
theorem ck_140_1 : pm_ck prog_10_method_48_code cd_140_1 = true := by decide +kernel
def cd_140_2 : List (Nat × Nat × Instr) := [(135, 1, .i2l), (136, 1, .lmul), (137, 2, .lstore 11), (139, 2, .iload 6), (141, 2, .lload 11), (143, 1, .iload_n 3), (144, 1, .i2l), (145, 1, .ldiv), (146, 1, .l2i), (147, 1, .isub), (148, 2, .istore 6), (150, 2, .lload 11), (152, 1, .iload_n 3), (153, 1, .i2l), (154, 1, .lrem), (155, 2, .lload 8), (157, 1, .lcmp), (158, 3, .ifCond .gt 20), (161, 2, .lload 11), (163, 1, .iload_n 3), (164, 1, .i2l), (165, 1, .lrem), (166, 2, .lload 8), (168, 1, .lcmp), (169, 3, .ifCond .ne 12), (172, 2, .iload 10), (174, 1, .iload_n 1), (175, 3, .if_icmp .ge 6), (178, 3, .iinc 7 1), (181, 3, .iinc 10 1), (184, 3, .goto (-66)), (187, 2, .iload 5), (189, 1, .i2l), (190, 1, .aload_n 0), (191, 3, .getfield 72), (194, 1, .iload_n 1), (195, 1, .iaload), (196, 1, .i2l), (197, 1, .lmul), (198, 1, .iload_n 3)]
theorem ck_140_2 : pm_ck prog_10_method_48_code cd_140_2 = true := by decide +kernel
def cd_140_3 : List (Nat × Nat × Instr) := [(199, 1, .i2l), (200, 1, .ldiv), (201, 1, .l2i), (202, 2, .iload 7), (204, 2, .iload 6), (206, 3, .if_icmp .ge 7), (209, 1, .iconst 1), (210, 3, .goto 4), (213, 1, .iconst 0), (214, 1, .iadd), (215, 1, .ireturn)]
theorem ck_140_3 : pm_ck prog_10_method_48_code cd_140_3 = true := by decide +kernel
def cd_140 : List (Nat × Nat × Instr) := cd_140_0 ++ (cd_140_1 ++ (cd_140_2 ++ (cd_140_3)))
theorem ck_140 : pm_ck prog_10_method_48_code cd_140 = true := pm_ck_app ck_140_0 (pm_ck_app ck_140_1 (pm_ck_app ck_140_2 (ck_140_3)))
def mt_140 : pmM := (⟨"LampFeastModel", "share", "(II)I"⟩, prog_10_method_48_code, 13, (some .int), 8, 2, cd_140)
def cd_141 : List (Nat × Nat × Instr) := [(0, 1, .aload_n 0), (1, 1, .iload_n 1), (2, 3, .invokevirtual 126), (5, 3, .ifCond .eq 23), (8, 1, .iload_n 2), (9, 1, .iconst 0), (10, 1, .aload_n 0), (11, 3, .getfield 47), (14, 1, .iload_n 1), (15, 1, .iaload), (16, 1, .iconst 1), (17, 1, .isub), (18, 3, .invokestatic 115), (21, 3, .ifCond .eq 7), (24, 1, .iconst 1), (25, 3, .goto 4), (28, 1, .iconst 0), (29, 1, .ireturn)]
theorem ck_141 : pm_ck prog_10_method_49_code cd_141 = true := by decide +kernel
def mt_141 : pmM := (⟨"LampFeastModel", "isLamp", "(II)Z"⟩, prog_10_method_49_code, 3, (some .boolean), 8, 2, cd_141)
def cd_142 : List (Nat × Nat × Instr) := [(0, 1, .aload_n 0), (1, 1, .iload_n 1), (2, 1, .iload_n 2), (3, 3, .invokevirtual 198), (6, 3, .ifCond .eq 17), (9, 1, .aload_n 0), (10, 3, .getfield 66), (13, 2, .bipush 60), (15, 1, .iload_n 1), (16, 1, .imul), (17, 1, .iload_n 2), (18, 1, .iadd), (19, 1, .iaload), (20, 3, .goto 8), (23, 1, .aload_n 0), (24, 1, .iconst 1), (25, 3, .invokevirtual 119), (28, 1, .ireturn)]
theorem ck_142 : pm_ck prog_10_method_50_code cd_142 = true := by decide +kernel
def mt_142 : pmM := (⟨"LampFeastModel", "lamp", "(II)I"⟩, prog_10_method_50_code, 3, (some .int), 8, 2, cd_142)
def cd_143 : List (Nat × Nat × Instr) := [(0, 1, .aload_n 0), (1, 1, .iload_n 1), (2, 1, .iload_n 2), (3, 3, .invokevirtual 198), (6, 3, .ifCond .ne 9), (9, 1, .aload_n 0), (10, 1, .iconst 1), (11, 3, .invokevirtual 119), (14, 1, .ireturn), (15, 1, .aload_n 0), (16, 3, .invokevirtual 130), (19, 3, .ifCond .ne 9), (22, 1, .aload_n 0), (23, 1, .iconst 3), (24, 3, .invokevirtual 119), (27, 1, .ireturn), (28, 1, .aload_n 0), (29, 3, .getfield 29), (32, 1, .aload_n 0), (33, 3, .getfield 66), (36, 2, .bipush 60), (38, 1, .iload_n 1), (39, 1, .imul), (40, 1, .iload_n 2), (41, 1, .iadd), (42, 1, .iaload), (43, 1, .dup2), (44, 1, .iaload), (45, 1, .iconst 1), (46, 1, .iadd), (47, 1, .iastore), (48, 1, .aload_n 0), (49, 3, .getfield 66), (52, 2, .bipush 60), (54, 1, .iload_n 1), (55, 1, .imul), (56, 1, .iload_n 2), (57, 1, .iadd), (58, 1, .aload_n 0), (59, 3, .invokevirtual 134), (62, 1, .iastore), (63, 1, .aload_n 0), (64, 3, .getfield 66), (67, 2, .bipush 60), (69, 1, .iload_n 1), (70, 1, .imul), (71, 1, .iload_n 2), (72, 1, .iadd), (73, 1, .iaload), (74, 1, .ireturn)]
theorem ck_143 : pm_ck prog_10_method_51_code cd_143 = true := by decide +kernel
def mt_143 : pmM := (⟨"LampFeastModel", "replace", "(II)I"⟩, prog_10_method_51_code, 3, (some .int), 8, 2, cd_143)
def cd_144_0 : List (Nat × Nat × Instr) := [(0, 1, .iload_n 1), (1, 1, .iconst 0), (2, 1, .aload_n 0), (3, 3, .getfield 123), (6, 1, .iconst 1), (7, 1, .isub), (8, 3, .invokestatic 115), (11, 3, .ifCond .eq 12), (14, 1, .iload_n 2), (15, 1, .iconst 0), (16, 1, .iconst 3), (17, 3, .invokestatic 115), (20, 3, .ifCond .ne 9), (23, 1, .aload_n 0), (24, 1, .iconst 1), (25, 3, .invokevirtual 119), (28, 1, .ireturn), (29, 1, .iload_n 2), (30, 1, .iconst 3), (31, 3, .if_icmp .ge 37), (34, 1, .iload_n 2), (35, 3, .ifCond .ne 12), (38, 1, .aload_n 0), (39, 3, .getfield 22), (42, 1, .iload_n 1), (43, 1, .iaload), (44, 3, .goto 23), (47, 1, .iload_n 2), (48, 1, .iconst 1), (49, 3, .if_icmp .ne 12), (52, 1, .aload_n 0), (53, 3, .getfield 26), (56, 1, .iload_n 1), (57, 1, .iaload), (58, 3, .goto 9), (61, 1, .aload_n 0), (62, 3, .getfield 29), (65, 1, .iload_n 1), (66, 1, .iaload), (67, 1, .ireturn), (68, 1, .iconst 0), (69, 1, .istore_n 3), (70, 1, .iconst 0), (71, 2, .istore 4), (73, 2, .iload 4), (75, 1, .aload_n 0), (76, 3, .getfield 112), (79, 3, .if_icmp .ge 55), (82, 1, .iconst 0), (83, 2, .istore 5), (85, 2, .iload 5), (87, 1, .aload_n 0), (88, 3, .getfield 47), (91, 2, .iload 4), (93, 1, .iaload), (94, 3, .if_icmp .ge 34), (97, 1, .iload_n 3), (98, 1, .aload_n 0), (99, 3, .getfield 66), (102, 2, .bipush 60)]
theorem ck_144_0 : pm_ck prog_10_method_52_code cd_144_0 = true := by decide +kernel
def cd_144_1 : List (Nat × Nat × Instr) := [(104, 2, .iload 4), (106, 1, .imul), (107, 2, .iload 5), (109, 1, .iadd), (110, 1, .iaload), (111, 1, .iload_n 1), (112, 3, .if_icmp .ne 7), (115, 1, .iconst 1), (116, 3, .goto 4), (119, 1, .iconst 0), (120, 1, .iadd), (121, 1, .istore_n 3), (122, 3, .iinc 5 1), (125, 3, .goto (-40)), (128, 3, .iinc 4 1), (131, 3, .goto (-58)), (134, 1, .iload_n 3), (135, 1, .ireturn)]
theorem ck_144_1 : pm_ck prog_10_method_52_code cd_144_1 = true := by decide +kernel
def cd_144 : List (Nat × Nat × Instr) := cd_144_0 ++ (cd_144_1)
theorem ck_144 : pm_ck prog_10_method_52_code cd_144 = true := pm_ck_app ck_144_0 (ck_144_1)
def mt_144 : pmM := (⟨"LampFeastModel", "box", "(II)I"⟩, prog_10_method_52_code, 6, (some .int), 8, 2, cd_144)
def cd_145 : List (Nat × Nat × Instr) := [(0, 1, .aload_n 0), (1, 3, .getfield 201), (4, 2, .bipush 24), (6, 3, .if_icmp .ne 9), (9, 1, .aload_n 0), (10, 1, .iconst 4), (11, 3, .invokevirtual 119), (14, 1, .ireturn), (15, 1, .aload_n 0), (16, 3, .getfield 75), (19, 1, .aload_n 0), (20, 3, .getfield 201), (23, 1, .iload_n 1), (24, 1, .iastore), (25, 1, .aload_n 0), (26, 1, .dup), (27, 3, .getfield 201), (30, 1, .iconst 1), (31, 1, .iadd), (32, 3, .putfield 201), (35, 1, .aload_n 0), (36, 3, .getfield 201), (39, 1, .ireturn)]
theorem ck_145 : pm_ck prog_10_method_53_code cd_145 = true := by decide +kernel
def mt_145 : pmM := (⟨"LampFeastModel", "tell", "(I)I"⟩, prog_10_method_53_code, 2, (some .int), 8, 1, cd_145)
def cd_146 : List (Nat × Nat × Instr) := [(0, 1, .aload_n 0), (1, 3, .getfield 201), (4, 1, .istore_n 1), (5, 1, .aload_n 0), (6, 1, .iconst 0), (7, 3, .putfield 201), (10, 1, .aload_n 0), (11, 3, .invokevirtual 171), (14, 1, .istore_n 2), (15, 1, .iload_n 2), (16, 3, .ifCond .ge 9), (19, 1, .aload_n 0), (20, 1, .iconst 2), (21, 3, .invokevirtual 119), (24, 1, .ireturn), (25, 1, .iconst 0), (26, 1, .istore_n 3), (27, 1, .iconst 0), (28, 2, .istore 4), (30, 2, .iload 4), (32, 1, .aload_n 0), (33, 3, .getfield 112), (36, 3, .if_icmp .ge 44), (39, 1, .iload_n 2), (40, 2, .iload 4), (42, 3, .invokestatic 177), (45, 3, .ifCond .ne 6), (48, 3, .goto 26), (51, 1, .iload_n 3), (52, 1, .iload_n 1), (53, 3, .if_icmp .ge 14), (56, 1, .aload_n 0), (57, 3, .getfield 75), (60, 1, .iload_n 3), (61, 1, .iaload), (62, 2, .iload 4), (64, 3, .if_icmp .eq 7), (67, 1, .iconst 1), (68, 1, .iload_n 3), (69, 1, .iadd), (70, 1, .ireturn), (71, 3, .iinc 3 1), (74, 3, .iinc 4 1), (77, 3, .goto (-47)), (80, 1, .iload_n 1), (81, 1, .iload_n 3), (82, 3, .if_icmp .le 8), (85, 2, .bipush 99), (87, 3, .goto 4), (90, 1, .iconst 0), (91, 1, .ireturn)]
theorem ck_146 : pm_ck prog_10_method_54_code cd_146 = true := by decide +kernel
def mt_146 : pmM := (⟨"LampFeastModel", "check", "()I"⟩, prog_10_method_54_code, 5, (some .int), 8, 0, cd_146)
def cd_147_0 : List (Nat × Nat × Instr) := [(0, 1, .iconst 0), (1, 1, .istore_n 2), (2, 1, .iload_n 1), (3, 37, .tableswitch 126 0 5 #[37, 42, 47, 82, 116, 121]), (40, 1, .aload_n 0), (41, 3, .getfield 112), (44, 1, .ireturn), (45, 1, .aload_n 0), (46, 3, .getfield 123), (49, 1, .ireturn), (50, 1, .iconst 0), (51, 1, .istore_n 3), (52, 1, .iload_n 3), (53, 1, .aload_n 0), (54, 3, .getfield 112), (57, 3, .if_icmp .ge 26), (60, 1, .iload_n 2), (61, 1, .aload_n 0), (62, 3, .getfield 62), (65, 1, .iload_n 3), (66, 1, .baload), (67, 3, .ifCond .eq 7), (70, 1, .iconst 1), (71, 3, .goto 4), (74, 1, .iconst 0), (75, 1, .iadd), (76, 1, .istore_n 2), (77, 3, .iinc 3 1), (80, 3, .goto (-28)), (83, 1, .iload_n 2), (84, 1, .ireturn), (85, 1, .iconst 0), (86, 1, .istore_n 3), (87, 1, .iload_n 3), (88, 1, .aload_n 0), (89, 3, .getfield 112), (92, 3, .if_icmp .ge 25), (95, 1, .iload_n 2), (96, 1, .aload_n 0), (97, 1, .iload_n 3), (98, 3, .invokevirtual 142), (101, 3, .ifCond .eq 7), (104, 1, .iconst 1), (105, 3, .goto 4), (108, 1, .iconst 0), (109, 1, .iadd), (110, 1, .istore_n 2), (111, 3, .iinc 3 1), (114, 3, .goto (-27)), (117, 1, .iload_n 2), (118, 1, .ireturn), (119, 1, .aload_n 0), (120, 3, .getfield 201), (123, 1, .ireturn), (124, 1, .aload_n 0), (125, 3, .invokevirtual 130), (128, 1, .ireturn), (129, 1, .aload_n 0), (130, 1, .iconst 1), (131, 3, .invokevirtual 119)]
theorem ck_147_0 : pm_ck prog_10_method_55_code cd_147_0 = true := by decide +kernel
def cd_147_1 : List (Nat × Nat × Instr) := [(134, 1, .ireturn)]
theorem ck_147_1 : pm_ck prog_10_method_55_code cd_147_1 = true := by decide +kernel
def cd_147 : List (Nat × Nat × Instr) := cd_147_0 ++ (cd_147_1)
theorem ck_147 : pm_ck prog_10_method_55_code cd_147 = true := pm_ck_app ck_147_0 (ck_147_1)
def mt_147 : pmM := (⟨"LampFeastModel", "count", "(I)I"⟩, prog_10_method_55_code, 4, (some .int), 8, 1, cd_147)
def cd_148 : List (Nat × Nat × Instr) := [(0, 1, .iload_n 1), (1, 1, .iconst 1), (2, 1, .iconst 5), (3, 3, .invokestatic 115), (6, 3, .ifCond .eq 12), (9, 1, .aload_n 0), (10, 3, .getfield 78), (13, 1, .iload_n 1), (14, 1, .iaload), (15, 3, .goto 8), (18, 1, .aload_n 0), (19, 1, .iconst 1), (20, 3, .invokevirtual 119), (23, 1, .ireturn)]
theorem ck_148 : pm_ck prog_10_method_56_code cd_148 = true := by decide +kernel
def mt_148 : pmM := (⟨"LampFeastModel", "found", "(I)I"⟩, prog_10_method_56_code, 2, (some .int), 8, 1, cd_148)
def cd_149 : List (Nat × Nat × Instr) := [(0, 1, .iload_n 0), (1, 1, .iload_n 1), (2, 3, .if_icmp .lt 7), (5, 1, .iload_n 0), (6, 3, .goto 4), (9, 1, .iload_n 1), (10, 1, .ireturn)]
theorem ck_149 : pm_ck prog_11_method_65_code cd_149 = true := by decide +kernel
def mt_149 : pmM := (⟨"java/lang/Math", "max", "(II)I"⟩, prog_11_method_65_code, 2, (some .int), 10, 2, cd_149)
def cd_150 : List (Nat × Nat × Instr) := [(0, 1, .iload_n 0), (1, 1, .iload_n 1), (2, 3, .if_icmp .gt 7), (5, 1, .iload_n 0), (6, 3, .goto 4), (9, 1, .iload_n 1), (10, 1, .ireturn)]
theorem ck_150 : pm_ck prog_11_method_69_code cd_150 = true := by decide +kernel
def mt_150 : pmM := (⟨"java/lang/Math", "min", "(II)I"⟩, prog_11_method_69_code, 2, (some .int), 10, 2, cd_150)
def cd_151 : List (Nat × Nat × Instr) := [(0, 1, .iconst 0), (1, 1, .istore_n 2), (2, 1, .aload_n 0), (3, 1, .arraylength), (4, 1, .istore_n 3), (5, 1, .iload_n 2), (6, 1, .iload_n 3), (7, 3, .if_icmp .ge 13), (10, 1, .aload_n 0), (11, 1, .iload_n 2), (12, 1, .iload_n 1), (13, 1, .iastore), (14, 3, .iinc 2 1), (17, 3, .goto (-12)), (20, 1, .return_)]
theorem ck_151 : pm_ck prog_12_method_103_code cd_151 = true := by decide +kernel
def mt_151 : pmM := (⟨"java/util/Arrays", "fill", "([II)V"⟩, prog_12_method_103_code, 4, none, 11, 2, cd_151)
def cd_152_0 : List (Nat × Nat × Instr) := [(0, 3, .new 7), (3, 1, .dup), (4, 3, .invokespecial 9), (7, 1, .astore_n 1), (8, 3, .new 10), (11, 1, .dup), (12, 3, .invokespecial 12), (15, 1, .astore_n 2), (16, 1, .iconst 0), (17, 1, .istore_n 3), (18, 1, .iload_n 3), (19, 1, .aload_n 0), (20, 1, .arraylength), (21, 2, .bipush 7), (23, 1, .isub), (24, 3, .if_icmp .gt 1055), (27, 1, .aload_n 0), (28, 1, .iload_n 3), (29, 1, .iaload), (30, 2, .bipush 31), (32, 1, .iand), (33, 139, .tableswitch 1040 0 30 #[139, 162, 237, 270, 303, 336, 369, 402, 425, 438, 461, 474, 497, 540, 563, 612, 645, 678, 711, 724, 757, 770, 803, 826, 859, 892, 925, 958, 981, 994, 1017]), (172, 1, .aload_n 1), (173, 1, .aload_n 0), (174, 1, .iload_n 3), (175, 1, .iconst 1), (176, 1, .iadd), (177, 1, .iaload), (178, 3, .invokevirtual 13), (181, 1, .aload_n 2), (182, 1, .aload_n 0), (183, 1, .iload_n 3), (184, 1, .iconst 1), (185, 1, .iadd), (186, 1, .iaload), (187, 3, .invokevirtual 17), (190, 3, .if_icmp .eq 883), (193, 1, .iconst 0), (194, 1, .ireturn), (195, 1, .aload_n 1)]
theorem ck_152_0 : pm_ck code cd_152_0 = true := by decide +kernel
def cd_152_1 : List (Nat × Nat × Instr) := [(196, 1, .aload_n 0), (197, 1, .iload_n 3), (198, 1, .iconst 1), (199, 1, .iadd), (200, 1, .iaload), (201, 1, .aload_n 0), (202, 1, .iload_n 3), (203, 1, .iconst 2), (204, 1, .iadd), (205, 1, .iaload), (206, 1, .aload_n 0), (207, 1, .iload_n 3), (208, 1, .iconst 3), (209, 1, .iadd), (210, 1, .iaload), (211, 1, .aload_n 0), (212, 1, .iload_n 3), (213, 1, .iconst 4), (214, 1, .iadd), (215, 1, .iaload), (216, 1, .aload_n 0), (217, 1, .iload_n 3), (218, 1, .iconst 5), (219, 1, .iadd), (220, 1, .iaload), (221, 1, .aload_n 0), (222, 1, .iload_n 3), (223, 2, .bipush 6), (225, 1, .iadd), (226, 1, .iaload), (227, 3, .invokevirtual 18), (230, 1, .aload_n 2), (231, 1, .aload_n 0), (232, 1, .iload_n 3), (233, 1, .iconst 1), (234, 1, .iadd), (235, 1, .iaload), (236, 1, .aload_n 0), (237, 1, .iload_n 3), (238, 1, .iconst 2)]
theorem ck_152_1 : pm_ck code cd_152_1 = true := by decide +kernel
def cd_152_2 : List (Nat × Nat × Instr) := [(239, 1, .iadd), (240, 1, .iaload), (241, 1, .aload_n 0), (242, 1, .iload_n 3), (243, 1, .iconst 3), (244, 1, .iadd), (245, 1, .iaload), (246, 1, .aload_n 0), (247, 1, .iload_n 3), (248, 1, .iconst 4), (249, 1, .iadd), (250, 1, .iaload), (251, 1, .aload_n 0), (252, 1, .iload_n 3), (253, 1, .iconst 5), (254, 1, .iadd), (255, 1, .iaload), (256, 1, .aload_n 0), (257, 1, .iload_n 3), (258, 2, .bipush 6), (260, 1, .iadd), (261, 1, .iaload), (262, 3, .invokevirtual 22), (265, 3, .if_icmp .eq 808), (268, 1, .iconst 0), (269, 1, .ireturn), (270, 1, .aload_n 1), (271, 1, .aload_n 0), (272, 1, .iload_n 3), (273, 1, .iconst 1), (274, 1, .iadd), (275, 1, .iaload), (276, 1, .aload_n 0), (277, 1, .iload_n 3), (278, 1, .iconst 2), (279, 1, .iadd), (280, 1, .iaload), (281, 3, .invokevirtual 23), (284, 1, .aload_n 2), (285, 1, .aload_n 0)]
theorem ck_152_2 : pm_ck code cd_152_2 = true := by decide +kernel
def cd_152_3 : List (Nat × Nat × Instr) := [(286, 1, .iload_n 3), (287, 1, .iconst 1), (288, 1, .iadd), (289, 1, .iaload), (290, 1, .aload_n 0), (291, 1, .iload_n 3), (292, 1, .iconst 2), (293, 1, .iadd), (294, 1, .iaload), (295, 3, .invokevirtual 27), (298, 3, .if_icmp .eq 775), (301, 1, .iconst 0), (302, 1, .ireturn), (303, 1, .aload_n 1), (304, 1, .aload_n 0), (305, 1, .iload_n 3), (306, 1, .iconst 1), (307, 1, .iadd), (308, 1, .iaload), (309, 1, .aload_n 0), (310, 1, .iload_n 3), (311, 1, .iconst 2), (312, 1, .iadd), (313, 1, .iaload), (314, 3, .invokevirtual 28), (317, 1, .aload_n 2), (318, 1, .aload_n 0), (319, 1, .iload_n 3), (320, 1, .iconst 1), (321, 1, .iadd), (322, 1, .iaload), (323, 1, .aload_n 0), (324, 1, .iload_n 3), (325, 1, .iconst 2), (326, 1, .iadd), (327, 1, .iaload), (328, 3, .invokevirtual 31), (331, 3, .if_icmp .eq 742), (334, 1, .iconst 0), (335, 1, .ireturn)]
theorem ck_152_3 : pm_ck code cd_152_3 = true := by decide +kernel
def cd_152_4 : List (Nat × Nat × Instr) := [(336, 1, .aload_n 1), (337, 1, .aload_n 0), (338, 1, .iload_n 3), (339, 1, .iconst 1), (340, 1, .iadd), (341, 1, .iaload), (342, 1, .aload_n 0), (343, 1, .iload_n 3), (344, 1, .iconst 2), (345, 1, .iadd), (346, 1, .iaload), (347, 3, .invokevirtual 32), (350, 1, .aload_n 2), (351, 1, .aload_n 0), (352, 1, .iload_n 3), (353, 1, .iconst 1), (354, 1, .iadd), (355, 1, .iaload), (356, 1, .aload_n 0), (357, 1, .iload_n 3), (358, 1, .iconst 2), (359, 1, .iadd), (360, 1, .iaload), (361, 3, .invokevirtual 35), (364, 3, .if_icmp .eq 709), (367, 1, .iconst 0), (368, 1, .ireturn), (369, 1, .aload_n 1), (370, 1, .aload_n 0), (371, 1, .iload_n 3), (372, 1, .iconst 1), (373, 1, .iadd), (374, 1, .iaload), (375, 1, .aload_n 0), (376, 1, .iload_n 3), (377, 1, .iconst 2), (378, 1, .iadd), (379, 1, .iaload), (380, 3, .invokevirtual 36), (383, 1, .aload_n 2)]
theorem ck_152_4 : pm_ck code cd_152_4 = true := by decide +kernel
def cd_152_5 : List (Nat × Nat × Instr) := [(384, 1, .aload_n 0), (385, 1, .iload_n 3), (386, 1, .iconst 1), (387, 1, .iadd), (388, 1, .iaload), (389, 1, .aload_n 0), (390, 1, .iload_n 3), (391, 1, .iconst 2), (392, 1, .iadd), (393, 1, .iaload), (394, 3, .invokevirtual 39), (397, 3, .if_icmp .eq 676), (400, 1, .iconst 0), (401, 1, .ireturn), (402, 1, .aload_n 1), (403, 1, .aload_n 0), (404, 1, .iload_n 3), (405, 1, .iconst 1), (406, 1, .iadd), (407, 1, .iaload), (408, 1, .aload_n 0), (409, 1, .iload_n 3), (410, 1, .iconst 2), (411, 1, .iadd), (412, 1, .iaload), (413, 3, .invokevirtual 40), (416, 1, .aload_n 2), (417, 1, .aload_n 0), (418, 1, .iload_n 3), (419, 1, .iconst 1), (420, 1, .iadd), (421, 1, .iaload), (422, 1, .aload_n 0), (423, 1, .iload_n 3), (424, 1, .iconst 2), (425, 1, .iadd), (426, 1, .iaload), (427, 3, .invokevirtual 43), (430, 3, .if_icmp .eq 643), (433, 1, .iconst 0)]
theorem ck_152_5 : pm_ck code cd_152_5 = true := by decide +kernel
def cd_152_6 : List (Nat × Nat × Instr) := [(434, 1, .ireturn), (435, 1, .aload_n 1), (436, 1, .aload_n 0), (437, 1, .iload_n 3), (438, 1, .iconst 1), (439, 1, .iadd), (440, 1, .iaload), (441, 3, .invokevirtual 44), (444, 1, .aload_n 2), (445, 1, .aload_n 0), (446, 1, .iload_n 3), (447, 1, .iconst 1), (448, 1, .iadd), (449, 1, .iaload), (450, 3, .invokevirtual 47), (453, 3, .if_icmp .eq 620), (456, 1, .iconst 0), (457, 1, .ireturn), (458, 1, .aload_n 1), (459, 3, .invokevirtual 48), (462, 1, .aload_n 2), (463, 3, .invokevirtual 52), (466, 3, .if_icmp .eq 607), (469, 1, .iconst 0), (470, 1, .ireturn), (471, 1, .aload_n 1), (472, 1, .aload_n 0), (473, 1, .iload_n 3), (474, 1, .iconst 1), (475, 1, .iadd), (476, 1, .iaload), (477, 3, .invokevirtual 53), (480, 1, .aload_n 2), (481, 1, .aload_n 0), (482, 1, .iload_n 3), (483, 1, .iconst 1), (484, 1, .iadd), (485, 1, .iaload), (486, 3, .invokevirtual 56), (489, 3, .if_icmp .eq 584)]
theorem ck_152_6 : pm_ck code cd_152_6 = true := by decide +kernel
def cd_152_7 : List (Nat × Nat × Instr) := [(492, 1, .iconst 0), (493, 1, .ireturn), (494, 1, .aload_n 1), (495, 3, .invokevirtual 57), (498, 1, .aload_n 2), (499, 3, .invokevirtual 60), (502, 3, .if_icmp .eq 571), (505, 1, .iconst 0), (506, 1, .ireturn), (507, 1, .aload_n 1), (508, 1, .aload_n 0), (509, 1, .iload_n 3), (510, 1, .iconst 1), (511, 1, .iadd), (512, 1, .iaload), (513, 3, .invokevirtual 61), (516, 1, .aload_n 2), (517, 1, .aload_n 0), (518, 1, .iload_n 3), (519, 1, .iconst 1), (520, 1, .iadd), (521, 1, .iaload), (522, 3, .invokevirtual 64), (525, 3, .if_icmp .eq 548), (528, 1, .iconst 0), (529, 1, .ireturn), (530, 1, .aload_n 1), (531, 1, .aload_n 0), (532, 1, .iload_n 3), (533, 1, .iconst 1), (534, 1, .iadd), (535, 1, .iaload), (536, 1, .aload_n 0), (537, 1, .iload_n 3), (538, 1, .iconst 2), (539, 1, .iadd), (540, 1, .iaload), (541, 1, .aload_n 0), (542, 1, .iload_n 3), (543, 1, .iconst 3)]
theorem ck_152_7 : pm_ck code cd_152_7 = true := by decide +kernel
def cd_152_8 : List (Nat × Nat × Instr) := [(544, 1, .iadd), (545, 1, .iaload), (546, 3, .invokevirtual 65), (549, 1, .aload_n 2), (550, 1, .aload_n 0), (551, 1, .iload_n 3), (552, 1, .iconst 1), (553, 1, .iadd), (554, 1, .iaload), (555, 1, .aload_n 0), (556, 1, .iload_n 3), (557, 1, .iconst 2), (558, 1, .iadd), (559, 1, .iaload), (560, 1, .aload_n 0), (561, 1, .iload_n 3), (562, 1, .iconst 3), (563, 1, .iadd), (564, 1, .iaload), (565, 3, .invokevirtual 69), (568, 3, .if_icmp .eq 505), (571, 1, .iconst 0), (572, 1, .ireturn), (573, 1, .aload_n 1), (574, 1, .aload_n 0), (575, 1, .iload_n 3), (576, 1, .iconst 1), (577, 1, .iadd), (578, 1, .iaload), (579, 3, .invokevirtual 70), (582, 1, .aload_n 2), (583, 1, .aload_n 0), (584, 1, .iload_n 3), (585, 1, .iconst 1), (586, 1, .iadd), (587, 1, .iaload), (588, 3, .invokevirtual 73), (591, 3, .if_icmp .eq 482), (594, 1, .iconst 0), (595, 1, .ireturn)]
theorem ck_152_8 : pm_ck code cd_152_8 = true := by decide +kernel
def cd_152_9 : List (Nat × Nat × Instr) := [(596, 1, .aload_n 1), (597, 1, .aload_n 0), (598, 1, .iload_n 3), (599, 1, .iconst 1), (600, 1, .iadd), (601, 1, .iaload), (602, 1, .aload_n 0), (603, 1, .iload_n 3), (604, 1, .iconst 2), (605, 1, .iadd), (606, 1, .iaload), (607, 3, .ifCond .eq 7), (610, 1, .iconst 1), (611, 3, .goto 4), (614, 1, .iconst 0), (615, 3, .invokevirtual 74), (618, 1, .aload_n 2), (619, 1, .aload_n 0), (620, 1, .iload_n 3), (621, 1, .iconst 1), (622, 1, .iadd), (623, 1, .iaload), (624, 1, .aload_n 0), (625, 1, .iload_n 3), (626, 1, .iconst 2), (627, 1, .iadd), (628, 1, .iaload), (629, 3, .ifCond .eq 7), (632, 1, .iconst 1), (633, 3, .goto 4), (636, 1, .iconst 0), (637, 3, .invokevirtual 78), (640, 3, .if_icmp .eq 433), (643, 1, .iconst 0), (644, 1, .ireturn), (645, 1, .aload_n 1), (646, 1, .aload_n 0), (647, 1, .iload_n 3), (648, 1, .iconst 1), (649, 1, .iadd)]
theorem ck_152_9 : pm_ck code cd_152_9 = true := by decide +kernel
def cd_152_10 : List (Nat × Nat × Instr) := [(650, 1, .iaload), (651, 1, .aload_n 0), (652, 1, .iload_n 3), (653, 1, .iconst 2), (654, 1, .iadd), (655, 1, .iaload), (656, 3, .invokevirtual 79), (659, 1, .aload_n 2), (660, 1, .aload_n 0), (661, 1, .iload_n 3), (662, 1, .iconst 1), (663, 1, .iadd), (664, 1, .iaload), (665, 1, .aload_n 0), (666, 1, .iload_n 3), (667, 1, .iconst 2), (668, 1, .iadd), (669, 1, .iaload), (670, 3, .invokevirtual 82), (673, 3, .if_icmp .eq 400), (676, 1, .iconst 0), (677, 1, .ireturn), (678, 1, .aload_n 1), (679, 1, .aload_n 0), (680, 1, .iload_n 3), (681, 1, .iconst 1), (682, 1, .iadd), (683, 1, .iaload), (684, 1, .aload_n 0), (685, 1, .iload_n 3), (686, 1, .iconst 2), (687, 1, .iadd), (688, 1, .iaload), (689, 3, .invokevirtual 83), (692, 1, .aload_n 2), (693, 1, .aload_n 0), (694, 1, .iload_n 3), (695, 1, .iconst 1), (696, 1, .iadd), (697, 1, .iaload)]
theorem ck_152_10 : pm_ck code cd_152_10 = true := by decide +kernel
def cd_152_11 : List (Nat × Nat × Instr) := [(698, 1, .aload_n 0), (699, 1, .iload_n 3), (700, 1, .iconst 2), (701, 1, .iadd), (702, 1, .iaload), (703, 3, .invokevirtual 86), (706, 3, .if_icmp .eq 367), (709, 1, .iconst 0), (710, 1, .ireturn), (711, 1, .aload_n 1), (712, 1, .aload_n 0), (713, 1, .iload_n 3), (714, 1, .iconst 1), (715, 1, .iadd), (716, 1, .iaload), (717, 1, .aload_n 0), (718, 1, .iload_n 3), (719, 1, .iconst 2), (720, 1, .iadd), (721, 1, .iaload), (722, 3, .invokevirtual 87), (725, 1, .aload_n 2), (726, 1, .aload_n 0), (727, 1, .iload_n 3), (728, 1, .iconst 1), (729, 1, .iadd), (730, 1, .iaload), (731, 1, .aload_n 0), (732, 1, .iload_n 3), (733, 1, .iconst 2), (734, 1, .iadd), (735, 1, .iaload), (736, 3, .invokevirtual 90), (739, 3, .if_icmp .eq 334), (742, 1, .iconst 0), (743, 1, .ireturn), (744, 1, .aload_n 1), (745, 3, .invokevirtual 91), (748, 1, .aload_n 2), (749, 3, .invokevirtual 94)]
theorem ck_152_11 : pm_ck code cd_152_11 = true := by decide +kernel
def cd_152_12 : List (Nat × Nat × Instr) := [(752, 3, .if_icmp .eq 321), (755, 1, .iconst 0), (756, 1, .ireturn), (757, 1, .aload_n 1), (758, 1, .aload_n 0), (759, 1, .iload_n 3), (760, 1, .iconst 1), (761, 1, .iadd), (762, 1, .iaload), (763, 1, .aload_n 0), (764, 1, .iload_n 3), (765, 1, .iconst 2), (766, 1, .iadd), (767, 1, .iaload), (768, 3, .invokevirtual 95), (771, 1, .aload_n 2), (772, 1, .aload_n 0), (773, 1, .iload_n 3), (774, 1, .iconst 1), (775, 1, .iadd), (776, 1, .iaload), (777, 1, .aload_n 0), (778, 1, .iload_n 3), (779, 1, .iconst 2), (780, 1, .iadd), (781, 1, .iaload), (782, 3, .invokevirtual 98), (785, 3, .if_icmp .eq 288), (788, 1, .iconst 0), (789, 1, .ireturn), (790, 1, .aload_n 1), (791, 3, .invokevirtual 99), (794, 1, .aload_n 2), (795, 3, .invokevirtual 102), (798, 3, .if_icmp .eq 275), (801, 1, .iconst 0), (802, 1, .ireturn), (803, 1, .aload_n 1), (804, 1, .aload_n 0), (805, 1, .iload_n 3)]
theorem ck_152_12 : pm_ck code cd_152_12 = true := by decide +kernel
def cd_152_13 : List (Nat × Nat × Instr) := [(806, 1, .iconst 1), (807, 1, .iadd), (808, 1, .iaload), (809, 1, .aload_n 0), (810, 1, .iload_n 3), (811, 1, .iconst 2), (812, 1, .iadd), (813, 1, .iaload), (814, 3, .invokevirtual 103), (817, 1, .aload_n 2), (818, 1, .aload_n 0), (819, 1, .iload_n 3), (820, 1, .iconst 1), (821, 1, .iadd), (822, 1, .iaload), (823, 1, .aload_n 0), (824, 1, .iload_n 3), (825, 1, .iconst 2), (826, 1, .iadd), (827, 1, .iaload), (828, 3, .invokevirtual 106), (831, 3, .if_icmp .eq 242), (834, 1, .iconst 0), (835, 1, .ireturn), (836, 1, .aload_n 1), (837, 1, .aload_n 0), (838, 1, .iload_n 3), (839, 1, .iconst 1), (840, 1, .iadd), (841, 1, .iaload), (842, 3, .invokevirtual 107), (845, 1, .aload_n 2), (846, 1, .aload_n 0), (847, 1, .iload_n 3), (848, 1, .iconst 1), (849, 1, .iadd), (850, 1, .iaload), (851, 3, .invokevirtual 110), (854, 3, .if_icmp .eq 219), (857, 1, .iconst 0)]
theorem ck_152_13 : pm_ck code cd_152_13 = true := by decide +kernel
def cd_152_14 : List (Nat × Nat × Instr) := [(858, 1, .ireturn), (859, 1, .aload_n 1), (860, 1, .aload_n 0), (861, 1, .iload_n 3), (862, 1, .iconst 1), (863, 1, .iadd), (864, 1, .iaload), (865, 1, .aload_n 0), (866, 1, .iload_n 3), (867, 1, .iconst 2), (868, 1, .iadd), (869, 1, .iaload), (870, 3, .invokevirtual 111), (873, 1, .aload_n 2), (874, 1, .aload_n 0), (875, 1, .iload_n 3), (876, 1, .iconst 1), (877, 1, .iadd), (878, 1, .iaload), (879, 1, .aload_n 0), (880, 1, .iload_n 3), (881, 1, .iconst 2), (882, 1, .iadd), (883, 1, .iaload), (884, 3, .invokevirtual 114), (887, 3, .if_icmp .eq 186), (890, 1, .iconst 0), (891, 1, .ireturn), (892, 1, .aload_n 1), (893, 1, .aload_n 0), (894, 1, .iload_n 3), (895, 1, .iconst 1), (896, 1, .iadd), (897, 1, .iaload), (898, 1, .aload_n 0), (899, 1, .iload_n 3), (900, 1, .iconst 2), (901, 1, .iadd), (902, 1, .iaload), (903, 3, .invokevirtual 115)]
theorem ck_152_14 : pm_ck code cd_152_14 = true := by decide +kernel
def cd_152_15 : List (Nat × Nat × Instr) := [(906, 1, .aload_n 2), (907, 1, .aload_n 0), (908, 1, .iload_n 3), (909, 1, .iconst 1), (910, 1, .iadd), (911, 1, .iaload), (912, 1, .aload_n 0), (913, 1, .iload_n 3), (914, 1, .iconst 2), (915, 1, .iadd), (916, 1, .iaload), (917, 3, .invokevirtual 118), (920, 3, .if_icmp .eq 153), (923, 1, .iconst 0), (924, 1, .ireturn), (925, 1, .aload_n 1), (926, 1, .aload_n 0), (927, 1, .iload_n 3), (928, 1, .iconst 1), (929, 1, .iadd), (930, 1, .iaload), (931, 1, .aload_n 0), (932, 1, .iload_n 3), (933, 1, .iconst 2), (934, 1, .iadd), (935, 1, .iaload), (936, 3, .invokevirtual 119), (939, 1, .aload_n 2), (940, 1, .aload_n 0), (941, 1, .iload_n 3), (942, 1, .iconst 1), (943, 1, .iadd), (944, 1, .iaload), (945, 1, .aload_n 0), (946, 1, .iload_n 3), (947, 1, .iconst 2), (948, 1, .iadd), (949, 1, .iaload), (950, 3, .invokevirtual 122), (953, 3, .if_icmp .eq 120)]
theorem ck_152_15 : pm_ck code cd_152_15 = true := by decide +kernel
def cd_152_16 : List (Nat × Nat × Instr) := [(956, 1, .iconst 0), (957, 1, .ireturn), (958, 1, .aload_n 1), (959, 1, .aload_n 0), (960, 1, .iload_n 3), (961, 1, .iconst 1), (962, 1, .iadd), (963, 1, .iaload), (964, 1, .aload_n 0), (965, 1, .iload_n 3), (966, 1, .iconst 2), (967, 1, .iadd), (968, 1, .iaload), (969, 3, .invokevirtual 123), (972, 1, .aload_n 2), (973, 1, .aload_n 0), (974, 1, .iload_n 3), (975, 1, .iconst 1), (976, 1, .iadd), (977, 1, .iaload), (978, 1, .aload_n 0), (979, 1, .iload_n 3), (980, 1, .iconst 2), (981, 1, .iadd), (982, 1, .iaload), (983, 3, .invokevirtual 126), (986, 3, .if_icmp .eq 87), (989, 1, .iconst 0), (990, 1, .ireturn), (991, 1, .aload_n 1), (992, 1, .aload_n 0), (993, 1, .iload_n 3), (994, 1, .iconst 1), (995, 1, .iadd), (996, 1, .iaload), (997, 3, .invokevirtual 127), (1000, 1, .aload_n 2), (1001, 1, .aload_n 0), (1002, 1, .iload_n 3), (1003, 1, .iconst 1)]
theorem ck_152_16 : pm_ck code cd_152_16 = true := by decide +kernel
def cd_152_17 : List (Nat × Nat × Instr) := [(1004, 1, .iadd), (1005, 1, .iaload), (1006, 3, .invokevirtual 130), (1009, 3, .if_icmp .eq 64), (1012, 1, .iconst 0), (1013, 1, .ireturn), (1014, 1, .aload_n 1), (1015, 3, .invokevirtual 131), (1018, 1, .aload_n 2), (1019, 3, .invokevirtual 134), (1022, 3, .if_icmp .eq 51), (1025, 1, .iconst 0), (1026, 1, .ireturn), (1027, 1, .aload_n 1), (1028, 1, .aload_n 0), (1029, 1, .iload_n 3), (1030, 1, .iconst 1), (1031, 1, .iadd), (1032, 1, .iaload), (1033, 3, .invokevirtual 135), (1036, 1, .aload_n 2), (1037, 1, .aload_n 0), (1038, 1, .iload_n 3), (1039, 1, .iconst 1), (1040, 1, .iadd), (1041, 1, .iaload), (1042, 3, .invokevirtual 138), (1045, 3, .if_icmp .eq 28), (1048, 1, .iconst 0), (1049, 1, .ireturn), (1050, 1, .aload_n 1), (1051, 1, .aload_n 0), (1052, 1, .iload_n 3), (1053, 1, .iconst 1), (1054, 1, .iadd), (1055, 1, .iaload), (1056, 3, .invokevirtual 139), (1059, 1, .aload_n 2), (1060, 1, .aload_n 0), (1061, 1, .iload_n 3)]
theorem ck_152_17 : pm_ck code cd_152_17 = true := by decide +kernel
def cd_152_18 : List (Nat × Nat × Instr) := [(1062, 1, .iconst 1), (1063, 1, .iadd), (1064, 1, .iaload), (1065, 3, .invokevirtual 142), (1068, 3, .if_icmp .eq 5), (1071, 1, .iconst 0), (1072, 1, .ireturn), (1073, 3, .iinc 3 7), (1076, 3, .goto (-1058)), (1079, 1, .iconst 1), (1080, 1, .ireturn)]
theorem ck_152_18 : pm_ck code cd_152_18 = true := by decide +kernel
def cd_152 : List (Nat × Nat × Instr) := cd_152_0 ++ (cd_152_1 ++ (cd_152_2 ++ (cd_152_3 ++ (cd_152_4 ++ (cd_152_5 ++ (cd_152_6 ++ (cd_152_7 ++ (cd_152_8 ++ (cd_152_9 ++ (cd_152_10 ++ (cd_152_11 ++ (cd_152_12 ++ (cd_152_13 ++ (cd_152_14 ++ (cd_152_15 ++ (cd_152_16 ++ (cd_152_17 ++ (cd_152_18))))))))))))))))))
theorem ck_152 : pm_ck code cd_152 = true := pm_ck_app ck_152_0 (pm_ck_app ck_152_1 (pm_ck_app ck_152_2 (pm_ck_app ck_152_3 (pm_ck_app ck_152_4 (pm_ck_app ck_152_5 (pm_ck_app ck_152_6 (pm_ck_app ck_152_7 (pm_ck_app ck_152_8 (pm_ck_app ck_152_9 (pm_ck_app ck_152_10 (pm_ck_app ck_152_11 (pm_ck_app ck_152_12 (pm_ck_app ck_152_13 (pm_ck_app ck_152_14 (pm_ck_app ck_152_15 (pm_ck_app ck_152_16 (pm_ck_app ck_152_17 (ck_152_18))))))))))))))))))
def mt_152 : pmM := (⟨"LampFeastLaw", "law", "([I)Z"⟩, code, 4, (some .boolean), 9, 1, cd_152)
def pm_mts : List pmM := [mt_0, mt_1, mt_2, mt_3, mt_4, mt_5, mt_6, mt_7, mt_8, mt_9, mt_10, mt_11, mt_12, mt_13, mt_14, mt_15, mt_16, mt_17, mt_18, mt_19, mt_20, mt_21, mt_22, mt_23, mt_24, mt_25, mt_26, mt_27, mt_28, mt_29, mt_30, mt_31, mt_32, mt_33, mt_34, mt_35, mt_36, mt_37, mt_38, mt_39, mt_40, mt_41, mt_42, mt_43, mt_44, mt_45, mt_46, mt_47, mt_48, mt_49, mt_50, mt_51, mt_52, mt_53, mt_54, mt_55, mt_56, mt_57, mt_58, mt_59, mt_60, mt_61, mt_62, mt_63, mt_64, mt_65, mt_66, mt_67, mt_68, mt_69, mt_70, mt_71, mt_72, mt_73, mt_74, mt_75, mt_76, mt_77, mt_78, mt_79, mt_80, mt_81, mt_82, mt_83, mt_84, mt_85, mt_86, mt_87, mt_88, mt_89, mt_90, mt_91, mt_92, mt_93, mt_94, mt_95, mt_96, mt_97, mt_98, mt_99, mt_100, mt_101, mt_102, mt_103, mt_104, mt_105, mt_106, mt_107, mt_108, mt_109, mt_110, mt_111, mt_112, mt_113, mt_114, mt_115, mt_116, mt_117, mt_118, mt_119, mt_120, mt_121, mt_122, mt_123, mt_124, mt_125, mt_126, mt_127, mt_128, mt_129, mt_130, mt_131, mt_132, mt_133, mt_134, mt_135, mt_136, mt_137, mt_138, mt_139, mt_140, mt_141, mt_142, mt_143, mt_144, mt_145, mt_146, mt_147, mt_148, mt_149, mt_150, mt_151, mt_152]
def pm_mt (y : Nat) : Option pmM := pm_mts[y]?
end
section
/-! what the words say of methods, links, kinds -/
def pm_okM (M : pmM) : Prop := plainName M.1.cls = true ∧ (M.1.cls ≠ "java/lang/invoke/MethodHandle" ∧ M.1.cls ≠ "java/lang/invoke/VarHandle") ∧ (parseMethodDescriptor M.1.desc).map (fun d => d.parameters.length) = some M.2.2.2.2.2.1 ∧ M.2.2.1 ≤ 21 ∧ Cond.code M.1 M.2.1 M.2.2.1 M.2.2.2.1 ∈ lw_tbl ∧ Cond.initialized M.1.cls ∈ lw_tbl ∧ pm_cn M.2.2.2.2.1 = M.1.cls ∧ pm_ck M.2.1 M.2.2.2.2.2.2 = true
def pm_okV (own : Nat) (e : Nat × Nat × Nat × Nat × Nat) : Prop := ∃ M, pm_mt e.2.1 = some M ∧ pm_okM M ∧ M.2.2.2.2.2.1 = e.2.2.1 ∧ M.2.2.2.2.1 = e.2.2.2.2 ∧ Cond.methodLink (pm_cn own) e.1 M.1 ∈ lw_tbl ∧ Cond.instanceMethod M.1 ∈ lw_tbl ∧ Cond.selects M.1.cls M.1 M.1 ∈ lw_tbl
def pm_okS (own : Nat) (e : Nat × Nat × Nat × Nat × Nat) : Prop := ∃ M, pm_mt e.2.1 = some M ∧ pm_okM M ∧ M.2.2.2.2.2.1 = e.2.2.1 ∧ (Cond.methodLink (pm_cn own) e.1 M.1 ∈ lw_tbl ∨ ∃ host, Cond.methodLinkNest (pm_cn own) e.1 M.1 host ∈ lw_tbl) ∧ Cond.static M.1 ∈ lw_tbl
def pm_okI (own : Nat) (e : Nat × Nat × Nat × Nat × Nat) : Prop := ∃ M, pm_mt e.2.1 = some M ∧ pm_okM M ∧ M.2.2.2.2.2.1 = e.2.2.1 ∧ Cond.methodLink (pm_cn own) e.1 M.1 ∈ lw_tbl ∧ Cond.instanceMethod M.1 ∈ lw_tbl ∧ M.1.name = "<init>" ∧ M.2.2.2.1 = none
set_option maxRecDepth 50000 in
theorem ok_0 : pm_okM mt_0 := ⟨by decide +kernel, ⟨by decide +kernel, by decide +kernel⟩, by decide +kernel, by decide, List.mem_of_getElem? (i := 263) rfl, List.mem_of_getElem? (i := 47) (by decide +kernel), by decide +kernel, ck_0⟩
set_option maxRecDepth 50000 in
theorem ok_1 : pm_okM mt_1 := ⟨by decide +kernel, ⟨by decide +kernel, by decide +kernel⟩, by decide +kernel, by decide, List.mem_of_getElem? (i := 624) rfl, List.mem_of_getElem? (i := 47) (by decide +kernel), by decide +kernel, ck_1⟩
set_option maxRecDepth 50000 in
theorem ok_2 : pm_okM mt_2 := ⟨by decide +kernel, ⟨by decide +kernel, by decide +kernel⟩, by decide +kernel, by decide, List.mem_of_getElem? (i := 620) rfl, List.mem_of_getElem? (i := 47) (by decide +kernel), by decide +kernel, ck_2⟩
set_option maxRecDepth 50000 in
theorem ok_3 : pm_okM mt_3 := ⟨by decide +kernel, ⟨by decide +kernel, by decide +kernel⟩, by decide +kernel, by decide, List.mem_of_getElem? (i := 628) rfl, List.mem_of_getElem? (i := 47) (by decide +kernel), by decide +kernel, ck_3⟩
set_option maxRecDepth 50000 in
theorem ok_4 : pm_okM mt_4 := ⟨by decide +kernel, ⟨by decide +kernel, by decide +kernel⟩, by decide +kernel, by decide, List.mem_of_getElem? (i := 164) rfl, List.mem_of_getElem? (i := 43) (by decide +kernel), by decide +kernel, ck_4⟩
set_option maxRecDepth 50000 in
theorem ok_5 : pm_okM mt_5 := ⟨by decide +kernel, ⟨by decide +kernel, by decide +kernel⟩, by decide +kernel, by decide, List.mem_of_getElem? (i := 394) rfl, List.mem_of_getElem? (i := 43) (by decide +kernel), by decide +kernel, ck_5⟩
set_option maxRecDepth 50000 in
theorem ok_6 : pm_okM mt_6 := ⟨by decide +kernel, ⟨by decide +kernel, by decide +kernel⟩, by decide +kernel, by decide, List.mem_of_getElem? (i := 398) rfl, List.mem_of_getElem? (i := 43) (by decide +kernel), by decide +kernel, ck_6⟩
set_option maxRecDepth 50000 in
theorem ok_7 : pm_okM mt_7 := ⟨by decide +kernel, ⟨by decide +kernel, by decide +kernel⟩, by decide +kernel, by decide, List.mem_of_getElem? (i := 402) rfl, List.mem_of_getElem? (i := 43) (by decide +kernel), by decide +kernel, ck_7⟩
set_option maxRecDepth 50000 in
theorem ok_8 : pm_okM mt_8 := ⟨by decide +kernel, ⟨by decide +kernel, by decide +kernel⟩, by decide +kernel, by decide, List.mem_of_getElem? (i := 410) rfl, List.mem_of_getElem? (i := 43) (by decide +kernel), by decide +kernel, ck_8⟩
set_option maxRecDepth 50000 in
theorem ok_9 : pm_okM mt_9 := ⟨by decide +kernel, ⟨by decide +kernel, by decide +kernel⟩, by decide +kernel, by decide, List.mem_of_getElem? (i := 431) rfl, List.mem_of_getElem? (i := 43) (by decide +kernel), by decide +kernel, ck_9⟩
set_option maxRecDepth 50000 in
theorem ok_10 : pm_okM mt_10 := ⟨by decide +kernel, ⟨by decide +kernel, by decide +kernel⟩, by decide +kernel, by decide, List.mem_of_getElem? (i := 448) rfl, List.mem_of_getElem? (i := 43) (by decide +kernel), by decide +kernel, ck_10⟩
set_option maxRecDepth 50000 in
theorem ok_11 : pm_okM mt_11 := ⟨by decide +kernel, ⟨by decide +kernel, by decide +kernel⟩, by decide +kernel, by decide, List.mem_of_getElem? (i := 453) rfl, List.mem_of_getElem? (i := 43) (by decide +kernel), by decide +kernel, ck_11⟩
set_option maxRecDepth 50000 in
theorem ok_12 : pm_okM mt_12 := ⟨by decide +kernel, ⟨by decide +kernel, by decide +kernel⟩, by decide +kernel, by decide, List.mem_of_getElem? (i := 63) rfl, List.mem_of_getElem? (i := 41) (by decide +kernel), by decide +kernel, ck_12⟩
set_option maxRecDepth 50000 in
theorem ok_13 : pm_okM mt_13 := ⟨by decide +kernel, ⟨by decide +kernel, by decide +kernel⟩, by decide +kernel, by decide, List.mem_of_getElem? (i := 649) rfl, List.mem_of_getElem? (i := 41) (by decide +kernel), by decide +kernel, ck_13⟩
set_option maxRecDepth 50000 in
theorem ok_14 : pm_okM mt_14 := ⟨by decide +kernel, ⟨by decide +kernel, by decide +kernel⟩, by decide +kernel, by decide, List.mem_of_getElem? (i := 330) rfl, List.mem_of_getElem? (i := 41) (by decide +kernel), by decide +kernel, ck_14⟩
set_option maxRecDepth 50000 in
theorem ok_15 : pm_okM mt_15 := ⟨by decide +kernel, ⟨by decide +kernel, by decide +kernel⟩, by decide +kernel, by decide, List.mem_of_getElem? (i := 349) rfl, List.mem_of_getElem? (i := 41) (by decide +kernel), by decide +kernel, ck_15⟩
set_option maxRecDepth 50000 in
theorem ok_16 : pm_okM mt_16 := ⟨by decide +kernel, ⟨by decide +kernel, by decide +kernel⟩, by decide +kernel, by decide, List.mem_of_getElem? (i := 358) rfl, List.mem_of_getElem? (i := 41) (by decide +kernel), by decide +kernel, ck_16⟩
set_option maxRecDepth 50000 in
theorem ok_17 : pm_okM mt_17 := ⟨by decide +kernel, ⟨by decide +kernel, by decide +kernel⟩, by decide +kernel, by decide, List.mem_of_getElem? (i := 645) rfl, List.mem_of_getElem? (i := 41) (by decide +kernel), by decide +kernel, ck_17⟩
set_option maxRecDepth 50000 in
theorem ok_18 : pm_okM mt_18 := ⟨by decide +kernel, ⟨by decide +kernel, by decide +kernel⟩, by decide +kernel, by decide, List.mem_of_getElem? (i := 198) rfl, List.mem_of_getElem? (i := 44) (by decide +kernel), by decide +kernel, ck_18⟩
set_option maxRecDepth 50000 in
theorem ok_19 : pm_okM mt_19 := ⟨by decide +kernel, ⟨by decide +kernel, by decide +kernel⟩, by decide +kernel, by decide, List.mem_of_getElem? (i := 462) rfl, List.mem_of_getElem? (i := 44) (by decide +kernel), by decide +kernel, ck_19⟩
set_option maxRecDepth 50000 in
theorem ok_20 : pm_okM mt_20 := ⟨by decide +kernel, ⟨by decide +kernel, by decide +kernel⟩, by decide +kernel, by decide, List.mem_of_getElem? (i := 480) rfl, List.mem_of_getElem? (i := 44) (by decide +kernel), by decide +kernel, ck_20⟩
set_option maxRecDepth 50000 in
theorem ok_21 : pm_okM mt_21 := ⟨by decide +kernel, ⟨by decide +kernel, by decide +kernel⟩, by decide +kernel, by decide, List.mem_of_getElem? (i := 468) rfl, List.mem_of_getElem? (i := 44) (by decide +kernel), by decide +kernel, ck_21⟩
set_option maxRecDepth 50000 in
theorem ok_22 : pm_okM mt_22 := ⟨by decide +kernel, ⟨by decide +kernel, by decide +kernel⟩, by decide +kernel, by decide, List.mem_of_getElem? (i := 484) rfl, List.mem_of_getElem? (i := 44) (by decide +kernel), by decide +kernel, ck_22⟩
set_option maxRecDepth 50000 in
theorem ok_23 : pm_okM mt_23 := ⟨by decide +kernel, ⟨by decide +kernel, by decide +kernel⟩, by decide +kernel, by decide, List.mem_of_getElem? (i := 473) rfl, List.mem_of_getElem? (i := 44) (by decide +kernel), by decide +kernel, ck_23⟩
set_option maxRecDepth 50000 in
theorem ok_24 : pm_okM mt_24 := ⟨by decide +kernel, ⟨by decide +kernel, by decide +kernel⟩, by decide +kernel, by decide, List.mem_of_getElem? (i := 489) rfl, List.mem_of_getElem? (i := 44) (by decide +kernel), by decide +kernel, ck_24⟩
set_option maxRecDepth 50000 in
theorem ok_25 : pm_okM mt_25 := ⟨by decide +kernel, ⟨by decide +kernel, by decide +kernel⟩, by decide +kernel, by decide, List.mem_of_getElem? (i := 493) rfl, List.mem_of_getElem? (i := 44) (by decide +kernel), by decide +kernel, ck_25⟩
set_option maxRecDepth 50000 in
theorem ok_26 : pm_okM mt_26 := ⟨by decide +kernel, ⟨by decide +kernel, by decide +kernel⟩, by decide +kernel, by decide, List.mem_of_getElem? (i := 502) rfl, List.mem_of_getElem? (i := 44) (by decide +kernel), by decide +kernel, ck_26⟩
set_option maxRecDepth 50000 in
theorem ok_27 : pm_okM mt_27 := ⟨by decide +kernel, ⟨by decide +kernel, by decide +kernel⟩, by decide +kernel, by decide, List.mem_of_getElem? (i := 218) rfl, List.mem_of_getElem? (i := 45) (by decide +kernel), by decide +kernel, ck_27⟩
set_option maxRecDepth 50000 in
theorem ok_28 : pm_okM mt_28 := ⟨by decide +kernel, ⟨by decide +kernel, by decide +kernel⟩, by decide +kernel, by decide, List.mem_of_getElem? (i := 366) rfl, List.mem_of_getElem? (i := 45) (by decide +kernel), by decide +kernel, ck_28⟩
set_option maxRecDepth 50000 in
theorem ok_29 : pm_okM mt_29 := ⟨by decide +kernel, ⟨by decide +kernel, by decide +kernel⟩, by decide +kernel, by decide, List.mem_of_getElem? (i := 550) rfl, List.mem_of_getElem? (i := 45) (by decide +kernel), by decide +kernel, ck_29⟩
set_option maxRecDepth 50000 in
theorem ok_30 : pm_okM mt_30 := ⟨by decide +kernel, ⟨by decide +kernel, by decide +kernel⟩, by decide +kernel, by decide, List.mem_of_getElem? (i := 546) rfl, List.mem_of_getElem? (i := 45) (by decide +kernel), by decide +kernel, ck_30⟩
set_option maxRecDepth 50000 in
theorem ok_31 : pm_okM mt_31 := ⟨by decide +kernel, ⟨by decide +kernel, by decide +kernel⟩, by decide +kernel, by decide, List.mem_of_getElem? (i := 558) rfl, List.mem_of_getElem? (i := 45) (by decide +kernel), by decide +kernel, ck_31⟩
set_option maxRecDepth 50000 in
theorem ok_32 : pm_okM mt_32 := ⟨by decide +kernel, ⟨by decide +kernel, by decide +kernel⟩, by decide +kernel, by decide, List.mem_of_getElem? (i := 562) rfl, List.mem_of_getElem? (i := 45) (by decide +kernel), by decide +kernel, ck_32⟩
set_option maxRecDepth 50000 in
theorem ok_33 : pm_okM mt_33 := ⟨by decide +kernel, ⟨by decide +kernel, by decide +kernel⟩, by decide +kernel, by decide, List.mem_of_getElem? (i := 566) rfl, List.mem_of_getElem? (i := 45) (by decide +kernel), by decide +kernel, ck_33⟩
set_option maxRecDepth 50000 in
theorem ok_34 : pm_okM mt_34 := ⟨by decide +kernel, ⟨by decide +kernel, by decide +kernel⟩, by decide +kernel, by decide, List.mem_of_getElem? (i := 575) rfl, List.mem_of_getElem? (i := 45) (by decide +kernel), by decide +kernel, ck_34⟩
set_option maxRecDepth 50000 in
theorem ok_35 : pm_okM mt_35 := ⟨by decide +kernel, ⟨by decide +kernel, by decide +kernel⟩, by decide +kernel, by decide, List.mem_of_getElem? (i := 603) rfl, List.mem_of_getElem? (i := 45) (by decide +kernel), by decide +kernel, ck_35⟩
set_option maxRecDepth 50000 in
theorem ok_36 : pm_okM mt_36 := ⟨by decide +kernel, ⟨by decide +kernel, by decide +kernel⟩, by decide +kernel, by decide, List.mem_of_getElem? (i := 590) rfl, List.mem_of_getElem? (i := 45) (by decide +kernel), by decide +kernel, ck_36⟩
set_option maxRecDepth 50000 in
theorem ok_37 : pm_okM mt_37 := ⟨by decide +kernel, ⟨by decide +kernel, by decide +kernel⟩, by decide +kernel, by decide, List.mem_of_getElem? (i := 595) rfl, List.mem_of_getElem? (i := 45) (by decide +kernel), by decide +kernel, ck_37⟩
set_option maxRecDepth 50000 in
theorem ok_38 : pm_okM mt_38 := ⟨by decide +kernel, ⟨by decide +kernel, by decide +kernel⟩, by decide +kernel, by decide, List.mem_of_getElem? (i := 599) rfl, List.mem_of_getElem? (i := 45) (by decide +kernel), by decide +kernel, ck_38⟩
set_option maxRecDepth 50000 in
theorem ok_39 : pm_okM mt_39 := ⟨by decide +kernel, ⟨by decide +kernel, by decide +kernel⟩, by decide +kernel, by decide, List.mem_of_getElem? (i := 91) rfl, List.mem_of_getElem? (i := 42) (by decide +kernel), by decide +kernel, ck_39⟩
set_option maxRecDepth 50000 in
theorem ok_40 : pm_okM mt_40 := ⟨by decide +kernel, ⟨by decide +kernel, by decide +kernel⟩, by decide +kernel, by decide, List.mem_of_getElem? (i := 345) rfl, List.mem_of_getElem? (i := 42) (by decide +kernel), by decide +kernel, ck_40⟩
set_option maxRecDepth 50000 in
theorem ok_41 : pm_okM mt_41 := ⟨by decide +kernel, ⟨by decide +kernel, by decide +kernel⟩, by decide +kernel, by decide, List.mem_of_getElem? (i := 519) rfl, List.mem_of_getElem? (i := 42) (by decide +kernel), by decide +kernel, ck_41⟩
set_option maxRecDepth 50000 in
theorem ok_42 : pm_okM mt_42 := ⟨by decide +kernel, ⟨by decide +kernel, by decide +kernel⟩, by decide +kernel, by decide, List.mem_of_getElem? (i := 354) rfl, List.mem_of_getElem? (i := 42) (by decide +kernel), by decide +kernel, ck_42⟩
set_option maxRecDepth 50000 in
theorem ok_43 : pm_okM mt_43 := ⟨by decide +kernel, ⟨by decide +kernel, by decide +kernel⟩, by decide +kernel, by decide, List.mem_of_getElem? (i := 637) rfl, List.mem_of_getElem? (i := 42) (by decide +kernel), by decide +kernel, ck_43⟩
set_option maxRecDepth 50000 in
theorem ok_44 : pm_okM mt_44 := ⟨by decide +kernel, ⟨by decide +kernel, by decide +kernel⟩, by decide +kernel, by decide, List.mem_of_getElem? (i := 362) rfl, List.mem_of_getElem? (i := 42) (by decide +kernel), by decide +kernel, ck_44⟩
set_option maxRecDepth 50000 in
theorem ok_45 : pm_okM mt_45 := ⟨by decide +kernel, ⟨by decide +kernel, by decide +kernel⟩, by decide +kernel, by decide, List.mem_of_getElem? (i := 421) rfl, List.mem_of_getElem? (i := 42) (by decide +kernel), by decide +kernel, ck_45⟩
set_option maxRecDepth 50000 in
theorem ok_46 : pm_okM mt_46 := ⟨by decide +kernel, ⟨by decide +kernel, by decide +kernel⟩, by decide +kernel, by decide, List.mem_of_getElem? (i := 406) rfl, List.mem_of_getElem? (i := 42) (by decide +kernel), by decide +kernel, ck_46⟩
set_option maxRecDepth 50000 in
theorem ok_47 : pm_okM mt_47 := ⟨by decide +kernel, ⟨by decide +kernel, by decide +kernel⟩, by decide +kernel, by decide, List.mem_of_getElem? (i := 435) rfl, List.mem_of_getElem? (i := 42) (by decide +kernel), by decide +kernel, ck_47⟩
set_option maxRecDepth 50000 in
theorem ok_48 : pm_okM mt_48 := ⟨by decide +kernel, ⟨by decide +kernel, by decide +kernel⟩, by decide +kernel, by decide, List.mem_of_getElem? (i := 570) rfl, List.mem_of_getElem? (i := 42) (by decide +kernel), by decide +kernel, ck_48⟩
set_option maxRecDepth 50000 in
theorem ok_49 : pm_okM mt_49 := ⟨by decide +kernel, ⟨by decide +kernel, by decide +kernel⟩, by decide +kernel, by decide, List.mem_of_getElem? (i := 382) rfl, List.mem_of_getElem? (i := 42) (by decide +kernel), by decide +kernel, ck_49⟩
set_option maxRecDepth 50000 in
theorem ok_50 : pm_okM mt_50 := ⟨by decide +kernel, ⟨by decide +kernel, by decide +kernel⟩, by decide +kernel, by decide, List.mem_of_getElem? (i := 278) rfl, List.mem_of_getElem? (i := 48) (by decide +kernel), by decide +kernel, ck_50⟩
set_option maxRecDepth 50000 in
theorem ok_51 : pm_okM mt_51 := ⟨by decide +kernel, ⟨by decide +kernel, by decide +kernel⟩, by decide +kernel, by decide, List.mem_of_getElem? (i := 662) rfl, List.mem_of_getElem? (i := 48) (by decide +kernel), by decide +kernel, ck_51⟩
set_option maxRecDepth 50000 in
theorem ok_52 : pm_okM mt_52 := ⟨by decide +kernel, ⟨by decide +kernel, by decide +kernel⟩, by decide +kernel, by decide, List.mem_of_getElem? (i := 670) rfl, List.mem_of_getElem? (i := 48) (by decide +kernel), by decide +kernel, ck_52⟩
set_option maxRecDepth 50000 in
theorem ok_53 : pm_okM mt_53 := ⟨by decide +kernel, ⟨by decide +kernel, by decide +kernel⟩, by decide +kernel, by decide, List.mem_of_getElem? (i := 55) rfl, List.mem_of_getElem? (i := 40) (by decide +kernel), by decide +kernel, ck_53⟩
set_option maxRecDepth 50000 in
theorem ok_54 : pm_okM mt_54 := ⟨by decide +kernel, ⟨by decide +kernel, by decide +kernel⟩, by decide +kernel, by decide, List.mem_of_getElem? (i := 316) rfl, List.mem_of_getElem? (i := 40) (by decide +kernel), by decide +kernel, ck_54⟩
set_option maxRecDepth 50000 in
theorem ok_55 : pm_okM mt_55 := ⟨by decide +kernel, ⟨by decide +kernel, by decide +kernel⟩, by decide +kernel, by decide, List.mem_of_getElem? (i := 334) rfl, List.mem_of_getElem? (i := 40) (by decide +kernel), by decide +kernel, ck_55⟩
set_option maxRecDepth 50000 in
theorem ok_56 : pm_okM mt_56 := ⟨by decide +kernel, ⟨by decide +kernel, by decide +kernel⟩, by decide +kernel, by decide, List.mem_of_getElem? (i := 370) rfl, List.mem_of_getElem? (i := 40) (by decide +kernel), by decide +kernel, ck_56⟩
set_option maxRecDepth 50000 in
theorem ok_57 : pm_okM mt_57 := ⟨by decide +kernel, ⟨by decide +kernel, by decide +kernel⟩, by decide +kernel, by decide, List.mem_of_getElem? (i := 375) rfl, List.mem_of_getElem? (i := 40) (by decide +kernel), by decide +kernel, ck_57⟩
set_option maxRecDepth 50000 in
theorem ok_58 : pm_okM mt_58 := ⟨by decide +kernel, ⟨by decide +kernel, by decide +kernel⟩, by decide +kernel, by decide, List.mem_of_getElem? (i := 386) rfl, List.mem_of_getElem? (i := 40) (by decide +kernel), by decide +kernel, ck_58⟩
set_option maxRecDepth 50000 in
theorem ok_59 : pm_okM mt_59 := ⟨by decide +kernel, ⟨by decide +kernel, by decide +kernel⟩, by decide +kernel, by decide, List.mem_of_getElem? (i := 417) rfl, List.mem_of_getElem? (i := 40) (by decide +kernel), by decide +kernel, ck_59⟩
set_option maxRecDepth 50000 in
theorem ok_60 : pm_okM mt_60 := ⟨by decide +kernel, ⟨by decide +kernel, by decide +kernel⟩, by decide +kernel, by decide, List.mem_of_getElem? (i := 427) rfl, List.mem_of_getElem? (i := 40) (by decide +kernel), by decide +kernel, ck_60⟩
set_option maxRecDepth 50000 in
theorem ok_61 : pm_okM mt_61 := ⟨by decide +kernel, ⟨by decide +kernel, by decide +kernel⟩, by decide +kernel, by decide, List.mem_of_getElem? (i := 439) rfl, List.mem_of_getElem? (i := 40) (by decide +kernel), by decide +kernel, ck_61⟩
set_option maxRecDepth 50000 in
theorem ok_62 : pm_okM mt_62 := ⟨by decide +kernel, ⟨by decide +kernel, by decide +kernel⟩, by decide +kernel, by decide, List.mem_of_getElem? (i := 444) rfl, List.mem_of_getElem? (i := 40) (by decide +kernel), by decide +kernel, ck_62⟩
set_option maxRecDepth 50000 in
theorem ok_63 : pm_okM mt_63 := ⟨by decide +kernel, ⟨by decide +kernel, by decide +kernel⟩, by decide +kernel, by decide, List.mem_of_getElem? (i := 458) rfl, List.mem_of_getElem? (i := 40) (by decide +kernel), by decide +kernel, ck_63⟩
set_option maxRecDepth 50000 in
theorem ok_64 : pm_okM mt_64 := ⟨by decide +kernel, ⟨by decide +kernel, by decide +kernel⟩, by decide +kernel, by decide, List.mem_of_getElem? (i := 498) rfl, List.mem_of_getElem? (i := 40) (by decide +kernel), by decide +kernel, ck_64⟩
set_option maxRecDepth 50000 in
theorem ok_65 : pm_okM mt_65 := ⟨by decide +kernel, ⟨by decide +kernel, by decide +kernel⟩, by decide +kernel, by decide, List.mem_of_getElem? (i := 510) rfl, List.mem_of_getElem? (i := 40) (by decide +kernel), by decide +kernel, ck_65⟩
set_option maxRecDepth 50000 in
theorem ok_66 : pm_okM mt_66 := ⟨by decide +kernel, ⟨by decide +kernel, by decide +kernel⟩, by decide +kernel, by decide, List.mem_of_getElem? (i := 515) rfl, List.mem_of_getElem? (i := 40) (by decide +kernel), by decide +kernel, ck_66⟩
set_option maxRecDepth 50000 in
theorem ok_67 : pm_okM mt_67 := ⟨by decide +kernel, ⟨by decide +kernel, by decide +kernel⟩, by decide +kernel, by decide, List.mem_of_getElem? (i := 526) rfl, List.mem_of_getElem? (i := 40) (by decide +kernel), by decide +kernel, ck_67⟩
set_option maxRecDepth 50000 in
theorem ok_68 : pm_okM mt_68 := ⟨by decide +kernel, ⟨by decide +kernel, by decide +kernel⟩, by decide +kernel, by decide, List.mem_of_getElem? (i := 530) rfl, List.mem_of_getElem? (i := 40) (by decide +kernel), by decide +kernel, ck_68⟩
set_option maxRecDepth 50000 in
theorem ok_69 : pm_okM mt_69 := ⟨by decide +kernel, ⟨by decide +kernel, by decide +kernel⟩, by decide +kernel, by decide, List.mem_of_getElem? (i := 534) rfl, List.mem_of_getElem? (i := 40) (by decide +kernel), by decide +kernel, ck_69⟩
set_option maxRecDepth 50000 in
theorem ok_70 : pm_okM mt_70 := ⟨by decide +kernel, ⟨by decide +kernel, by decide +kernel⟩, by decide +kernel, by decide, List.mem_of_getElem? (i := 538) rfl, List.mem_of_getElem? (i := 40) (by decide +kernel), by decide +kernel, ck_70⟩
set_option maxRecDepth 50000 in
theorem ok_71 : pm_okM mt_71 := ⟨by decide +kernel, ⟨by decide +kernel, by decide +kernel⟩, by decide +kernel, by decide, List.mem_of_getElem? (i := 542) rfl, List.mem_of_getElem? (i := 40) (by decide +kernel), by decide +kernel, ck_71⟩
set_option maxRecDepth 50000 in
theorem ok_72 : pm_okM mt_72 := ⟨by decide +kernel, ⟨by decide +kernel, by decide +kernel⟩, by decide +kernel, by decide, List.mem_of_getElem? (i := 554) rfl, List.mem_of_getElem? (i := 40) (by decide +kernel), by decide +kernel, ck_72⟩
set_option maxRecDepth 50000 in
theorem ok_73 : pm_okM mt_73 := ⟨by decide +kernel, ⟨by decide +kernel, by decide +kernel⟩, by decide +kernel, by decide, List.mem_of_getElem? (i := 580) rfl, List.mem_of_getElem? (i := 40) (by decide +kernel), by decide +kernel, ck_73⟩
set_option maxRecDepth 50000 in
theorem ok_74 : pm_okM mt_74 := ⟨by decide +kernel, ⟨by decide +kernel, by decide +kernel⟩, by decide +kernel, by decide, List.mem_of_getElem? (i := 586) rfl, List.mem_of_getElem? (i := 40) (by decide +kernel), by decide +kernel, ck_74⟩
set_option maxRecDepth 50000 in
theorem ok_75 : pm_okM mt_75 := ⟨by decide +kernel, ⟨by decide +kernel, by decide +kernel⟩, by decide +kernel, by decide, List.mem_of_getElem? (i := 607) rfl, List.mem_of_getElem? (i := 40) (by decide +kernel), by decide +kernel, ck_75⟩
set_option maxRecDepth 50000 in
theorem ok_76 : pm_okM mt_76 := ⟨by decide +kernel, ⟨by decide +kernel, by decide +kernel⟩, by decide +kernel, by decide, List.mem_of_getElem? (i := 611) rfl, List.mem_of_getElem? (i := 40) (by decide +kernel), by decide +kernel, ck_76⟩
set_option maxRecDepth 50000 in
theorem ok_77 : pm_okM mt_77 := ⟨by decide +kernel, ⟨by decide +kernel, by decide +kernel⟩, by decide +kernel, by decide, List.mem_of_getElem? (i := 615) rfl, List.mem_of_getElem? (i := 40) (by decide +kernel), by decide +kernel, ck_77⟩
set_option maxRecDepth 50000 in
theorem ok_78 : pm_okM mt_78 := ⟨by decide +kernel, ⟨by decide +kernel, by decide +kernel⟩, by decide +kernel, by decide, List.mem_of_getElem? (i := 633) rfl, List.mem_of_getElem? (i := 40) (by decide +kernel), by decide +kernel, ck_78⟩
set_option maxRecDepth 50000 in
theorem ok_79 : pm_okM mt_79 := ⟨by decide +kernel, ⟨by decide +kernel, by decide +kernel⟩, by decide +kernel, by decide, List.mem_of_getElem? (i := 641) rfl, List.mem_of_getElem? (i := 40) (by decide +kernel), by decide +kernel, ck_79⟩
set_option maxRecDepth 50000 in
theorem ok_80 : pm_okM mt_80 := ⟨by decide +kernel, ⟨by decide +kernel, by decide +kernel⟩, by decide +kernel, by decide, List.mem_of_getElem? (i := 653) rfl, List.mem_of_getElem? (i := 40) (by decide +kernel), by decide +kernel, ck_80⟩
set_option maxRecDepth 50000 in
theorem ok_81 : pm_okM mt_81 := ⟨by decide +kernel, ⟨by decide +kernel, by decide +kernel⟩, by decide +kernel, by decide, List.mem_of_getElem? (i := 658) rfl, List.mem_of_getElem? (i := 40) (by decide +kernel), by decide +kernel, ck_81⟩
set_option maxRecDepth 50000 in
theorem ok_82 : pm_okM mt_82 := ⟨by decide +kernel, ⟨by decide +kernel, by decide +kernel⟩, by decide +kernel, by decide, List.mem_of_getElem? (i := 666) rfl, List.mem_of_getElem? (i := 40) (by decide +kernel), by decide +kernel, ck_82⟩
set_option maxRecDepth 50000 in
theorem ok_83 : pm_okM mt_83 := ⟨by decide +kernel, ⟨by decide +kernel, by decide +kernel⟩, by decide +kernel, by decide, List.mem_of_getElem? (i := 675) rfl, List.mem_of_getElem? (i := 40) (by decide +kernel), by decide +kernel, ck_83⟩
set_option maxRecDepth 50000 in
theorem ok_84 : pm_okM mt_84 := ⟨by decide +kernel, ⟨by decide +kernel, by decide +kernel⟩, by decide +kernel, by decide, List.mem_of_getElem? (i := 687) rfl, List.mem_of_getElem? (i := 40) (by decide +kernel), by decide +kernel, ck_84⟩
set_option maxRecDepth 50000 in
theorem ok_85 : pm_okM mt_85 := ⟨by decide +kernel, ⟨by decide +kernel, by decide +kernel⟩, by decide +kernel, by decide, List.mem_of_getElem? (i := 324) rfl, List.mem_of_getElem? (i := 40) (by decide +kernel), by decide +kernel, ck_85⟩
set_option maxRecDepth 50000 in
theorem ok_86 : pm_okM mt_86 := ⟨by decide +kernel, ⟨by decide +kernel, by decide +kernel⟩, by decide +kernel, by decide, List.mem_of_getElem? (i := 319) rfl, List.mem_of_getElem? (i := 40) (by decide +kernel), by decide +kernel, ck_86⟩
set_option maxRecDepth 50000 in
theorem ok_87 : pm_okM mt_87 := ⟨by decide +kernel, ⟨by decide +kernel, by decide +kernel⟩, by decide +kernel, by decide, List.mem_of_getElem? (i := 378) rfl, List.mem_of_getElem? (i := 40) (by decide +kernel), by decide +kernel, ck_87⟩
set_option maxRecDepth 50000 in
theorem ok_88 : pm_okM mt_88 := ⟨by decide +kernel, ⟨by decide +kernel, by decide +kernel⟩, by decide +kernel, by decide, List.mem_of_getElem? (i := 506) rfl, List.mem_of_getElem? (i := 40) (by decide +kernel), by decide +kernel, ck_88⟩
set_option maxRecDepth 50000 in
theorem ok_89 : pm_okM mt_89 := ⟨by decide +kernel, ⟨by decide +kernel, by decide +kernel⟩, by decide +kernel, by decide, List.mem_of_getElem? (i := 337) rfl, List.mem_of_getElem? (i := 40) (by decide +kernel), by decide +kernel, ck_89⟩
set_option maxRecDepth 50000 in
theorem ok_90 : pm_okM mt_90 := ⟨by decide +kernel, ⟨by decide +kernel, by decide +kernel⟩, by decide +kernel, by decide, List.mem_of_getElem? (i := 341) rfl, List.mem_of_getElem? (i := 40) (by decide +kernel), by decide +kernel, ck_90⟩
set_option maxRecDepth 50000 in
theorem ok_91 : pm_okM mt_91 := ⟨by decide +kernel, ⟨by decide +kernel, by decide +kernel⟩, by decide +kernel, by decide, List.mem_of_getElem? (i := 390) rfl, List.mem_of_getElem? (i := 40) (by decide +kernel), by decide +kernel, ck_91⟩
set_option maxRecDepth 50000 in
theorem ok_92 : pm_okM mt_92 := ⟨by decide +kernel, ⟨by decide +kernel, by decide +kernel⟩, by decide +kernel, by decide, List.mem_of_getElem? (i := 679) rfl, List.mem_of_getElem? (i := 40) (by decide +kernel), by decide +kernel, ck_92⟩
set_option maxRecDepth 50000 in
theorem ok_93 : pm_okM mt_93 := ⟨by decide +kernel, ⟨by decide +kernel, by decide +kernel⟩, by decide +kernel, by decide, List.mem_of_getElem? (i := 683) rfl, List.mem_of_getElem? (i := 40) (by decide +kernel), by decide +kernel, ck_93⟩
set_option maxRecDepth 50000 in
theorem ok_94 : pm_okM mt_94 := ⟨by decide +kernel, ⟨by decide +kernel, by decide +kernel⟩, by decide +kernel, by decide, List.mem_of_getElem? (i := 692) rfl, List.mem_of_getElem? (i := 49) (by decide +kernel), by decide +kernel, ck_94⟩
set_option maxRecDepth 50000 in
theorem ok_95 : pm_okM mt_95 := ⟨by decide +kernel, ⟨by decide +kernel, by decide +kernel⟩, by decide +kernel, by decide, List.mem_of_getElem? (i := 812) rfl, List.mem_of_getElem? (i := 49) (by decide +kernel), by decide +kernel, ck_95⟩
set_option maxRecDepth 50000 in
theorem ok_96 : pm_okM mt_96 := ⟨by decide +kernel, ⟨by decide +kernel, by decide +kernel⟩, by decide +kernel, by decide, List.mem_of_getElem? (i := 816) rfl, List.mem_of_getElem? (i := 49) (by decide +kernel), by decide +kernel, ck_96⟩
set_option maxRecDepth 50000 in
theorem ok_97 : pm_okM mt_97 := ⟨by decide +kernel, ⟨by decide +kernel, by decide +kernel⟩, by decide +kernel, by decide, List.mem_of_getElem? (i := 825) rfl, List.mem_of_getElem? (i := 49) (by decide +kernel), by decide +kernel, ck_97⟩
set_option maxRecDepth 50000 in
theorem ok_98 : pm_okM mt_98 := ⟨by decide +kernel, ⟨by decide +kernel, by decide +kernel⟩, by decide +kernel, by decide, List.mem_of_getElem? (i := 917) rfl, List.mem_of_getElem? (i := 49) (by decide +kernel), by decide +kernel, ck_98⟩
set_option maxRecDepth 50000 in
theorem ok_99 : pm_okM mt_99 := ⟨by decide +kernel, ⟨by decide +kernel, by decide +kernel⟩, by decide +kernel, by decide, List.mem_of_getElem? (i := 809) rfl, List.mem_of_getElem? (i := 49) (by decide +kernel), by decide +kernel, ck_99⟩
set_option maxRecDepth 50000 in
theorem ok_100 : pm_okM mt_100 := ⟨by decide +kernel, ⟨by decide +kernel, by decide +kernel⟩, by decide +kernel, by decide, List.mem_of_getElem? (i := 829) rfl, List.mem_of_getElem? (i := 49) (by decide +kernel), by decide +kernel, ck_100⟩
set_option maxRecDepth 50000 in
theorem ok_101 : pm_okM mt_101 := ⟨by decide +kernel, ⟨by decide +kernel, by decide +kernel⟩, by decide +kernel, by decide, List.mem_of_getElem? (i := 833) rfl, List.mem_of_getElem? (i := 49) (by decide +kernel), by decide +kernel, ck_101⟩
set_option maxRecDepth 50000 in
theorem ok_102 : pm_okM mt_102 := ⟨by decide +kernel, ⟨by decide +kernel, by decide +kernel⟩, by decide +kernel, by decide, List.mem_of_getElem? (i := 821) rfl, List.mem_of_getElem? (i := 49) (by decide +kernel), by decide +kernel, ck_102⟩
set_option maxRecDepth 50000 in
theorem ok_103 : pm_okM mt_103 := ⟨by decide +kernel, ⟨by decide +kernel, by decide +kernel⟩, by decide +kernel, by decide, List.mem_of_getElem? (i := 837) rfl, List.mem_of_getElem? (i := 49) (by decide +kernel), by decide +kernel, ck_103⟩
set_option maxRecDepth 50000 in
theorem ok_104 : pm_okM mt_104 := ⟨by decide +kernel, ⟨by decide +kernel, by decide +kernel⟩, by decide +kernel, by decide, List.mem_of_getElem? (i := 846) rfl, List.mem_of_getElem? (i := 49) (by decide +kernel), by decide +kernel, ck_104⟩
set_option maxRecDepth 50000 in
theorem ok_105 : pm_okM mt_105 := ⟨by decide +kernel, ⟨by decide +kernel, by decide +kernel⟩, by decide +kernel, by decide, List.mem_of_getElem? (i := 842) rfl, List.mem_of_getElem? (i := 49) (by decide +kernel), by decide +kernel, ck_105⟩
set_option maxRecDepth 50000 in
theorem ok_106 : pm_okM mt_106 := ⟨by decide +kernel, ⟨by decide +kernel, by decide +kernel⟩, by decide +kernel, by decide, List.mem_of_getElem? (i := 854) rfl, List.mem_of_getElem? (i := 49) (by decide +kernel), by decide +kernel, ck_106⟩
set_option maxRecDepth 50000 in
theorem ok_107 : pm_okM mt_107 := ⟨by decide +kernel, ⟨by decide +kernel, by decide +kernel⟩, by decide +kernel, by decide, List.mem_of_getElem? (i := 850) rfl, List.mem_of_getElem? (i := 49) (by decide +kernel), by decide +kernel, ck_107⟩
set_option maxRecDepth 50000 in
theorem ok_108 : pm_okM mt_108 := ⟨by decide +kernel, ⟨by decide +kernel, by decide +kernel⟩, by decide +kernel, by decide, List.mem_of_getElem? (i := 862) rfl, List.mem_of_getElem? (i := 49) (by decide +kernel), by decide +kernel, ck_108⟩
set_option maxRecDepth 50000 in
theorem ok_109 : pm_okM mt_109 := ⟨by decide +kernel, ⟨by decide +kernel, by decide +kernel⟩, by decide +kernel, by decide, List.mem_of_getElem? (i := 858) rfl, List.mem_of_getElem? (i := 49) (by decide +kernel), by decide +kernel, ck_109⟩
set_option maxRecDepth 50000 in
theorem ok_110 : pm_okM mt_110 := ⟨by decide +kernel, ⟨by decide +kernel, by decide +kernel⟩, by decide +kernel, by decide, List.mem_of_getElem? (i := 870) rfl, List.mem_of_getElem? (i := 49) (by decide +kernel), by decide +kernel, ck_110⟩
set_option maxRecDepth 50000 in
theorem ok_111 : pm_okM mt_111 := ⟨by decide +kernel, ⟨by decide +kernel, by decide +kernel⟩, by decide +kernel, by decide, List.mem_of_getElem? (i := 878) rfl, List.mem_of_getElem? (i := 49) (by decide +kernel), by decide +kernel, ck_111⟩
set_option maxRecDepth 50000 in
theorem ok_112 : pm_okM mt_112 := ⟨by decide +kernel, ⟨by decide +kernel, by decide +kernel⟩, by decide +kernel, by decide, List.mem_of_getElem? (i := 874) rfl, List.mem_of_getElem? (i := 49) (by decide +kernel), by decide +kernel, ck_112⟩
set_option maxRecDepth 50000 in
theorem ok_113 : pm_okM mt_113 := ⟨by decide +kernel, ⟨by decide +kernel, by decide +kernel⟩, by decide +kernel, by decide, List.mem_of_getElem? (i := 866) rfl, List.mem_of_getElem? (i := 49) (by decide +kernel), by decide +kernel, ck_113⟩
set_option maxRecDepth 50000 in
theorem ok_114 : pm_okM mt_114 := ⟨by decide +kernel, ⟨by decide +kernel, by decide +kernel⟩, by decide +kernel, by decide, List.mem_of_getElem? (i := 882) rfl, List.mem_of_getElem? (i := 49) (by decide +kernel), by decide +kernel, ck_114⟩
set_option maxRecDepth 50000 in
theorem ok_115 : pm_okM mt_115 := ⟨by decide +kernel, ⟨by decide +kernel, by decide +kernel⟩, by decide +kernel, by decide, List.mem_of_getElem? (i := 887) rfl, List.mem_of_getElem? (i := 49) (by decide +kernel), by decide +kernel, ck_115⟩
set_option maxRecDepth 50000 in
theorem ok_116 : pm_okM mt_116 := ⟨by decide +kernel, ⟨by decide +kernel, by decide +kernel⟩, by decide +kernel, by decide, List.mem_of_getElem? (i := 903) rfl, List.mem_of_getElem? (i := 49) (by decide +kernel), by decide +kernel, ck_116⟩
set_option maxRecDepth 50000 in
theorem ok_117 : pm_okM mt_117 := ⟨by decide +kernel, ⟨by decide +kernel, by decide +kernel⟩, by decide +kernel, by decide, List.mem_of_getElem? (i := 907) rfl, List.mem_of_getElem? (i := 49) (by decide +kernel), by decide +kernel, ck_117⟩
set_option maxRecDepth 50000 in
theorem ok_118 : pm_okM mt_118 := ⟨by decide +kernel, ⟨by decide +kernel, by decide +kernel⟩, by decide +kernel, by decide, List.mem_of_getElem? (i := 899) rfl, List.mem_of_getElem? (i := 49) (by decide +kernel), by decide +kernel, ck_118⟩
set_option maxRecDepth 50000 in
theorem ok_119 : pm_okM mt_119 := ⟨by decide +kernel, ⟨by decide +kernel, by decide +kernel⟩, by decide +kernel, by decide, List.mem_of_getElem? (i := 895) rfl, List.mem_of_getElem? (i := 49) (by decide +kernel), by decide +kernel, ck_119⟩
set_option maxRecDepth 50000 in
theorem ok_120 : pm_okM mt_120 := ⟨by decide +kernel, ⟨by decide +kernel, by decide +kernel⟩, by decide +kernel, by decide, List.mem_of_getElem? (i := 910) rfl, List.mem_of_getElem? (i := 49) (by decide +kernel), by decide +kernel, ck_120⟩
set_option maxRecDepth 50000 in
theorem ok_121 : pm_okM mt_121 := ⟨by decide +kernel, ⟨by decide +kernel, by decide +kernel⟩, by decide +kernel, by decide, List.mem_of_getElem? (i := 891) rfl, List.mem_of_getElem? (i := 49) (by decide +kernel), by decide +kernel, ck_121⟩
set_option maxRecDepth 50000 in
theorem ok_122 : pm_okM mt_122 := ⟨by decide +kernel, ⟨by decide +kernel, by decide +kernel⟩, by decide +kernel, by decide, List.mem_of_getElem? (i := 914) rfl, List.mem_of_getElem? (i := 49) (by decide +kernel), by decide +kernel, ck_122⟩
set_option maxRecDepth 50000 in
theorem ok_123 : pm_okM mt_123 := ⟨by decide +kernel, ⟨by decide +kernel, by decide +kernel⟩, by decide +kernel, by decide, List.mem_of_getElem? (i := 921) rfl, List.mem_of_getElem? (i := 49) (by decide +kernel), by decide +kernel, ck_123⟩
set_option maxRecDepth 50000 in
theorem ok_124 : pm_okM mt_124 := ⟨by decide +kernel, ⟨by decide +kernel, by decide +kernel⟩, by decide +kernel, by decide, List.mem_of_getElem? (i := 925) rfl, List.mem_of_getElem? (i := 49) (by decide +kernel), by decide +kernel, ck_124⟩
set_option maxRecDepth 50000 in
theorem ok_125 : pm_okM mt_125 := ⟨by decide +kernel, ⟨by decide +kernel, by decide +kernel⟩, by decide +kernel, by decide, List.mem_of_getElem? (i := 929) rfl, List.mem_of_getElem? (i := 49) (by decide +kernel), by decide +kernel, ck_125⟩
set_option maxRecDepth 50000 in
theorem ok_126 : pm_okM mt_126 := ⟨by decide +kernel, ⟨by decide +kernel, by decide +kernel⟩, by decide +kernel, by decide, List.mem_of_getElem? (i := 933) rfl, List.mem_of_getElem? (i := 49) (by decide +kernel), by decide +kernel, ck_126⟩
set_option maxRecDepth 50000 in
theorem ok_127 : pm_okM mt_127 := ⟨by decide +kernel, ⟨by decide +kernel, by decide +kernel⟩, by decide +kernel, by decide, List.mem_of_getElem? (i := 937) rfl, List.mem_of_getElem? (i := 49) (by decide +kernel), by decide +kernel, ck_127⟩
set_option maxRecDepth 50000 in
theorem ok_128 : pm_okM mt_128 := ⟨by decide +kernel, ⟨by decide +kernel, by decide +kernel⟩, by decide +kernel, by decide, List.mem_of_getElem? (i := 941) rfl, List.mem_of_getElem? (i := 49) (by decide +kernel), by decide +kernel, ck_128⟩
set_option maxRecDepth 50000 in
theorem ok_129 : pm_okM mt_129 := ⟨by decide +kernel, ⟨by decide +kernel, by decide +kernel⟩, by decide +kernel, by decide, List.mem_of_getElem? (i := 949) rfl, List.mem_of_getElem? (i := 49) (by decide +kernel), by decide +kernel, ck_129⟩
set_option maxRecDepth 50000 in
theorem ok_130 : pm_okM mt_130 := ⟨by decide +kernel, ⟨by decide +kernel, by decide +kernel⟩, by decide +kernel, by decide, List.mem_of_getElem? (i := 945) rfl, List.mem_of_getElem? (i := 49) (by decide +kernel), by decide +kernel, ck_130⟩
set_option maxRecDepth 50000 in
theorem ok_131 : pm_okM mt_131 := ⟨by decide +kernel, ⟨by decide +kernel, by decide +kernel⟩, by decide +kernel, by decide, List.mem_of_getElem? (i := 965) rfl, List.mem_of_getElem? (i := 49) (by decide +kernel), by decide +kernel, ck_131⟩
set_option maxRecDepth 50000 in
theorem ok_132 : pm_okM mt_132 := ⟨by decide +kernel, ⟨by decide +kernel, by decide +kernel⟩, by decide +kernel, by decide, List.mem_of_getElem? (i := 961) rfl, List.mem_of_getElem? (i := 49) (by decide +kernel), by decide +kernel, ck_132⟩
set_option maxRecDepth 50000 in
theorem ok_133 : pm_okM mt_133 := ⟨by decide +kernel, ⟨by decide +kernel, by decide +kernel⟩, by decide +kernel, by decide, List.mem_of_getElem? (i := 957) rfl, List.mem_of_getElem? (i := 49) (by decide +kernel), by decide +kernel, ck_133⟩
set_option maxRecDepth 50000 in
theorem ok_134 : pm_okM mt_134 := ⟨by decide +kernel, ⟨by decide +kernel, by decide +kernel⟩, by decide +kernel, by decide, List.mem_of_getElem? (i := 953) rfl, List.mem_of_getElem? (i := 49) (by decide +kernel), by decide +kernel, ck_134⟩
set_option maxRecDepth 50000 in
theorem ok_135 : pm_okM mt_135 := ⟨by decide +kernel, ⟨by decide +kernel, by decide +kernel⟩, by decide +kernel, by decide, List.mem_of_getElem? (i := 969) rfl, List.mem_of_getElem? (i := 49) (by decide +kernel), by decide +kernel, ck_135⟩
set_option maxRecDepth 50000 in
theorem ok_136 : pm_okM mt_136 := ⟨by decide +kernel, ⟨by decide +kernel, by decide +kernel⟩, by decide +kernel, by decide, List.mem_of_getElem? (i := 977) rfl, List.mem_of_getElem? (i := 49) (by decide +kernel), by decide +kernel, ck_136⟩
set_option maxRecDepth 50000 in
theorem ok_137 : pm_okM mt_137 := ⟨by decide +kernel, ⟨by decide +kernel, by decide +kernel⟩, by decide +kernel, by decide, List.mem_of_getElem? (i := 973) rfl, List.mem_of_getElem? (i := 49) (by decide +kernel), by decide +kernel, ck_137⟩
set_option maxRecDepth 50000 in
theorem ok_138 : pm_okM mt_138 := ⟨by decide +kernel, ⟨by decide +kernel, by decide +kernel⟩, by decide +kernel, by decide, List.mem_of_getElem? (i := 981) rfl, List.mem_of_getElem? (i := 49) (by decide +kernel), by decide +kernel, ck_138⟩
set_option maxRecDepth 50000 in
theorem ok_139 : pm_okM mt_139 := ⟨by decide +kernel, ⟨by decide +kernel, by decide +kernel⟩, by decide +kernel, by decide, List.mem_of_getElem? (i := 985) rfl, List.mem_of_getElem? (i := 49) (by decide +kernel), by decide +kernel, ck_139⟩
set_option maxRecDepth 50000 in
theorem ok_140 : pm_okM mt_140 := ⟨by decide +kernel, ⟨by decide +kernel, by decide +kernel⟩, by decide +kernel, by decide, List.mem_of_getElem? (i := 989) rfl, List.mem_of_getElem? (i := 49) (by decide +kernel), by decide +kernel, ck_140⟩
set_option maxRecDepth 50000 in
theorem ok_141 : pm_okM mt_141 := ⟨by decide +kernel, ⟨by decide +kernel, by decide +kernel⟩, by decide +kernel, by decide, List.mem_of_getElem? (i := 998) rfl, List.mem_of_getElem? (i := 49) (by decide +kernel), by decide +kernel, ck_141⟩
set_option maxRecDepth 50000 in
theorem ok_142 : pm_okM mt_142 := ⟨by decide +kernel, ⟨by decide +kernel, by decide +kernel⟩, by decide +kernel, by decide, List.mem_of_getElem? (i := 994) rfl, List.mem_of_getElem? (i := 49) (by decide +kernel), by decide +kernel, ck_142⟩
set_option maxRecDepth 50000 in
theorem ok_143 : pm_okM mt_143 := ⟨by decide +kernel, ⟨by decide +kernel, by decide +kernel⟩, by decide +kernel, by decide, List.mem_of_getElem? (i := 1002) rfl, List.mem_of_getElem? (i := 49) (by decide +kernel), by decide +kernel, ck_143⟩
set_option maxRecDepth 50000 in
theorem ok_144 : pm_okM mt_144 := ⟨by decide +kernel, ⟨by decide +kernel, by decide +kernel⟩, by decide +kernel, by decide, List.mem_of_getElem? (i := 1006) rfl, List.mem_of_getElem? (i := 49) (by decide +kernel), by decide +kernel, ck_144⟩
set_option maxRecDepth 50000 in
theorem ok_145 : pm_okM mt_145 := ⟨by decide +kernel, ⟨by decide +kernel, by decide +kernel⟩, by decide +kernel, by decide, List.mem_of_getElem? (i := 1010) rfl, List.mem_of_getElem? (i := 49) (by decide +kernel), by decide +kernel, ck_145⟩
set_option maxRecDepth 50000 in
theorem ok_146 : pm_okM mt_146 := ⟨by decide +kernel, ⟨by decide +kernel, by decide +kernel⟩, by decide +kernel, by decide, List.mem_of_getElem? (i := 1014) rfl, List.mem_of_getElem? (i := 49) (by decide +kernel), by decide +kernel, ck_146⟩
set_option maxRecDepth 50000 in
theorem ok_147 : pm_okM mt_147 := ⟨by decide +kernel, ⟨by decide +kernel, by decide +kernel⟩, by decide +kernel, by decide, List.mem_of_getElem? (i := 1018) rfl, List.mem_of_getElem? (i := 49) (by decide +kernel), by decide +kernel, ck_147⟩
set_option maxRecDepth 50000 in
theorem ok_148 : pm_okM mt_148 := ⟨by decide +kernel, ⟨by decide +kernel, by decide +kernel⟩, by decide +kernel, by decide, List.mem_of_getElem? (i := 1022) rfl, List.mem_of_getElem? (i := 49) (by decide +kernel), by decide +kernel, ck_148⟩
set_option maxRecDepth 50000 in
theorem ok_151 : pm_okM mt_151 := ⟨by decide +kernel, ⟨by decide +kernel, by decide +kernel⟩, by decide +kernel, by decide, List.mem_of_getElem? (i := 222) rfl, List.mem_of_getElem? (i := 46) (by decide +kernel), by decide +kernel, ck_151⟩
theorem pmv_0_19 : pm_okV 0 (19, 1, 0, 1, 0) := ⟨mt_1, rfl, ok_1, rfl, rfl, List.mem_of_getElem? (i := 621) (by decide +kernel), List.mem_of_getElem? (i := 623) (by decide +kernel), List.mem_of_getElem? (i := 16) (by decide +kernel)⟩
theorem pmv_0_23 : pm_okV 0 (23, 2, 1, 1, 0) := ⟨mt_2, rfl, ok_2, rfl, rfl, List.mem_of_getElem? (i := 629) (by decide +kernel), List.mem_of_getElem? (i := 618) (by decide +kernel), List.mem_of_getElem? (i := 619) (by decide +kernel)⟩
theorem pmv_0 : ∀ e ∈ pm_mvL 0, pm_okV 0 e := List.forall_mem_cons.mpr ⟨pmv_0_19, List.forall_mem_cons.mpr ⟨pmv_0_23, fun _ h => absurd h List.not_mem_nil⟩⟩
theorem pmv_1_36 : pm_okV 1 (36, 6, 0, 0, 1) := ⟨mt_6, rfl, ok_6, rfl, rfl, List.mem_of_getElem? (i := 395) (by decide +kernel), List.mem_of_getElem? (i := 397) (by decide +kernel), List.mem_of_getElem? (i := 3) (by decide +kernel)⟩
theorem pmv_1_39 : pm_okV 1 (39, 7, 0, 0, 1) := ⟨mt_7, rfl, ok_7, rfl, rfl, List.mem_of_getElem? (i := 399) (by decide +kernel), List.mem_of_getElem? (i := 401) (by decide +kernel), List.mem_of_getElem? (i := 4) (by decide +kernel)⟩
theorem pmv_1_42 : pm_okV 1 (42, 8, 0, 0, 1) := ⟨mt_8, rfl, ok_8, rfl, rfl, List.mem_of_getElem? (i := 407) (by decide +kernel), List.mem_of_getElem? (i := 409) (by decide +kernel), List.mem_of_getElem? (i := 5) (by decide +kernel)⟩
theorem pmv_1_56 : pm_okV 1 (56, 46, 1, 1, 5) := ⟨mt_46, rfl, ok_46, rfl, rfl, List.mem_of_getElem? (i := 403) (by decide +kernel), List.mem_of_getElem? (i := 404) (by decide +kernel), List.mem_of_getElem? (i := 405) (by decide +kernel)⟩
theorem pmv_1_78 : pm_okV 1 (78, 47, 1, 1, 5) := ⟨mt_47, rfl, ok_47, rfl, rfl, List.mem_of_getElem? (i := 432) (by decide +kernel), List.mem_of_getElem? (i := 433) (by decide +kernel), List.mem_of_getElem? (i := 434) (by decide +kernel)⟩
theorem pmv_1_81 : pm_okV 1 (81, 5, 0, 0, 1) := ⟨mt_5, rfl, ok_5, rfl, rfl, List.mem_of_getElem? (i := 449) (by decide +kernel), List.mem_of_getElem? (i := 392) (by decide +kernel), List.mem_of_getElem? (i := 393) (by decide +kernel)⟩
theorem pmv_1_84 : pm_okV 1 (84, 11, 0, 1, 1) := ⟨mt_11, rfl, ok_11, rfl, rfl, List.mem_of_getElem? (i := 450) (by decide +kernel), List.mem_of_getElem? (i := 452) (by decide +kernel), List.mem_of_getElem? (i := 6) (by decide +kernel)⟩
theorem pmv_1_88 : pm_okV 1 (88, 49, 1, 0, 5) := ⟨mt_49, rfl, ok_49, rfl, rfl, List.mem_of_getElem? (i := 454) (by decide +kernel), List.mem_of_getElem? (i := 380) (by decide +kernel), List.mem_of_getElem? (i := 381) (by decide +kernel)⟩
theorem pmv_1 : ∀ e ∈ pm_mvL 1, pm_okV 1 e := List.forall_mem_cons.mpr ⟨pmv_1_36, List.forall_mem_cons.mpr ⟨pmv_1_39, List.forall_mem_cons.mpr ⟨pmv_1_42, List.forall_mem_cons.mpr ⟨pmv_1_56, List.forall_mem_cons.mpr ⟨pmv_1_78, List.forall_mem_cons.mpr ⟨pmv_1_81, List.forall_mem_cons.mpr ⟨pmv_1_84, List.forall_mem_cons.mpr ⟨pmv_1_88, fun _ h => absurd h List.not_mem_nil⟩⟩⟩⟩⟩⟩⟩⟩
theorem pmv_2_28 : pm_okV 2 (28, 13, 1, 1, 2) := ⟨mt_13, rfl, ok_13, rfl, rfl, List.mem_of_getElem? (i := 646) (by decide +kernel), List.mem_of_getElem? (i := 647) (by decide +kernel), List.mem_of_getElem? (i := 648) (by decide +kernel)⟩
theorem pmv_2 : ∀ e ∈ pm_mvL 2, pm_okV 2 e := List.forall_mem_cons.mpr ⟨pmv_2_28, fun _ h => absurd h List.not_mem_nil⟩
theorem pmv_3_28 : pm_okV 3 (28, 5, 0, 0, 1) := ⟨mt_5, rfl, ok_5, rfl, rfl, List.mem_of_getElem? (i := 463) (by decide +kernel), List.mem_of_getElem? (i := 392) (by decide +kernel), List.mem_of_getElem? (i := 393) (by decide +kernel)⟩
theorem pmv_3_47 : pm_okV 3 (47, 21, 1, 1, 3) := ⟨mt_21, rfl, ok_21, rfl, rfl, List.mem_of_getElem? (i := 465) (by decide +kernel), List.mem_of_getElem? (i := 467) (by decide +kernel), List.mem_of_getElem? (i := 7) (by decide +kernel)⟩
theorem pmv_3_55 : pm_okV 3 (55, 20, 3, 0, 3) := ⟨mt_20, rfl, ok_20, rfl, rfl, List.mem_of_getElem? (i := 477) (by decide +kernel), List.mem_of_getElem? (i := 479) (by decide +kernel), List.mem_of_getElem? (i := 8) (by decide +kernel)⟩
theorem pmv_3_59 : pm_okV 3 (59, 22, 2, 1, 3) := ⟨mt_22, rfl, ok_22, rfl, rfl, List.mem_of_getElem? (i := 481) (by decide +kernel), List.mem_of_getElem? (i := 483) (by decide +kernel), List.mem_of_getElem? (i := 9) (by decide +kernel)⟩
theorem pmv_3_70 : pm_okV 3 (70, 47, 1, 1, 5) := ⟨mt_47, rfl, ok_47, rfl, rfl, List.mem_of_getElem? (i := 469) (by decide +kernel), List.mem_of_getElem? (i := 433) (by decide +kernel), List.mem_of_getElem? (i := 434) (by decide +kernel)⟩
theorem pmv_3_81 : pm_okV 3 (81, 25, 0, 1, 3) := ⟨mt_25, rfl, ok_25, rfl, rfl, List.mem_of_getElem? (i := 503) (by decide +kernel), List.mem_of_getElem? (i := 491) (by decide +kernel), List.mem_of_getElem? (i := 492) (by decide +kernel)⟩
theorem pmv_3 : ∀ e ∈ pm_mvL 3, pm_okV 3 e := List.forall_mem_cons.mpr ⟨pmv_3_28, List.forall_mem_cons.mpr ⟨pmv_3_47, List.forall_mem_cons.mpr ⟨pmv_3_55, List.forall_mem_cons.mpr ⟨pmv_3_59, List.forall_mem_cons.mpr ⟨pmv_3_70, List.forall_mem_cons.mpr ⟨pmv_3_81, fun _ h => absurd h List.not_mem_nil⟩⟩⟩⟩⟩⟩
theorem pmv_4_52 : pm_okV 4 (52, 29, 1, 1, 4) := ⟨mt_29, rfl, ok_29, rfl, rfl, List.mem_of_getElem? (i := 547) (by decide +kernel), List.mem_of_getElem? (i := 548) (by decide +kernel), List.mem_of_getElem? (i := 549) (by decide +kernel)⟩
theorem pmv_4_56 : pm_okV 4 (56, 32, 0, 0, 4) := ⟨mt_32, rfl, ok_32, rfl, rfl, List.mem_of_getElem? (i := 559) (by decide +kernel), List.mem_of_getElem? (i := 561) (by decide +kernel), List.mem_of_getElem? (i := 10) (by decide +kernel)⟩
theorem pmv_4_59 : pm_okV 4 (59, 33, 1, 1, 4) := ⟨mt_33, rfl, ok_33, rfl, rfl, List.mem_of_getElem? (i := 563) (by decide +kernel), List.mem_of_getElem? (i := 565) (by decide +kernel), List.mem_of_getElem? (i := 11) (by decide +kernel)⟩
theorem pmv_4_71 : pm_okV 4 (71, 48, 1, 1, 5) := ⟨mt_48, rfl, ok_48, rfl, rfl, List.mem_of_getElem? (i := 567) (by decide +kernel), List.mem_of_getElem? (i := 568) (by decide +kernel), List.mem_of_getElem? (i := 569) (by decide +kernel)⟩
theorem pmv_4_80 : pm_okV 4 (80, 34, 2, 1, 4) := ⟨mt_34, rfl, ok_34, rfl, rfl, List.mem_of_getElem? (i := 572) (by decide +kernel), List.mem_of_getElem? (i := 574) (by decide +kernel), List.mem_of_getElem? (i := 12) (by decide +kernel)⟩
theorem pmv_4_83 : pm_okV 4 (83, 31, 0, 1, 4) := ⟨mt_31, rfl, ok_31, rfl, rfl, List.mem_of_getElem? (i := 591) (by decide +kernel), List.mem_of_getElem? (i := 556) (by decide +kernel), List.mem_of_getElem? (i := 557) (by decide +kernel)⟩
theorem pmv_4_90 : pm_okV 4 (90, 37, 3, 0, 4) := ⟨mt_37, rfl, ok_37, rfl, rfl, List.mem_of_getElem? (i := 592) (by decide +kernel), List.mem_of_getElem? (i := 594) (by decide +kernel), List.mem_of_getElem? (i := 13) (by decide +kernel)⟩
theorem pmv_4_94 : pm_okV 4 (94, 38, 1, 0, 4) := ⟨mt_38, rfl, ok_38, rfl, rfl, List.mem_of_getElem? (i := 596) (by decide +kernel), List.mem_of_getElem? (i := 598) (by decide +kernel), List.mem_of_getElem? (i := 14) (by decide +kernel)⟩
theorem pmv_4_98 : pm_okV 4 (98, 35, 1, 0, 4) := ⟨mt_35, rfl, ok_35, rfl, rfl, List.mem_of_getElem? (i := 600) (by decide +kernel), List.mem_of_getElem? (i := 602) (by decide +kernel), List.mem_of_getElem? (i := 15) (by decide +kernel)⟩
theorem pmv_4 : ∀ e ∈ pm_mvL 4, pm_okV 4 e := List.forall_mem_cons.mpr ⟨pmv_4_52, List.forall_mem_cons.mpr ⟨pmv_4_56, List.forall_mem_cons.mpr ⟨pmv_4_59, List.forall_mem_cons.mpr ⟨pmv_4_71, List.forall_mem_cons.mpr ⟨pmv_4_80, List.forall_mem_cons.mpr ⟨pmv_4_83, List.forall_mem_cons.mpr ⟨pmv_4_90, List.forall_mem_cons.mpr ⟨pmv_4_94, List.forall_mem_cons.mpr ⟨pmv_4_98, fun _ h => absurd h List.not_mem_nil⟩⟩⟩⟩⟩⟩⟩⟩⟩
theorem pmv_5_53 : pm_okV 5 (53, 40, 1, 1, 5) := ⟨mt_40, rfl, ok_40, rfl, rfl, List.mem_of_getElem? (i := 520) (by decide +kernel), List.mem_of_getElem? (i := 343) (by decide +kernel), List.mem_of_getElem? (i := 344) (by decide +kernel)⟩
theorem pmv_5 : ∀ e ∈ pm_mvL 5, pm_okV 5 e := List.forall_mem_cons.mpr ⟨pmv_5_53, fun _ h => absurd h List.not_mem_nil⟩
theorem pmv_7_71 : pm_okV 7 (71, 85, 1, 1, 7) := ⟨mt_85, rfl, ok_85, rfl, rfl, List.mem_of_getElem? (i := 321) (by decide +kernel), List.mem_of_getElem? (i := 323) (by decide +kernel), List.mem_of_getElem? (i := 0) (by decide +kernel)⟩
theorem pmv_7_80 : pm_okV 7 (80, 14, 1, 1, 2) := ⟨mt_14, rfl, ok_14, rfl, rfl, List.mem_of_getElem? (i := 327) (by decide +kernel), List.mem_of_getElem? (i := 328) (by decide +kernel), List.mem_of_getElem? (i := 329) (by decide +kernel)⟩
theorem pmv_7_87 : pm_okV 7 (87, 90, 2, 1, 7) := ⟨mt_90, rfl, ok_90, rfl, rfl, List.mem_of_getElem? (i := 338) (by decide +kernel), List.mem_of_getElem? (i := 340) (by decide +kernel), List.mem_of_getElem? (i := 1) (by decide +kernel)⟩
theorem pmv_7_91 : pm_okV 7 (91, 15, 0, 1, 2) := ⟨mt_15, rfl, ok_15, rfl, rfl, List.mem_of_getElem? (i := 346) (by decide +kernel), List.mem_of_getElem? (i := 347) (by decide +kernel), List.mem_of_getElem? (i := 348) (by decide +kernel)⟩
theorem pmv_7_97 : pm_okV 7 (97, 42, 6, 1, 5) := ⟨mt_42, rfl, ok_42, rfl, rfl, List.mem_of_getElem? (i := 351) (by decide +kernel), List.mem_of_getElem? (i := 352) (by decide +kernel), List.mem_of_getElem? (i := 353) (by decide +kernel)⟩
theorem pmv_7_100 : pm_okV 7 (100, 16, 0, 1, 2) := ⟨mt_16, rfl, ok_16, rfl, rfl, List.mem_of_getElem? (i := 355) (by decide +kernel), List.mem_of_getElem? (i := 356) (by decide +kernel), List.mem_of_getElem? (i := 357) (by decide +kernel)⟩
theorem pmv_7_103 : pm_okV 7 (103, 44, 3, 0, 5) := ⟨mt_44, rfl, ok_44, rfl, rfl, List.mem_of_getElem? (i := 359) (by decide +kernel), List.mem_of_getElem? (i := 360) (by decide +kernel), List.mem_of_getElem? (i := 361) (by decide +kernel)⟩
theorem pmv_7_107 : pm_okV 7 (107, 28, 1, 0, 4) := ⟨mt_28, rfl, ok_28, rfl, rfl, List.mem_of_getElem? (i := 363) (by decide +kernel), List.mem_of_getElem? (i := 364) (by decide +kernel), List.mem_of_getElem? (i := 365) (by decide +kernel)⟩
theorem pmv_7_111 : pm_okV 7 (111, 40, 1, 1, 5) := ⟨mt_40, rfl, ok_40, rfl, rfl, List.mem_of_getElem? (i := 342) (by decide +kernel), List.mem_of_getElem? (i := 343) (by decide +kernel), List.mem_of_getElem? (i := 344) (by decide +kernel)⟩
theorem pmv_7_126 : pm_okV 7 (126, 49, 1, 0, 5) := ⟨mt_49, rfl, ok_49, rfl, rfl, List.mem_of_getElem? (i := 379) (by decide +kernel), List.mem_of_getElem? (i := 380) (by decide +kernel), List.mem_of_getElem? (i := 381) (by decide +kernel)⟩
theorem pmv_7_150 : pm_okV 7 (150, 91, 1, 1, 7) := ⟨mt_91, rfl, ok_91, rfl, rfl, List.mem_of_getElem? (i := 387) (by decide +kernel), List.mem_of_getElem? (i := 389) (by decide +kernel), List.mem_of_getElem? (i := 2) (by decide +kernel)⟩
theorem pmv_7_153 : pm_okV 7 (153, 45, 2, 1, 5) := ⟨mt_45, rfl, ok_45, rfl, rfl, List.mem_of_getElem? (i := 418) (by decide +kernel), List.mem_of_getElem? (i := 419) (by decide +kernel), List.mem_of_getElem? (i := 420) (by decide +kernel)⟩
theorem pmv_7_157 : pm_okV 7 (157, 46, 1, 1, 5) := ⟨mt_46, rfl, ok_46, rfl, rfl, List.mem_of_getElem? (i := 423) (by decide +kernel), List.mem_of_getElem? (i := 404) (by decide +kernel), List.mem_of_getElem? (i := 405) (by decide +kernel)⟩
theorem pmv_7_160 : pm_okV 7 (160, 5, 0, 0, 1) := ⟨mt_5, rfl, ok_5, rfl, rfl, List.mem_of_getElem? (i := 391) (by decide +kernel), List.mem_of_getElem? (i := 392) (by decide +kernel), List.mem_of_getElem? (i := 393) (by decide +kernel)⟩
theorem pmv_7_172 : pm_okV 7 (172, 9, 1, 1, 1) := ⟨mt_9, rfl, ok_9, rfl, rfl, List.mem_of_getElem? (i := 428) (by decide +kernel), List.mem_of_getElem? (i := 429) (by decide +kernel), List.mem_of_getElem? (i := 430) (by decide +kernel)⟩
theorem pmv_7_179 : pm_okV 7 (179, 10, 0, 1, 1) := ⟨mt_10, rfl, ok_10, rfl, rfl, List.mem_of_getElem? (i := 445) (by decide +kernel), List.mem_of_getElem? (i := 446) (by decide +kernel), List.mem_of_getElem? (i := 447) (by decide +kernel)⟩
theorem pmv_7_182 : pm_okV 7 (182, 19, 0, 1, 3) := ⟨mt_19, rfl, ok_19, rfl, rfl, List.mem_of_getElem? (i := 459) (by decide +kernel), List.mem_of_getElem? (i := 460) (by decide +kernel), List.mem_of_getElem? (i := 461) (by decide +kernel)⟩
theorem pmv_7_187 : pm_okV 7 (187, 24, 0, 1, 3) := ⟨mt_24, rfl, ok_24, rfl, rfl, List.mem_of_getElem? (i := 486) (by decide +kernel), List.mem_of_getElem? (i := 487) (by decide +kernel), List.mem_of_getElem? (i := 488) (by decide +kernel)⟩
theorem pmv_7_190 : pm_okV 7 (190, 25, 0, 1, 3) := ⟨mt_25, rfl, ok_25, rfl, rfl, List.mem_of_getElem? (i := 490) (by decide +kernel), List.mem_of_getElem? (i := 491) (by decide +kernel), List.mem_of_getElem? (i := 492) (by decide +kernel)⟩
theorem pmv_7_193 : pm_okV 7 (193, 26, 0, 0, 3) := ⟨mt_26, rfl, ok_26, rfl, rfl, List.mem_of_getElem? (i := 499) (by decide +kernel), List.mem_of_getElem? (i := 500) (by decide +kernel), List.mem_of_getElem? (i := 501) (by decide +kernel)⟩
theorem pmv_7_199 : pm_okV 7 (199, 41, 2, 1, 5) := ⟨mt_41, rfl, ok_41, rfl, rfl, List.mem_of_getElem? (i := 516) (by decide +kernel), List.mem_of_getElem? (i := 517) (by decide +kernel), List.mem_of_getElem? (i := 518) (by decide +kernel)⟩
theorem pmv_7_226 : pm_okV 7 (226, 30, 2, 1, 4) := ⟨mt_30, rfl, ok_30, rfl, rfl, List.mem_of_getElem? (i := 543) (by decide +kernel), List.mem_of_getElem? (i := 544) (by decide +kernel), List.mem_of_getElem? (i := 545) (by decide +kernel)⟩
theorem pmv_7_229 : pm_okV 7 (229, 31, 0, 1, 4) := ⟨mt_31, rfl, ok_31, rfl, rfl, List.mem_of_getElem? (i := 555) (by decide +kernel), List.mem_of_getElem? (i := 556) (by decide +kernel), List.mem_of_getElem? (i := 557) (by decide +kernel)⟩
theorem pmv_7_238 : pm_okV 7 (238, 29, 1, 1, 4) := ⟨mt_29, rfl, ok_29, rfl, rfl, List.mem_of_getElem? (i := 581) (by decide +kernel), List.mem_of_getElem? (i := 548) (by decide +kernel), List.mem_of_getElem? (i := 549) (by decide +kernel)⟩
theorem pmv_7_241 : pm_okV 7 (241, 48, 1, 1, 5) := ⟨mt_48, rfl, ok_48, rfl, rfl, List.mem_of_getElem? (i := 582) (by decide +kernel), List.mem_of_getElem? (i := 568) (by decide +kernel), List.mem_of_getElem? (i := 569) (by decide +kernel)⟩
theorem pmv_7_243 : pm_okV 7 (243, 36, 0, 1, 4) := ⟨mt_36, rfl, ok_36, rfl, rfl, List.mem_of_getElem? (i := 587) (by decide +kernel), List.mem_of_getElem? (i := 588) (by decide +kernel), List.mem_of_getElem? (i := 589) (by decide +kernel)⟩
theorem pmv_7_253 : pm_okV 7 (253, 2, 1, 1, 0) := ⟨mt_2, rfl, ok_2, rfl, rfl, List.mem_of_getElem? (i := 617) (by decide +kernel), List.mem_of_getElem? (i := 618) (by decide +kernel), List.mem_of_getElem? (i := 619) (by decide +kernel)⟩
theorem pmv_7_256 : pm_okV 7 (256, 3, 2, 1, 0) := ⟨mt_3, rfl, ok_3, rfl, rfl, List.mem_of_getElem? (i := 625) (by decide +kernel), List.mem_of_getElem? (i := 626) (by decide +kernel), List.mem_of_getElem? (i := 627) (by decide +kernel)⟩
theorem pmv_7_259 : pm_okV 7 (259, 43, 2, 1, 5) := ⟨mt_43, rfl, ok_43, rfl, rfl, List.mem_of_getElem? (i := 634) (by decide +kernel), List.mem_of_getElem? (i := 635) (by decide +kernel), List.mem_of_getElem? (i := 636) (by decide +kernel)⟩
theorem pmv_7_262 : pm_okV 7 (262, 17, 1, 0, 2) := ⟨mt_17, rfl, ok_17, rfl, rfl, List.mem_of_getElem? (i := 642) (by decide +kernel), List.mem_of_getElem? (i := 643) (by decide +kernel), List.mem_of_getElem? (i := 644) (by decide +kernel)⟩
theorem pmv_7_265 : pm_okV 7 (265, 13, 1, 1, 2) := ⟨mt_13, rfl, ok_13, rfl, rfl, List.mem_of_getElem? (i := 654) (by decide +kernel), List.mem_of_getElem? (i := 647) (by decide +kernel), List.mem_of_getElem? (i := 648) (by decide +kernel)⟩
theorem pmv_7_277 : pm_okV 7 (277, 51, 1, 1, 6) := ⟨mt_51, rfl, ok_51, rfl, rfl, List.mem_of_getElem? (i := 659) (by decide +kernel), List.mem_of_getElem? (i := 660) (by decide +kernel), List.mem_of_getElem? (i := 661) (by decide +kernel)⟩
theorem pmv_7_278 : pm_okV 7 (278, 52, 1, 1, 6) := ⟨mt_52, rfl, ok_52, rfl, rfl, List.mem_of_getElem? (i := 667) (by decide +kernel), List.mem_of_getElem? (i := 668) (by decide +kernel), List.mem_of_getElem? (i := 669) (by decide +kernel)⟩
theorem pmv_7_281 : pm_okV 7 (281, 92, 0, 1, 7) := ⟨mt_92, rfl, ok_92, rfl, rfl, List.mem_of_getElem? (i := 676) (by decide +kernel), List.mem_of_getElem? (i := 678) (by decide +kernel), List.mem_of_getElem? (i := 17) (by decide +kernel)⟩
theorem pmv_7_284 : pm_okV 7 (284, 93, 0, 1, 7) := ⟨mt_93, rfl, ok_93, rfl, rfl, List.mem_of_getElem? (i := 680) (by decide +kernel), List.mem_of_getElem? (i := 682) (by decide +kernel), List.mem_of_getElem? (i := 18) (by decide +kernel)⟩
theorem pmv_7 : ∀ e ∈ pm_mvL 7, pm_okV 7 e := List.forall_mem_cons.mpr ⟨pmv_7_71, List.forall_mem_cons.mpr ⟨pmv_7_80, List.forall_mem_cons.mpr ⟨pmv_7_87, List.forall_mem_cons.mpr ⟨pmv_7_91, List.forall_mem_cons.mpr ⟨pmv_7_97, List.forall_mem_cons.mpr ⟨pmv_7_100, List.forall_mem_cons.mpr ⟨pmv_7_103, List.forall_mem_cons.mpr ⟨pmv_7_107, List.forall_mem_cons.mpr ⟨pmv_7_111, List.forall_mem_cons.mpr ⟨pmv_7_126, List.forall_mem_cons.mpr ⟨pmv_7_150, List.forall_mem_cons.mpr ⟨pmv_7_153, List.forall_mem_cons.mpr ⟨pmv_7_157, List.forall_mem_cons.mpr ⟨pmv_7_160, List.forall_mem_cons.mpr ⟨pmv_7_172, List.forall_mem_cons.mpr ⟨pmv_7_179, List.forall_mem_cons.mpr ⟨pmv_7_182, List.forall_mem_cons.mpr ⟨pmv_7_187, List.forall_mem_cons.mpr ⟨pmv_7_190, List.forall_mem_cons.mpr ⟨pmv_7_193, List.forall_mem_cons.mpr ⟨pmv_7_199, List.forall_mem_cons.mpr ⟨pmv_7_226, List.forall_mem_cons.mpr ⟨pmv_7_229, List.forall_mem_cons.mpr ⟨pmv_7_238, List.forall_mem_cons.mpr ⟨pmv_7_241, List.forall_mem_cons.mpr ⟨pmv_7_243, List.forall_mem_cons.mpr ⟨pmv_7_253, List.forall_mem_cons.mpr ⟨pmv_7_256, List.forall_mem_cons.mpr ⟨pmv_7_259, List.forall_mem_cons.mpr ⟨pmv_7_262, List.forall_mem_cons.mpr ⟨pmv_7_265, List.forall_mem_cons.mpr ⟨pmv_7_277, List.forall_mem_cons.mpr ⟨pmv_7_278, List.forall_mem_cons.mpr ⟨pmv_7_281, List.forall_mem_cons.mpr ⟨pmv_7_284, fun _ h => absurd h List.not_mem_nil⟩⟩⟩⟩⟩⟩⟩⟩⟩⟩⟩⟩⟩⟩⟩⟩⟩⟩⟩⟩⟩⟩⟩⟩⟩⟩⟩⟩⟩⟩⟩⟩⟩⟩⟩
theorem pmv_8_119 : pm_okV 8 (119, 96, 1, 1, 8) := ⟨mt_96, rfl, ok_96, rfl, rfl, List.mem_of_getElem? (i := 813) (by decide +kernel), List.mem_of_getElem? (i := 815) (by decide +kernel), List.mem_of_getElem? (i := 19) (by decide +kernel)⟩
theorem pmv_8_126 : pm_okV 8 (126, 97, 1, 1, 8) := ⟨mt_97, rfl, ok_97, rfl, rfl, List.mem_of_getElem? (i := 822) (by decide +kernel), List.mem_of_getElem? (i := 824) (by decide +kernel), List.mem_of_getElem? (i := 20) (by decide +kernel)⟩
theorem pmv_8_130 : pm_okV 8 (130, 100, 0, 1, 8) := ⟨mt_100, rfl, ok_100, rfl, rfl, List.mem_of_getElem? (i := 826) (by decide +kernel), List.mem_of_getElem? (i := 828) (by decide +kernel), List.mem_of_getElem? (i := 21) (by decide +kernel)⟩
theorem pmv_8_134 : pm_okV 8 (134, 101, 0, 1, 8) := ⟨mt_101, rfl, ok_101, rfl, rfl, List.mem_of_getElem? (i := 830) (by decide +kernel), List.mem_of_getElem? (i := 832) (by decide +kernel), List.mem_of_getElem? (i := 22) (by decide +kernel)⟩
theorem pmv_8_138 : pm_okV 8 (138, 104, 1, 0, 8) := ⟨mt_104, rfl, ok_104, rfl, rfl, List.mem_of_getElem? (i := 843) (by decide +kernel), List.mem_of_getElem? (i := 845) (by decide +kernel), List.mem_of_getElem? (i := 23) (by decide +kernel)⟩
theorem pmv_8_142 : pm_okV 8 (142, 106, 1, 1, 8) := ⟨mt_106, rfl, ok_106, rfl, rfl, List.mem_of_getElem? (i := 851) (by decide +kernel), List.mem_of_getElem? (i := 853) (by decide +kernel), List.mem_of_getElem? (i := 24) (by decide +kernel)⟩
theorem pmv_8_145 : pm_okV 8 (145, 108, 1, 1, 8) := ⟨mt_108, rfl, ok_108, rfl, rfl, List.mem_of_getElem? (i := 859) (by decide +kernel), List.mem_of_getElem? (i := 861) (by decide +kernel), List.mem_of_getElem? (i := 25) (by decide +kernel)⟩
theorem pmv_8_148 : pm_okV 8 (148, 111, 1, 1, 8) := ⟨mt_111, rfl, ok_111, rfl, rfl, List.mem_of_getElem? (i := 875) (by decide +kernel), List.mem_of_getElem? (i := 877) (by decide +kernel), List.mem_of_getElem? (i := 28) (by decide +kernel)⟩
theorem pmv_8_151 : pm_okV 8 (151, 110, 0, 0, 8) := ⟨mt_110, rfl, ok_110, rfl, rfl, List.mem_of_getElem? (i := 867) (by decide +kernel), List.mem_of_getElem? (i := 869) (by decide +kernel), List.mem_of_getElem? (i := 26) (by decide +kernel)⟩
theorem pmv_8_154 : pm_okV 8 (154, 112, 1, 1, 8) := ⟨mt_112, rfl, ok_112, rfl, rfl, List.mem_of_getElem? (i := 871) (by decide +kernel), List.mem_of_getElem? (i := 873) (by decide +kernel), List.mem_of_getElem? (i := 27) (by decide +kernel)⟩
theorem pmv_8_161 : pm_okV 8 (161, 116, 1, 1, 8) := ⟨mt_116, rfl, ok_116, rfl, rfl, List.mem_of_getElem? (i := 900) (by decide +kernel), List.mem_of_getElem? (i := 902) (by decide +kernel), List.mem_of_getElem? (i := 31) (by decide +kernel)⟩
theorem pmv_8_164 : pm_okV 8 (164, 117, 2, 1, 8) := ⟨mt_117, rfl, ok_117, rfl, rfl, List.mem_of_getElem? (i := 904) (by decide +kernel), List.mem_of_getElem? (i := 906) (by decide +kernel), List.mem_of_getElem? (i := 32) (by decide +kernel)⟩
theorem pmv_8_168 : pm_okV 8 (168, 118, 0, 1, 8) := ⟨mt_118, rfl, ok_118, rfl, rfl, List.mem_of_getElem? (i := 896) (by decide +kernel), List.mem_of_getElem? (i := 898) (by decide +kernel), List.mem_of_getElem? (i := 30) (by decide +kernel)⟩
theorem pmv_8_171 : pm_okV 8 (171, 119, 0, 1, 8) := ⟨mt_119, rfl, ok_119, rfl, rfl, List.mem_of_getElem? (i := 892) (by decide +kernel), List.mem_of_getElem? (i := 894) (by decide +kernel), List.mem_of_getElem? (i := 29) (by decide +kernel)⟩
theorem pmv_8_180 : pm_okV 8 (180, 129, 1, 1, 8) := ⟨mt_129, rfl, ok_129, rfl, rfl, List.mem_of_getElem? (i := 946) (by decide +kernel), List.mem_of_getElem? (i := 948) (by decide +kernel), List.mem_of_getElem? (i := 33) (by decide +kernel)⟩
theorem pmv_8_183 : pm_okV 8 (183, 131, 1, 1, 8) := ⟨mt_131, rfl, ok_131, rfl, rfl, List.mem_of_getElem? (i := 962) (by decide +kernel), List.mem_of_getElem? (i := 964) (by decide +kernel), List.mem_of_getElem? (i := 36) (by decide +kernel)⟩
theorem pmv_8_186 : pm_okV 8 (186, 132, 1, 0, 8) := ⟨mt_132, rfl, ok_132, rfl, rfl, List.mem_of_getElem? (i := 958) (by decide +kernel), List.mem_of_getElem? (i := 960) (by decide +kernel), List.mem_of_getElem? (i := 35) (by decide +kernel)⟩
theorem pmv_8_189 : pm_okV 8 (189, 133, 1, 1, 8) := ⟨mt_133, rfl, ok_133, rfl, rfl, List.mem_of_getElem? (i := 954) (by decide +kernel), List.mem_of_getElem? (i := 956) (by decide +kernel), List.mem_of_getElem? (i := 34) (by decide +kernel)⟩
theorem pmv_8_193 : pm_okV 8 (193, 136, 2, 0, 8) := ⟨mt_136, rfl, ok_136, rfl, rfl, List.mem_of_getElem? (i := 974) (by decide +kernel), List.mem_of_getElem? (i := 976) (by decide +kernel), List.mem_of_getElem? (i := 37) (by decide +kernel)⟩
theorem pmv_8_198 : pm_okV 8 (198, 141, 2, 1, 8) := ⟨mt_141, rfl, ok_141, rfl, rfl, List.mem_of_getElem? (i := 995) (by decide +kernel), List.mem_of_getElem? (i := 997) (by decide +kernel), List.mem_of_getElem? (i := 38) (by decide +kernel)⟩
theorem pmv_8 : ∀ e ∈ pm_mvL 8, pm_okV 8 e := List.forall_mem_cons.mpr ⟨pmv_8_119, List.forall_mem_cons.mpr ⟨pmv_8_126, List.forall_mem_cons.mpr ⟨pmv_8_130, List.forall_mem_cons.mpr ⟨pmv_8_134, List.forall_mem_cons.mpr ⟨pmv_8_138, List.forall_mem_cons.mpr ⟨pmv_8_142, List.forall_mem_cons.mpr ⟨pmv_8_145, List.forall_mem_cons.mpr ⟨pmv_8_148, List.forall_mem_cons.mpr ⟨pmv_8_151, List.forall_mem_cons.mpr ⟨pmv_8_154, List.forall_mem_cons.mpr ⟨pmv_8_161, List.forall_mem_cons.mpr ⟨pmv_8_164, List.forall_mem_cons.mpr ⟨pmv_8_168, List.forall_mem_cons.mpr ⟨pmv_8_171, List.forall_mem_cons.mpr ⟨pmv_8_180, List.forall_mem_cons.mpr ⟨pmv_8_183, List.forall_mem_cons.mpr ⟨pmv_8_186, List.forall_mem_cons.mpr ⟨pmv_8_189, List.forall_mem_cons.mpr ⟨pmv_8_193, List.forall_mem_cons.mpr ⟨pmv_8_198, fun _ h => absurd h List.not_mem_nil⟩⟩⟩⟩⟩⟩⟩⟩⟩⟩⟩⟩⟩⟩⟩⟩⟩⟩⟩⟩
theorem pmv_9_13 : pm_okV 9 (13, 54, 1, 1, 7) := ⟨mt_54, rfl, ok_54, rfl, rfl, List.mem_of_getElem? (i := 313) (by decide +kernel), List.mem_of_getElem? (i := 314) (by decide +kernel), List.mem_of_getElem? (i := 315) (by decide +kernel)⟩
theorem pmv_9_17 : pm_okV 9 (17, 99, 1, 1, 8) := ⟨mt_99, rfl, ok_99, rfl, rfl, List.mem_of_getElem? (i := 806) (by decide +kernel), List.mem_of_getElem? (i := 807) (by decide +kernel), List.mem_of_getElem? (i := 808) (by decide +kernel)⟩
theorem pmv_9_18 : pm_okV 9 (18, 55, 6, 1, 7) := ⟨mt_55, rfl, ok_55, rfl, rfl, List.mem_of_getElem? (i := 331) (by decide +kernel), List.mem_of_getElem? (i := 332) (by decide +kernel), List.mem_of_getElem? (i := 333) (by decide +kernel)⟩
theorem pmv_9_22 : pm_okV 9 (22, 102, 6, 1, 8) := ⟨mt_102, rfl, ok_102, rfl, rfl, List.mem_of_getElem? (i := 818) (by decide +kernel), List.mem_of_getElem? (i := 819) (by decide +kernel), List.mem_of_getElem? (i := 820) (by decide +kernel)⟩
theorem pmv_9_23 : pm_okV 9 (23, 56, 2, 1, 7) := ⟨mt_56, rfl, ok_56, rfl, rfl, List.mem_of_getElem? (i := 367) (by decide +kernel), List.mem_of_getElem? (i := 368) (by decide +kernel), List.mem_of_getElem? (i := 369) (by decide +kernel)⟩
theorem pmv_9_27 : pm_okV 9 (27, 103, 2, 1, 8) := ⟨mt_103, rfl, ok_103, rfl, rfl, List.mem_of_getElem? (i := 834) (by decide +kernel), List.mem_of_getElem? (i := 835) (by decide +kernel), List.mem_of_getElem? (i := 836) (by decide +kernel)⟩
theorem pmv_9_28 : pm_okV 9 (28, 57, 2, 1, 7) := ⟨mt_57, rfl, ok_57, rfl, rfl, List.mem_of_getElem? (i := 372) (by decide +kernel), List.mem_of_getElem? (i := 373) (by decide +kernel), List.mem_of_getElem? (i := 374) (by decide +kernel)⟩
theorem pmv_9_31 : pm_okV 9 (31, 105, 2, 1, 8) := ⟨mt_105, rfl, ok_105, rfl, rfl, List.mem_of_getElem? (i := 839) (by decide +kernel), List.mem_of_getElem? (i := 840) (by decide +kernel), List.mem_of_getElem? (i := 841) (by decide +kernel)⟩
theorem pmv_9_32 : pm_okV 9 (32, 58, 2, 1, 7) := ⟨mt_58, rfl, ok_58, rfl, rfl, List.mem_of_getElem? (i := 383) (by decide +kernel), List.mem_of_getElem? (i := 384) (by decide +kernel), List.mem_of_getElem? (i := 385) (by decide +kernel)⟩
theorem pmv_9_35 : pm_okV 9 (35, 107, 2, 1, 8) := ⟨mt_107, rfl, ok_107, rfl, rfl, List.mem_of_getElem? (i := 847) (by decide +kernel), List.mem_of_getElem? (i := 848) (by decide +kernel), List.mem_of_getElem? (i := 849) (by decide +kernel)⟩
theorem pmv_9_36 : pm_okV 9 (36, 59, 2, 1, 7) := ⟨mt_59, rfl, ok_59, rfl, rfl, List.mem_of_getElem? (i := 414) (by decide +kernel), List.mem_of_getElem? (i := 415) (by decide +kernel), List.mem_of_getElem? (i := 416) (by decide +kernel)⟩
theorem pmv_9_39 : pm_okV 9 (39, 109, 2, 1, 8) := ⟨mt_109, rfl, ok_109, rfl, rfl, List.mem_of_getElem? (i := 855) (by decide +kernel), List.mem_of_getElem? (i := 856) (by decide +kernel), List.mem_of_getElem? (i := 857) (by decide +kernel)⟩
theorem pmv_9_40 : pm_okV 9 (40, 60, 2, 1, 7) := ⟨mt_60, rfl, ok_60, rfl, rfl, List.mem_of_getElem? (i := 424) (by decide +kernel), List.mem_of_getElem? (i := 425) (by decide +kernel), List.mem_of_getElem? (i := 426) (by decide +kernel)⟩
theorem pmv_9_43 : pm_okV 9 (43, 113, 2, 1, 8) := ⟨mt_113, rfl, ok_113, rfl, rfl, List.mem_of_getElem? (i := 863) (by decide +kernel), List.mem_of_getElem? (i := 864) (by decide +kernel), List.mem_of_getElem? (i := 865) (by decide +kernel)⟩
theorem pmv_9_44 : pm_okV 9 (44, 61, 1, 1, 7) := ⟨mt_61, rfl, ok_61, rfl, rfl, List.mem_of_getElem? (i := 436) (by decide +kernel), List.mem_of_getElem? (i := 437) (by decide +kernel), List.mem_of_getElem? (i := 438) (by decide +kernel)⟩
theorem pmv_9_47 : pm_okV 9 (47, 114, 1, 1, 8) := ⟨mt_114, rfl, ok_114, rfl, rfl, List.mem_of_getElem? (i := 879) (by decide +kernel), List.mem_of_getElem? (i := 880) (by decide +kernel), List.mem_of_getElem? (i := 881) (by decide +kernel)⟩
theorem pmv_9_48 : pm_okV 9 (48, 62, 0, 1, 7) := ⟨mt_62, rfl, ok_62, rfl, rfl, List.mem_of_getElem? (i := 441) (by decide +kernel), List.mem_of_getElem? (i := 442) (by decide +kernel), List.mem_of_getElem? (i := 443) (by decide +kernel)⟩
theorem pmv_9_52 : pm_okV 9 (52, 115, 0, 1, 8) := ⟨mt_115, rfl, ok_115, rfl, rfl, List.mem_of_getElem? (i := 884) (by decide +kernel), List.mem_of_getElem? (i := 885) (by decide +kernel), List.mem_of_getElem? (i := 886) (by decide +kernel)⟩
theorem pmv_9_53 : pm_okV 9 (53, 63, 1, 1, 7) := ⟨mt_63, rfl, ok_63, rfl, rfl, List.mem_of_getElem? (i := 455) (by decide +kernel), List.mem_of_getElem? (i := 456) (by decide +kernel), List.mem_of_getElem? (i := 457) (by decide +kernel)⟩
theorem pmv_9_56 : pm_okV 9 (56, 121, 1, 1, 8) := ⟨mt_121, rfl, ok_121, rfl, rfl, List.mem_of_getElem? (i := 888) (by decide +kernel), List.mem_of_getElem? (i := 889) (by decide +kernel), List.mem_of_getElem? (i := 890) (by decide +kernel)⟩
theorem pmv_9_57 : pm_okV 9 (57, 64, 0, 1, 7) := ⟨mt_64, rfl, ok_64, rfl, rfl, List.mem_of_getElem? (i := 495) (by decide +kernel), List.mem_of_getElem? (i := 496) (by decide +kernel), List.mem_of_getElem? (i := 497) (by decide +kernel)⟩
theorem pmv_9_60 : pm_okV 9 (60, 122, 0, 1, 8) := ⟨mt_122, rfl, ok_122, rfl, rfl, List.mem_of_getElem? (i := 911) (by decide +kernel), List.mem_of_getElem? (i := 912) (by decide +kernel), List.mem_of_getElem? (i := 913) (by decide +kernel)⟩
theorem pmv_9_61 : pm_okV 9 (61, 65, 1, 1, 7) := ⟨mt_65, rfl, ok_65, rfl, rfl, List.mem_of_getElem? (i := 507) (by decide +kernel), List.mem_of_getElem? (i := 508) (by decide +kernel), List.mem_of_getElem? (i := 509) (by decide +kernel)⟩
theorem pmv_9_64 : pm_okV 9 (64, 123, 1, 1, 8) := ⟨mt_123, rfl, ok_123, rfl, rfl, List.mem_of_getElem? (i := 918) (by decide +kernel), List.mem_of_getElem? (i := 919) (by decide +kernel), List.mem_of_getElem? (i := 920) (by decide +kernel)⟩
theorem pmv_9_65 : pm_okV 9 (65, 66, 3, 1, 7) := ⟨mt_66, rfl, ok_66, rfl, rfl, List.mem_of_getElem? (i := 512) (by decide +kernel), List.mem_of_getElem? (i := 513) (by decide +kernel), List.mem_of_getElem? (i := 514) (by decide +kernel)⟩
theorem pmv_9_69 : pm_okV 9 (69, 124, 3, 1, 8) := ⟨mt_124, rfl, ok_124, rfl, rfl, List.mem_of_getElem? (i := 922) (by decide +kernel), List.mem_of_getElem? (i := 923) (by decide +kernel), List.mem_of_getElem? (i := 924) (by decide +kernel)⟩
theorem pmv_9_70 : pm_okV 9 (70, 67, 1, 1, 7) := ⟨mt_67, rfl, ok_67, rfl, rfl, List.mem_of_getElem? (i := 523) (by decide +kernel), List.mem_of_getElem? (i := 524) (by decide +kernel), List.mem_of_getElem? (i := 525) (by decide +kernel)⟩
theorem pmv_9_73 : pm_okV 9 (73, 125, 1, 1, 8) := ⟨mt_125, rfl, ok_125, rfl, rfl, List.mem_of_getElem? (i := 926) (by decide +kernel), List.mem_of_getElem? (i := 927) (by decide +kernel), List.mem_of_getElem? (i := 928) (by decide +kernel)⟩
theorem pmv_9_74 : pm_okV 9 (74, 68, 2, 1, 7) := ⟨mt_68, rfl, ok_68, rfl, rfl, List.mem_of_getElem? (i := 527) (by decide +kernel), List.mem_of_getElem? (i := 528) (by decide +kernel), List.mem_of_getElem? (i := 529) (by decide +kernel)⟩
theorem pmv_9_78 : pm_okV 9 (78, 126, 2, 1, 8) := ⟨mt_126, rfl, ok_126, rfl, rfl, List.mem_of_getElem? (i := 930) (by decide +kernel), List.mem_of_getElem? (i := 931) (by decide +kernel), List.mem_of_getElem? (i := 932) (by decide +kernel)⟩
theorem pmv_9_79 : pm_okV 9 (79, 69, 2, 1, 7) := ⟨mt_69, rfl, ok_69, rfl, rfl, List.mem_of_getElem? (i := 531) (by decide +kernel), List.mem_of_getElem? (i := 532) (by decide +kernel), List.mem_of_getElem? (i := 533) (by decide +kernel)⟩
theorem pmv_9_82 : pm_okV 9 (82, 127, 2, 1, 8) := ⟨mt_127, rfl, ok_127, rfl, rfl, List.mem_of_getElem? (i := 934) (by decide +kernel), List.mem_of_getElem? (i := 935) (by decide +kernel), List.mem_of_getElem? (i := 936) (by decide +kernel)⟩
theorem pmv_9_83 : pm_okV 9 (83, 70, 2, 1, 7) := ⟨mt_70, rfl, ok_70, rfl, rfl, List.mem_of_getElem? (i := 535) (by decide +kernel), List.mem_of_getElem? (i := 536) (by decide +kernel), List.mem_of_getElem? (i := 537) (by decide +kernel)⟩
theorem pmv_9_86 : pm_okV 9 (86, 128, 2, 1, 8) := ⟨mt_128, rfl, ok_128, rfl, rfl, List.mem_of_getElem? (i := 938) (by decide +kernel), List.mem_of_getElem? (i := 939) (by decide +kernel), List.mem_of_getElem? (i := 940) (by decide +kernel)⟩
theorem pmv_9_87 : pm_okV 9 (87, 71, 2, 1, 7) := ⟨mt_71, rfl, ok_71, rfl, rfl, List.mem_of_getElem? (i := 539) (by decide +kernel), List.mem_of_getElem? (i := 540) (by decide +kernel), List.mem_of_getElem? (i := 541) (by decide +kernel)⟩
theorem pmv_9_90 : pm_okV 9 (90, 130, 2, 1, 8) := ⟨mt_130, rfl, ok_130, rfl, rfl, List.mem_of_getElem? (i := 942) (by decide +kernel), List.mem_of_getElem? (i := 943) (by decide +kernel), List.mem_of_getElem? (i := 944) (by decide +kernel)⟩
theorem pmv_9_91 : pm_okV 9 (91, 72, 0, 1, 7) := ⟨mt_72, rfl, ok_72, rfl, rfl, List.mem_of_getElem? (i := 551) (by decide +kernel), List.mem_of_getElem? (i := 552) (by decide +kernel), List.mem_of_getElem? (i := 553) (by decide +kernel)⟩
theorem pmv_9_94 : pm_okV 9 (94, 134, 0, 1, 8) := ⟨mt_134, rfl, ok_134, rfl, rfl, List.mem_of_getElem? (i := 950) (by decide +kernel), List.mem_of_getElem? (i := 951) (by decide +kernel), List.mem_of_getElem? (i := 952) (by decide +kernel)⟩
theorem pmv_9_95 : pm_okV 9 (95, 73, 2, 1, 7) := ⟨mt_73, rfl, ok_73, rfl, rfl, List.mem_of_getElem? (i := 577) (by decide +kernel), List.mem_of_getElem? (i := 578) (by decide +kernel), List.mem_of_getElem? (i := 579) (by decide +kernel)⟩
theorem pmv_9_98 : pm_okV 9 (98, 135, 2, 1, 8) := ⟨mt_135, rfl, ok_135, rfl, rfl, List.mem_of_getElem? (i := 966) (by decide +kernel), List.mem_of_getElem? (i := 967) (by decide +kernel), List.mem_of_getElem? (i := 968) (by decide +kernel)⟩
theorem pmv_9_99 : pm_okV 9 (99, 74, 0, 1, 7) := ⟨mt_74, rfl, ok_74, rfl, rfl, List.mem_of_getElem? (i := 583) (by decide +kernel), List.mem_of_getElem? (i := 584) (by decide +kernel), List.mem_of_getElem? (i := 585) (by decide +kernel)⟩
theorem pmv_9_102 : pm_okV 9 (102, 137, 0, 1, 8) := ⟨mt_137, rfl, ok_137, rfl, rfl, List.mem_of_getElem? (i := 970) (by decide +kernel), List.mem_of_getElem? (i := 971) (by decide +kernel), List.mem_of_getElem? (i := 972) (by decide +kernel)⟩
theorem pmv_9_103 : pm_okV 9 (103, 75, 2, 1, 7) := ⟨mt_75, rfl, ok_75, rfl, rfl, List.mem_of_getElem? (i := 604) (by decide +kernel), List.mem_of_getElem? (i := 605) (by decide +kernel), List.mem_of_getElem? (i := 606) (by decide +kernel)⟩
theorem pmv_9_106 : pm_okV 9 (106, 138, 2, 1, 8) := ⟨mt_138, rfl, ok_138, rfl, rfl, List.mem_of_getElem? (i := 978) (by decide +kernel), List.mem_of_getElem? (i := 979) (by decide +kernel), List.mem_of_getElem? (i := 980) (by decide +kernel)⟩
theorem pmv_9_107 : pm_okV 9 (107, 76, 1, 1, 7) := ⟨mt_76, rfl, ok_76, rfl, rfl, List.mem_of_getElem? (i := 608) (by decide +kernel), List.mem_of_getElem? (i := 609) (by decide +kernel), List.mem_of_getElem? (i := 610) (by decide +kernel)⟩
theorem pmv_9_110 : pm_okV 9 (110, 139, 1, 1, 8) := ⟨mt_139, rfl, ok_139, rfl, rfl, List.mem_of_getElem? (i := 982) (by decide +kernel), List.mem_of_getElem? (i := 983) (by decide +kernel), List.mem_of_getElem? (i := 984) (by decide +kernel)⟩
theorem pmv_9_111 : pm_okV 9 (111, 77, 2, 1, 7) := ⟨mt_77, rfl, ok_77, rfl, rfl, List.mem_of_getElem? (i := 612) (by decide +kernel), List.mem_of_getElem? (i := 613) (by decide +kernel), List.mem_of_getElem? (i := 614) (by decide +kernel)⟩
theorem pmv_9_114 : pm_okV 9 (114, 140, 2, 1, 8) := ⟨mt_140, rfl, ok_140, rfl, rfl, List.mem_of_getElem? (i := 986) (by decide +kernel), List.mem_of_getElem? (i := 987) (by decide +kernel), List.mem_of_getElem? (i := 988) (by decide +kernel)⟩
theorem pmv_9_115 : pm_okV 9 (115, 78, 2, 1, 7) := ⟨mt_78, rfl, ok_78, rfl, rfl, List.mem_of_getElem? (i := 630) (by decide +kernel), List.mem_of_getElem? (i := 631) (by decide +kernel), List.mem_of_getElem? (i := 632) (by decide +kernel)⟩
theorem pmv_9_118 : pm_okV 9 (118, 142, 2, 1, 8) := ⟨mt_142, rfl, ok_142, rfl, rfl, List.mem_of_getElem? (i := 991) (by decide +kernel), List.mem_of_getElem? (i := 992) (by decide +kernel), List.mem_of_getElem? (i := 993) (by decide +kernel)⟩
theorem pmv_9_119 : pm_okV 9 (119, 79, 2, 1, 7) := ⟨mt_79, rfl, ok_79, rfl, rfl, List.mem_of_getElem? (i := 638) (by decide +kernel), List.mem_of_getElem? (i := 639) (by decide +kernel), List.mem_of_getElem? (i := 640) (by decide +kernel)⟩
theorem pmv_9_122 : pm_okV 9 (122, 143, 2, 1, 8) := ⟨mt_143, rfl, ok_143, rfl, rfl, List.mem_of_getElem? (i := 999) (by decide +kernel), List.mem_of_getElem? (i := 1000) (by decide +kernel), List.mem_of_getElem? (i := 1001) (by decide +kernel)⟩
theorem pmv_9_123 : pm_okV 9 (123, 80, 2, 1, 7) := ⟨mt_80, rfl, ok_80, rfl, rfl, List.mem_of_getElem? (i := 650) (by decide +kernel), List.mem_of_getElem? (i := 651) (by decide +kernel), List.mem_of_getElem? (i := 652) (by decide +kernel)⟩
theorem pmv_9_126 : pm_okV 9 (126, 144, 2, 1, 8) := ⟨mt_144, rfl, ok_144, rfl, rfl, List.mem_of_getElem? (i := 1003) (by decide +kernel), List.mem_of_getElem? (i := 1004) (by decide +kernel), List.mem_of_getElem? (i := 1005) (by decide +kernel)⟩
theorem pmv_9_127 : pm_okV 9 (127, 81, 1, 1, 7) := ⟨mt_81, rfl, ok_81, rfl, rfl, List.mem_of_getElem? (i := 655) (by decide +kernel), List.mem_of_getElem? (i := 656) (by decide +kernel), List.mem_of_getElem? (i := 657) (by decide +kernel)⟩
theorem pmv_9_130 : pm_okV 9 (130, 145, 1, 1, 8) := ⟨mt_145, rfl, ok_145, rfl, rfl, List.mem_of_getElem? (i := 1007) (by decide +kernel), List.mem_of_getElem? (i := 1008) (by decide +kernel), List.mem_of_getElem? (i := 1009) (by decide +kernel)⟩
theorem pmv_9_131 : pm_okV 9 (131, 82, 0, 1, 7) := ⟨mt_82, rfl, ok_82, rfl, rfl, List.mem_of_getElem? (i := 663) (by decide +kernel), List.mem_of_getElem? (i := 664) (by decide +kernel), List.mem_of_getElem? (i := 665) (by decide +kernel)⟩
theorem pmv_9_134 : pm_okV 9 (134, 146, 0, 1, 8) := ⟨mt_146, rfl, ok_146, rfl, rfl, List.mem_of_getElem? (i := 1011) (by decide +kernel), List.mem_of_getElem? (i := 1012) (by decide +kernel), List.mem_of_getElem? (i := 1013) (by decide +kernel)⟩
theorem pmv_9_135 : pm_okV 9 (135, 83, 1, 1, 7) := ⟨mt_83, rfl, ok_83, rfl, rfl, List.mem_of_getElem? (i := 672) (by decide +kernel), List.mem_of_getElem? (i := 673) (by decide +kernel), List.mem_of_getElem? (i := 674) (by decide +kernel)⟩
theorem pmv_9_138 : pm_okV 9 (138, 147, 1, 1, 8) := ⟨mt_147, rfl, ok_147, rfl, rfl, List.mem_of_getElem? (i := 1015) (by decide +kernel), List.mem_of_getElem? (i := 1016) (by decide +kernel), List.mem_of_getElem? (i := 1017) (by decide +kernel)⟩
theorem pmv_9_139 : pm_okV 9 (139, 84, 1, 1, 7) := ⟨mt_84, rfl, ok_84, rfl, rfl, List.mem_of_getElem? (i := 684) (by decide +kernel), List.mem_of_getElem? (i := 685) (by decide +kernel), List.mem_of_getElem? (i := 686) (by decide +kernel)⟩
theorem pmv_9_142 : pm_okV 9 (142, 148, 1, 1, 8) := ⟨mt_148, rfl, ok_148, rfl, rfl, List.mem_of_getElem? (i := 1019) (by decide +kernel), List.mem_of_getElem? (i := 1020) (by decide +kernel), List.mem_of_getElem? (i := 1021) (by decide +kernel)⟩
theorem pmv_9 : ∀ e ∈ pm_mvL 9, pm_okV 9 e := List.forall_mem_cons.mpr ⟨pmv_9_13, List.forall_mem_cons.mpr ⟨pmv_9_17, List.forall_mem_cons.mpr ⟨pmv_9_18, List.forall_mem_cons.mpr ⟨pmv_9_22, List.forall_mem_cons.mpr ⟨pmv_9_23, List.forall_mem_cons.mpr ⟨pmv_9_27, List.forall_mem_cons.mpr ⟨pmv_9_28, List.forall_mem_cons.mpr ⟨pmv_9_31, List.forall_mem_cons.mpr ⟨pmv_9_32, List.forall_mem_cons.mpr ⟨pmv_9_35, List.forall_mem_cons.mpr ⟨pmv_9_36, List.forall_mem_cons.mpr ⟨pmv_9_39, List.forall_mem_cons.mpr ⟨pmv_9_40, List.forall_mem_cons.mpr ⟨pmv_9_43, List.forall_mem_cons.mpr ⟨pmv_9_44, List.forall_mem_cons.mpr ⟨pmv_9_47, List.forall_mem_cons.mpr ⟨pmv_9_48, List.forall_mem_cons.mpr ⟨pmv_9_52, List.forall_mem_cons.mpr ⟨pmv_9_53, List.forall_mem_cons.mpr ⟨pmv_9_56, List.forall_mem_cons.mpr ⟨pmv_9_57, List.forall_mem_cons.mpr ⟨pmv_9_60, List.forall_mem_cons.mpr ⟨pmv_9_61, List.forall_mem_cons.mpr ⟨pmv_9_64, List.forall_mem_cons.mpr ⟨pmv_9_65, List.forall_mem_cons.mpr ⟨pmv_9_69, List.forall_mem_cons.mpr ⟨pmv_9_70, List.forall_mem_cons.mpr ⟨pmv_9_73, List.forall_mem_cons.mpr ⟨pmv_9_74, List.forall_mem_cons.mpr ⟨pmv_9_78, List.forall_mem_cons.mpr ⟨pmv_9_79, List.forall_mem_cons.mpr ⟨pmv_9_82, List.forall_mem_cons.mpr ⟨pmv_9_83, List.forall_mem_cons.mpr ⟨pmv_9_86, List.forall_mem_cons.mpr ⟨pmv_9_87, List.forall_mem_cons.mpr ⟨pmv_9_90, List.forall_mem_cons.mpr ⟨pmv_9_91, List.forall_mem_cons.mpr ⟨pmv_9_94, List.forall_mem_cons.mpr ⟨pmv_9_95, List.forall_mem_cons.mpr ⟨pmv_9_98, List.forall_mem_cons.mpr ⟨pmv_9_99, List.forall_mem_cons.mpr ⟨pmv_9_102, List.forall_mem_cons.mpr ⟨pmv_9_103, List.forall_mem_cons.mpr ⟨pmv_9_106, List.forall_mem_cons.mpr ⟨pmv_9_107, List.forall_mem_cons.mpr ⟨pmv_9_110, List.forall_mem_cons.mpr ⟨pmv_9_111, List.forall_mem_cons.mpr ⟨pmv_9_114, List.forall_mem_cons.mpr ⟨pmv_9_115, List.forall_mem_cons.mpr ⟨pmv_9_118, List.forall_mem_cons.mpr ⟨pmv_9_119, List.forall_mem_cons.mpr ⟨pmv_9_122, List.forall_mem_cons.mpr ⟨pmv_9_123, List.forall_mem_cons.mpr ⟨pmv_9_126, List.forall_mem_cons.mpr ⟨pmv_9_127, List.forall_mem_cons.mpr ⟨pmv_9_130, List.forall_mem_cons.mpr ⟨pmv_9_131, List.forall_mem_cons.mpr ⟨pmv_9_134, List.forall_mem_cons.mpr ⟨pmv_9_135, List.forall_mem_cons.mpr ⟨pmv_9_138, List.forall_mem_cons.mpr ⟨pmv_9_139, List.forall_mem_cons.mpr ⟨pmv_9_142, fun _ h => absurd h List.not_mem_nil⟩⟩⟩⟩⟩⟩⟩⟩⟩⟩⟩⟩⟩⟩⟩⟩⟩⟩⟩⟩⟩⟩⟩⟩⟩⟩⟩⟩⟩⟩⟩⟩⟩⟩⟩⟩⟩⟩⟩⟩⟩⟩⟩⟩⟩⟩⟩⟩⟩⟩⟩⟩⟩⟩⟩⟩⟩⟩⟩⟩⟩⟩
theorem pmv_all : ∀ own, ∀ e ∈ pm_mvL own, pm_okV own e
  | 0 => pmv_0
  | 1 => pmv_1
  | 2 => pmv_2
  | 3 => pmv_3
  | 4 => pmv_4
  | 5 => pmv_5
  | 6 => fun _ h => absurd h List.not_mem_nil
  | 7 => pmv_7
  | 8 => pmv_8
  | 9 => pmv_9
  | 10 => fun _ h => absurd h List.not_mem_nil
  | 11 => fun _ h => absurd h List.not_mem_nil
  | _ + 12 => fun _ h => absurd h List.not_mem_nil
theorem pms_3_33 : pm_okS 3 (33, 151, 2, 0, 11) := ⟨mt_151, rfl, ok_151, rfl, Or.inl (List.mem_of_getElem? (i := 464) (by decide +kernel)), List.mem_of_getElem? (i := 221) (by decide +kernel)⟩
theorem pms_3_51 : pm_okS 3 (51, 23, 2, 1, 3) := ⟨mt_23, rfl, ok_23, rfl, Or.inl (List.mem_of_getElem? (i := 471) (by decide +kernel)), List.mem_of_getElem? (i := 472) (by decide +kernel)⟩
theorem pms_3 : ∀ e ∈ pm_msL 3, pm_okS 3 e := List.forall_mem_cons.mpr ⟨pms_3_33, List.forall_mem_cons.mpr ⟨pms_3_51, fun _ h => absurd h List.not_mem_nil⟩⟩
theorem pms_4_26 : pm_okS 4 (26, 151, 2, 0, 11) := ⟨mt_151, rfl, ok_151, rfl, Or.inl (List.mem_of_getElem? (i := 220) (by decide +kernel)), List.mem_of_getElem? (i := 221) (by decide +kernel)⟩
theorem pms_4 : ∀ e ∈ pm_msL 4, pm_okS 4 e := List.forall_mem_cons.mpr ⟨pms_4_26, fun _ h => absurd h List.not_mem_nil⟩
theorem pms_7_66 : pm_okS 7 (66, 86, 3, 1, 7) := ⟨mt_86, rfl, ok_86, rfl, Or.inl (List.mem_of_getElem? (i := 317) (by decide +kernel)), List.mem_of_getElem? (i := 318) (by decide +kernel)⟩
theorem pms_7_83 : pm_okS 7 (83, 89, 1, 1, 7) := ⟨mt_89, rfl, ok_89, rfl, Or.inl (List.mem_of_getElem? (i := 335) (by decide +kernel)), List.mem_of_getElem? (i := 336) (by decide +kernel)⟩
theorem pms_7_122 : pm_okS 7 (122, 87, 1, 1, 7) := ⟨mt_87, rfl, ok_87, rfl, Or.inl (List.mem_of_getElem? (i := 376) (by decide +kernel)), List.mem_of_getElem? (i := 377) (by decide +kernel)⟩
theorem pms_7_196 : pm_okS 7 (196, 88, 2, 1, 7) := ⟨mt_88, rfl, ok_88, rfl, Or.inl (List.mem_of_getElem? (i := 511) (by decide +kernel)), List.mem_of_getElem? (i := 505) (by decide +kernel)⟩
theorem pms_7 : ∀ e ∈ pm_msL 7, pm_okS 7 e := List.forall_mem_cons.mpr ⟨pms_7_66, List.forall_mem_cons.mpr ⟨pms_7_83, List.forall_mem_cons.mpr ⟨pms_7_122, List.forall_mem_cons.mpr ⟨pms_7_196, fun _ h => absurd h List.not_mem_nil⟩⟩⟩⟩
theorem pms_8_115 : pm_okS 8 (115, 95, 3, 1, 8) := ⟨mt_95, rfl, ok_95, rfl, Or.inl (List.mem_of_getElem? (i := 810) (by decide +kernel)), List.mem_of_getElem? (i := 811) (by decide +kernel)⟩
theorem pms_8_174 : pm_okS 8 (174, 120, 1, 1, 8) := ⟨mt_120, rfl, ok_120, rfl, Or.inl (List.mem_of_getElem? (i := 908) (by decide +kernel)), List.mem_of_getElem? (i := 909) (by decide +kernel)⟩
theorem pms_8_177 : pm_okS 8 (177, 98, 2, 1, 8) := ⟨mt_98, rfl, ok_98, rfl, Or.inl (List.mem_of_getElem? (i := 915) (by decide +kernel)), List.mem_of_getElem? (i := 916) (by decide +kernel)⟩
theorem pms_8 : ∀ e ∈ pm_msL 8, pm_okS 8 e := List.forall_mem_cons.mpr ⟨pms_8_115, List.forall_mem_cons.mpr ⟨pms_8_174, List.forall_mem_cons.mpr ⟨pms_8_177, fun _ h => absurd h List.not_mem_nil⟩⟩⟩
theorem pms_all : ∀ own, ∀ e ∈ pm_msL own, pm_okS own e
  | 0 => fun _ h => absurd h List.not_mem_nil
  | 1 => fun _ h => absurd h List.not_mem_nil
  | 2 => fun _ h => absurd h List.not_mem_nil
  | 3 => pms_3
  | 4 => pms_4
  | 5 => fun _ h => absurd h List.not_mem_nil
  | 6 => fun _ h => absurd h List.not_mem_nil
  | 7 => pms_7
  | 8 => pms_8
  | 9 => fun _ h => absurd h List.not_mem_nil
  | 10 => fun _ h => absurd h List.not_mem_nil
  | 11 => fun _ h => absurd h List.not_mem_nil
  | _ + 12 => fun _ h => absurd h List.not_mem_nil
theorem pmn_3_85 : pm_okS 3 (85, 88, 2, 1, 7) := ⟨mt_88, rfl, ok_88, rfl, Or.inr ⟨"LampFeast", List.mem_of_getElem? (i := 504) (by decide +kernel)⟩, List.mem_of_getElem? (i := 505) (by decide +kernel)⟩
theorem pmn_3 : ∀ e ∈ pm_mnL 3, pm_okS 3 e := List.forall_mem_cons.mpr ⟨pmn_3_85, fun _ h => absurd h List.not_mem_nil⟩
theorem pmn_4_76 : pm_okS 4 (76, 88, 2, 1, 7) := ⟨mt_88, rfl, ok_88, rfl, Or.inr ⟨"LampFeast", List.mem_of_getElem? (i := 571) (by decide +kernel)⟩, List.mem_of_getElem? (i := 505) (by decide +kernel)⟩
theorem pmn_4 : ∀ e ∈ pm_mnL 4, pm_okS 4 e := List.forall_mem_cons.mpr ⟨pmn_4_76, fun _ h => absurd h List.not_mem_nil⟩
theorem pmn_6_19 : pm_okS 6 (19, 88, 2, 1, 7) := ⟨mt_88, rfl, ok_88, rfl, Or.inr ⟨"LampFeast", List.mem_of_getElem? (i := 671) (by decide +kernel)⟩, List.mem_of_getElem? (i := 505) (by decide +kernel)⟩
theorem pmn_6 : ∀ e ∈ pm_mnL 6, pm_okS 6 e := List.forall_mem_cons.mpr ⟨pmn_6_19, fun _ h => absurd h List.not_mem_nil⟩
theorem pmn_all : ∀ own, ∀ e ∈ pm_mnL own, pm_okS own e
  | 0 => fun _ h => absurd h List.not_mem_nil
  | 1 => fun _ h => absurd h List.not_mem_nil
  | 2 => fun _ h => absurd h List.not_mem_nil
  | 3 => pmn_3
  | 4 => pmn_4
  | 5 => fun _ h => absurd h List.not_mem_nil
  | 6 => pmn_6
  | 7 => fun _ h => absurd h List.not_mem_nil
  | 8 => fun _ h => absurd h List.not_mem_nil
  | 9 => fun _ h => absurd h List.not_mem_nil
  | 10 => fun _ h => absurd h List.not_mem_nil
  | 11 => fun _ h => absurd h List.not_mem_nil
  | _ + 12 => fun _ h => absurd h List.not_mem_nil
theorem pmi_7_15 : pm_okI 7 (15, 12, 0, 0, 2) := ⟨mt_12, rfl, ok_12, rfl, List.mem_of_getElem? (i := 61) (by decide +kernel), List.mem_of_getElem? (i := 62) (by decide +kernel), by decide +kernel, rfl⟩
theorem pmi_7_22 : pm_okI 7 (22, 39, 0, 0, 5) := ⟨mt_39, rfl, ok_39, rfl, List.mem_of_getElem? (i := 89) (by decide +kernel), List.mem_of_getElem? (i := 90) (by decide +kernel), by decide +kernel, rfl⟩
theorem pmi_7_29 : pm_okI 7 (29, 4, 1, 0, 1) := ⟨mt_4, rfl, ok_4, rfl, List.mem_of_getElem? (i := 162) (by decide +kernel), List.mem_of_getElem? (i := 163) (by decide +kernel), by decide +kernel, rfl⟩
theorem pmi_7_38 : pm_okI 7 (38, 18, 2, 0, 3) := ⟨mt_18, rfl, ok_18, rfl, List.mem_of_getElem? (i := 196) (by decide +kernel), List.mem_of_getElem? (i := 197) (by decide +kernel), by decide +kernel, rfl⟩
theorem pmi_7_47 : pm_okI 7 (47, 27, 1, 0, 4) := ⟨mt_27, rfl, ok_27, rfl, List.mem_of_getElem? (i := 216) (by decide +kernel), List.mem_of_getElem? (i := 217) (by decide +kernel), by decide +kernel, rfl⟩
theorem pmi_7_54 : pm_okI 7 (54, 0, 0, 0, 0) := ⟨mt_0, rfl, ok_0, rfl, List.mem_of_getElem? (i := 261) (by decide +kernel), List.mem_of_getElem? (i := 262) (by decide +kernel), by decide +kernel, rfl⟩
theorem pmi_7_61 : pm_okI 7 (61, 50, 0, 0, 6) := ⟨mt_50, rfl, ok_50, rfl, List.mem_of_getElem? (i := 276) (by decide +kernel), List.mem_of_getElem? (i := 277) (by decide +kernel), by decide +kernel, rfl⟩
theorem pmi_7 : ∀ e ∈ pm_miL 7, pm_okI 7 e := List.forall_mem_cons.mpr ⟨pmi_7_15, List.forall_mem_cons.mpr ⟨pmi_7_22, List.forall_mem_cons.mpr ⟨pmi_7_29, List.forall_mem_cons.mpr ⟨pmi_7_38, List.forall_mem_cons.mpr ⟨pmi_7_47, List.forall_mem_cons.mpr ⟨pmi_7_54, List.forall_mem_cons.mpr ⟨pmi_7_61, fun _ h => absurd h List.not_mem_nil⟩⟩⟩⟩⟩⟩⟩
theorem pmi_9_9 : pm_okI 9 (9, 53, 0, 0, 7) := ⟨mt_53, rfl, ok_53, rfl, List.mem_of_getElem? (i := 53) (by decide +kernel), List.mem_of_getElem? (i := 54) (by decide +kernel), by decide +kernel, rfl⟩
theorem pmi_9_12 : pm_okI 9 (12, 94, 0, 0, 8) := ⟨mt_94, rfl, ok_94, rfl, List.mem_of_getElem? (i := 690) (by decide +kernel), List.mem_of_getElem? (i := 691) (by decide +kernel), by decide +kernel, rfl⟩
theorem pmi_9 : ∀ e ∈ pm_miL 9, pm_okI 9 e := List.forall_mem_cons.mpr ⟨pmi_9_9, List.forall_mem_cons.mpr ⟨pmi_9_12, fun _ h => absurd h List.not_mem_nil⟩⟩
theorem pmi_all : ∀ own, ∀ e ∈ pm_miL own, pm_okI own e
  | 0 => fun _ h => absurd h List.not_mem_nil
  | 1 => fun _ h => absurd h List.not_mem_nil
  | 2 => fun _ h => absurd h List.not_mem_nil
  | 3 => fun _ h => absurd h List.not_mem_nil
  | 4 => fun _ h => absurd h List.not_mem_nil
  | 5 => fun _ h => absurd h List.not_mem_nil
  | 6 => fun _ h => absurd h List.not_mem_nil
  | 7 => pmi_7
  | 8 => fun _ h => absurd h List.not_mem_nil
  | 9 => pmi_9
  | 10 => fun _ h => absurd h List.not_mem_nil
  | 11 => fun _ h => absurd h List.not_mem_nil
  | _ + 12 => fun _ h => absurd h List.not_mem_nil
set_option maxRecDepth 50000 in
theorem pm_obj : Cond.instanceMethod Lib.objectInit ∈ lw_tbl ∧ Cond.code Lib.objectInit ⟨#[0xb1]⟩ 1 none ∈ lw_tbl := ⟨List.mem_of_getElem? (i := 57) (by decide +kernel), List.mem_of_getElem? (i := 58) rfl⟩
theorem pmo_0 : ∀ i ∈ pm_oiL 0, Cond.methodLink (pm_cn 0) i Lib.objectInit ∈ lw_tbl := List.forall_mem_cons.mpr ⟨List.mem_of_getElem? (i := 264) (by decide +kernel), fun _ h => absurd h List.not_mem_nil⟩
theorem pmo_1 : ∀ i ∈ pm_oiL 1, Cond.methodLink (pm_cn 1) i Lib.objectInit ∈ lw_tbl := List.forall_mem_cons.mpr ⟨List.mem_of_getElem? (i := 165) (by decide +kernel), fun _ h => absurd h List.not_mem_nil⟩
theorem pmo_2 : ∀ i ∈ pm_oiL 2, Cond.methodLink (pm_cn 2) i Lib.objectInit ∈ lw_tbl := List.forall_mem_cons.mpr ⟨List.mem_of_getElem? (i := 64) (by decide +kernel), fun _ h => absurd h List.not_mem_nil⟩
theorem pmo_3 : ∀ i ∈ pm_oiL 3, Cond.methodLink (pm_cn 3) i Lib.objectInit ∈ lw_tbl := List.forall_mem_cons.mpr ⟨List.mem_of_getElem? (i := 199) (by decide +kernel), fun _ h => absurd h List.not_mem_nil⟩
theorem pmo_4 : ∀ i ∈ pm_oiL 4, Cond.methodLink (pm_cn 4) i Lib.objectInit ∈ lw_tbl := List.forall_mem_cons.mpr ⟨List.mem_of_getElem? (i := 219) (by decide +kernel), fun _ h => absurd h List.not_mem_nil⟩
theorem pmo_5 : ∀ i ∈ pm_oiL 5, Cond.methodLink (pm_cn 5) i Lib.objectInit ∈ lw_tbl := List.forall_mem_cons.mpr ⟨List.mem_of_getElem? (i := 92) (by decide +kernel), fun _ h => absurd h List.not_mem_nil⟩
theorem pmo_6 : ∀ i ∈ pm_oiL 6, Cond.methodLink (pm_cn 6) i Lib.objectInit ∈ lw_tbl := List.forall_mem_cons.mpr ⟨List.mem_of_getElem? (i := 279) (by decide +kernel), fun _ h => absurd h List.not_mem_nil⟩
theorem pmo_7 : ∀ i ∈ pm_oiL 7, Cond.methodLink (pm_cn 7) i Lib.objectInit ∈ lw_tbl := List.forall_mem_cons.mpr ⟨List.mem_of_getElem? (i := 56) (by decide +kernel), fun _ h => absurd h List.not_mem_nil⟩
theorem pmo_8 : ∀ i ∈ pm_oiL 8, Cond.methodLink (pm_cn 8) i Lib.objectInit ∈ lw_tbl := List.forall_mem_cons.mpr ⟨List.mem_of_getElem? (i := 693) (by decide +kernel), fun _ h => absurd h List.not_mem_nil⟩
theorem pmo_all : ∀ own, ∀ i ∈ pm_oiL own, Cond.methodLink (pm_cn own) i Lib.objectInit ∈ lw_tbl
  | 0 => pmo_0
  | 1 => pmo_1
  | 2 => pmo_2
  | 3 => pmo_3
  | 4 => pmo_4
  | 5 => pmo_5
  | 6 => pmo_6
  | 7 => pmo_7
  | 8 => pmo_8
  | _ + 9 => fun _ h => absurd h List.not_mem_nil
def pm_okK (own : Nat) (e : Nat × Int32) : Prop := Cond.constant (pm_cn own) e.1 e.2 ∈ lw_tbl
theorem pmk_3 : ∀ e ∈ pm_kcL 3, pm_okK 3 e := List.forall_mem_cons.mpr ⟨List.mem_of_getElem? (i := 200) (by decide +kernel), List.forall_mem_cons.mpr ⟨List.mem_of_getElem? (i := 470) (by decide +kernel), List.forall_mem_cons.mpr ⟨List.mem_of_getElem? (i := 494) (by decide +kernel), fun _ h => absurd h List.not_mem_nil⟩⟩⟩
theorem pmk_7 : ∀ e ∈ pm_kcL 7, pm_okK 7 e := List.forall_mem_cons.mpr ⟨List.mem_of_getElem? (i := 320) (by decide +kernel), List.forall_mem_cons.mpr ⟨List.mem_of_getElem? (i := 326) (by decide +kernel), List.forall_mem_cons.mpr ⟨List.mem_of_getElem? (i := 350) (by decide +kernel), List.forall_mem_cons.mpr ⟨List.mem_of_getElem? (i := 371) (by decide +kernel), List.forall_mem_cons.mpr ⟨List.mem_of_getElem? (i := 422) (by decide +kernel), List.forall_mem_cons.mpr ⟨List.mem_of_getElem? (i := 440) (by decide +kernel), List.forall_mem_cons.mpr ⟨List.mem_of_getElem? (i := 485) (by decide +kernel), List.forall_mem_cons.mpr ⟨List.mem_of_getElem? (i := 616) (by decide +kernel), List.forall_mem_cons.mpr ⟨List.mem_of_getElem? (i := 325) (by decide +kernel), fun _ h => absurd h List.not_mem_nil⟩⟩⟩⟩⟩⟩⟩⟩⟩
theorem pmk_8 : ∀ e ∈ pm_kcL 8, pm_okK 8 e := List.forall_mem_cons.mpr ⟨List.mem_of_getElem? (i := 817) (by decide +kernel), List.forall_mem_cons.mpr ⟨List.mem_of_getElem? (i := 838) (by decide +kernel), List.forall_mem_cons.mpr ⟨List.mem_of_getElem? (i := 883) (by decide +kernel), List.forall_mem_cons.mpr ⟨List.mem_of_getElem? (i := 990) (by decide +kernel), fun _ h => absurd h List.not_mem_nil⟩⟩⟩⟩
theorem pmk_all : ∀ own, ∀ e ∈ pm_kcL own, pm_okK own e
  | 0 => fun _ h => absurd h List.not_mem_nil
  | 1 => fun _ h => absurd h List.not_mem_nil
  | 2 => fun _ h => absurd h List.not_mem_nil
  | 3 => pmk_3
  | 4 => fun _ h => absurd h List.not_mem_nil
  | 5 => fun _ h => absurd h List.not_mem_nil
  | 6 => fun _ h => absurd h List.not_mem_nil
  | 7 => pmk_7
  | 8 => pmk_8
  | _ + 9 => fun _ h => absurd h List.not_mem_nil
def pm_okN (own : Nat) (e : Nat × Nat) : Prop := e.2 < 9 ∧ Cond.classLink (pm_cn own) e.1 (pm_cn e.2) ∈ lw_tbl
theorem pmw_7 : ∀ e ∈ pm_nwL 7, pm_okN 7 e := List.forall_mem_cons.mpr ⟨⟨by decide, List.mem_of_getElem? (i := 59) (by decide +kernel)⟩, List.forall_mem_cons.mpr ⟨⟨by decide, List.mem_of_getElem? (i := 87) (by decide +kernel)⟩, List.forall_mem_cons.mpr ⟨⟨by decide, List.mem_of_getElem? (i := 160) (by decide +kernel)⟩, List.forall_mem_cons.mpr ⟨⟨by decide, List.mem_of_getElem? (i := 194) (by decide +kernel)⟩, List.forall_mem_cons.mpr ⟨⟨by decide, List.mem_of_getElem? (i := 214) (by decide +kernel)⟩, List.forall_mem_cons.mpr ⟨⟨by decide, List.mem_of_getElem? (i := 259) (by decide +kernel)⟩, List.forall_mem_cons.mpr ⟨⟨by decide, List.mem_of_getElem? (i := 274) (by decide +kernel)⟩, fun _ h => absurd h List.not_mem_nil⟩⟩⟩⟩⟩⟩⟩
theorem pmw_9 : ∀ e ∈ pm_nwL 9, pm_okN 9 e := List.forall_mem_cons.mpr ⟨⟨by decide, List.mem_of_getElem? (i := 51) (by decide +kernel)⟩, List.forall_mem_cons.mpr ⟨⟨by decide, List.mem_of_getElem? (i := 688) (by decide +kernel)⟩, fun _ h => absurd h List.not_mem_nil⟩⟩
theorem pmw_all : ∀ own, ∀ e ∈ pm_nwL own, pm_okN own e
  | 0 => fun _ h => absurd h List.not_mem_nil
  | 1 => fun _ h => absurd h List.not_mem_nil
  | 2 => fun _ h => absurd h List.not_mem_nil
  | 3 => fun _ h => absurd h List.not_mem_nil
  | 4 => fun _ h => absurd h List.not_mem_nil
  | 5 => fun _ h => absurd h List.not_mem_nil
  | 6 => fun _ h => absurd h List.not_mem_nil
  | 7 => pmw_7
  | 8 => fun _ h => absurd h List.not_mem_nil
  | 9 => pmw_9
  | _ + 10 => fun _ h => absurd h List.not_mem_nil
def pm_T : Nat → u_T := fun k => match k with
  | 0 => TX0
  | 1 => TX1
  | 2 => TX2
  | 3 => TX3
  | 4 => TX4
  | 5 => TX5
  | 6 => TX6
  | 7 => TX7
  | _ => TX8
def pm_ty : Nat → Nat → FieldType := fun k => match k with
  | 0 => tyX0
  | 1 => tyX1
  | 2 => tyX2
  | 3 => tyX3
  | 4 => tyX4
  | 5 => tyX5
  | 6 => tyX6
  | 7 => tyX7
  | _ => tyX8
def pm_N : Nat → Nat := fun k => match k with
  | 0 => 2
  | 1 => 7
  | 2 => 5
  | 3 => 4
  | 4 => 10
  | 5 => 13
  | 6 => 2
  | 7 => 8
  | _ => 37
def pm_okC (i : Nat) : Prop := vwCl[i]? = some (pm_cn i, pm_T i, pm_N i) ∧ (∀ w ∈ u_ws (pm_cn i) (pm_T i) (pm_N i), w ∈ lw_tbl) ∧ (∀ k, k < pm_N i → parseFieldDescriptor (pm_T i k).2.2.1 = some (pm_ty i k)) ∧ (∀ a, a < pm_N i → ∀ b, b < pm_N i → a ≠ b → (pm_T i a).2.1 ≠ (pm_T i b).2.1) ∧ Cond.instantiable (pm_cn i) (pm_N i) ∈ lw_tbl ∧ Cond.initialized (pm_cn i) ∈ lw_tbl ∧ (pm_f0 i).length = pm_N i
def pm_okF (i k : Nat) : Prop := (pm_T i k).1 = pm_cn i ∧ (((pm_f0 i)[k]? = some none ∧ pm_ty i k = .int ∧ (pm_T i k).2.2.2 = false) ∨ ((pm_f0 i)[k]? = some (some none) ∧ (pm_T i k).2.2.2 = true ∧ ((∃ n, pm_ty i k = .object n) ∨ ∃ t, pm_ty i k = .array t)))
theorem pmC_0 : pm_okC 0 := ⟨rfl, by decide +kernel, by decide +kernel, by decide +kernel, List.mem_of_getElem? (i := 260) (by decide +kernel), List.mem_of_getElem? (i := 47) (by decide +kernel), rfl⟩
theorem pmF_0_0 : pm_okF 0 0 := ⟨rfl, Or.inr ⟨rfl, rfl, Or.inr ⟨_, rfl⟩⟩⟩
theorem pmF_0_1 : pm_okF 0 1 := ⟨rfl, Or.inl ⟨rfl, rfl, rfl⟩⟩
theorem pmF_0 : ∀ k, k < 2 → pm_okF 0 k
  | 0, _ => pmF_0_0
  | 1, _ => pmF_0_1
  | k + 2, h => absurd h (by omega)
theorem pmC_1 : pm_okC 1 := ⟨rfl, by decide +kernel, by decide +kernel, by decide +kernel, List.mem_of_getElem? (i := 161) (by decide +kernel), List.mem_of_getElem? (i := 43) (by decide +kernel), rfl⟩
theorem pmF_1_0 : pm_okF 1 0 := ⟨rfl, Or.inr ⟨rfl, rfl, Or.inl ⟨_, rfl⟩⟩⟩
theorem pmF_1_1 : pm_okF 1 1 := ⟨rfl, Or.inl ⟨rfl, rfl, rfl⟩⟩
theorem pmF_1_2 : pm_okF 1 2 := ⟨rfl, Or.inr ⟨rfl, rfl, Or.inr ⟨_, rfl⟩⟩⟩
theorem pmF_1_3 : pm_okF 1 3 := ⟨rfl, Or.inr ⟨rfl, rfl, Or.inr ⟨_, rfl⟩⟩⟩
theorem pmF_1_4 : pm_okF 1 4 := ⟨rfl, Or.inr ⟨rfl, rfl, Or.inr ⟨_, rfl⟩⟩⟩
theorem pmF_1_5 : pm_okF 1 5 := ⟨rfl, Or.inr ⟨rfl, rfl, Or.inr ⟨_, rfl⟩⟩⟩
theorem pmF_1_6 : pm_okF 1 6 := ⟨rfl, Or.inr ⟨rfl, rfl, Or.inr ⟨_, rfl⟩⟩⟩
theorem pmF_1 : ∀ k, k < 7 → pm_okF 1 k
  | 0, _ => pmF_1_0
  | 1, _ => pmF_1_1
  | 2, _ => pmF_1_2
  | 3, _ => pmF_1_3
  | 4, _ => pmF_1_4
  | 5, _ => pmF_1_5
  | 6, _ => pmF_1_6
  | k + 7, h => absurd h (by omega)
theorem pmC_2 : pm_okC 2 := ⟨rfl, by decide +kernel, by decide +kernel, by decide +kernel, List.mem_of_getElem? (i := 60) (by decide +kernel), List.mem_of_getElem? (i := 41) (by decide +kernel), rfl⟩
theorem pmF_2_0 : pm_okF 2 0 := ⟨rfl, Or.inl ⟨rfl, rfl, rfl⟩⟩
theorem pmF_2_1 : pm_okF 2 1 := ⟨rfl, Or.inr ⟨rfl, rfl, Or.inr ⟨_, rfl⟩⟩⟩
theorem pmF_2_2 : pm_okF 2 2 := ⟨rfl, Or.inr ⟨rfl, rfl, Or.inr ⟨_, rfl⟩⟩⟩
theorem pmF_2_3 : pm_okF 2 3 := ⟨rfl, Or.inr ⟨rfl, rfl, Or.inr ⟨_, rfl⟩⟩⟩
theorem pmF_2_4 : pm_okF 2 4 := ⟨rfl, Or.inr ⟨rfl, rfl, Or.inr ⟨_, rfl⟩⟩⟩
theorem pmF_2 : ∀ k, k < 5 → pm_okF 2 k
  | 0, _ => pmF_2_0
  | 1, _ => pmF_2_1
  | 2, _ => pmF_2_2
  | 3, _ => pmF_2_3
  | 4, _ => pmF_2_4
  | k + 5, h => absurd h (by omega)
theorem pmC_3 : pm_okC 3 := ⟨rfl, by decide +kernel, by decide +kernel, by decide +kernel, List.mem_of_getElem? (i := 195) (by decide +kernel), List.mem_of_getElem? (i := 44) (by decide +kernel), rfl⟩
theorem pmF_3_0 : pm_okF 3 0 := ⟨rfl, Or.inr ⟨rfl, rfl, Or.inl ⟨_, rfl⟩⟩⟩
theorem pmF_3_1 : pm_okF 3 1 := ⟨rfl, Or.inr ⟨rfl, rfl, Or.inl ⟨_, rfl⟩⟩⟩
theorem pmF_3_2 : pm_okF 3 2 := ⟨rfl, Or.inr ⟨rfl, rfl, Or.inr ⟨_, rfl⟩⟩⟩
theorem pmF_3_3 : pm_okF 3 3 := ⟨rfl, Or.inl ⟨rfl, rfl, rfl⟩⟩
theorem pmF_3 : ∀ k, k < 4 → pm_okF 3 k
  | 0, _ => pmF_3_0
  | 1, _ => pmF_3_1
  | 2, _ => pmF_3_2
  | 3, _ => pmF_3_3
  | k + 4, h => absurd h (by omega)
theorem pmC_4 : pm_okC 4 := ⟨rfl, by decide +kernel, by decide +kernel, by decide +kernel, List.mem_of_getElem? (i := 215) (by decide +kernel), List.mem_of_getElem? (i := 45) (by decide +kernel), rfl⟩
theorem pmF_4_0 : pm_okF 4 0 := ⟨rfl, Or.inr ⟨rfl, rfl, Or.inl ⟨_, rfl⟩⟩⟩
theorem pmF_4_1 : pm_okF 4 1 := ⟨rfl, Or.inl ⟨rfl, rfl, rfl⟩⟩
theorem pmF_4_2 : pm_okF 4 2 := ⟨rfl, Or.inl ⟨rfl, rfl, rfl⟩⟩
theorem pmF_4_3 : pm_okF 4 3 := ⟨rfl, Or.inr ⟨rfl, rfl, Or.inr ⟨_, rfl⟩⟩⟩
theorem pmF_4_4 : pm_okF 4 4 := ⟨rfl, Or.inr ⟨rfl, rfl, Or.inr ⟨_, rfl⟩⟩⟩
theorem pmF_4_5 : pm_okF 4 5 := ⟨rfl, Or.inr ⟨rfl, rfl, Or.inr ⟨_, rfl⟩⟩⟩
theorem pmF_4_6 : pm_okF 4 6 := ⟨rfl, Or.inr ⟨rfl, rfl, Or.inr ⟨_, rfl⟩⟩⟩
theorem pmF_4_7 : pm_okF 4 7 := ⟨rfl, Or.inr ⟨rfl, rfl, Or.inr ⟨_, rfl⟩⟩⟩
theorem pmF_4_8 : pm_okF 4 8 := ⟨rfl, Or.inr ⟨rfl, rfl, Or.inr ⟨_, rfl⟩⟩⟩
theorem pmF_4_9 : pm_okF 4 9 := ⟨rfl, Or.inl ⟨rfl, rfl, rfl⟩⟩
theorem pmF_4 : ∀ k, k < 10 → pm_okF 4 k
  | 0, _ => pmF_4_0
  | 1, _ => pmF_4_1
  | 2, _ => pmF_4_2
  | 3, _ => pmF_4_3
  | 4, _ => pmF_4_4
  | 5, _ => pmF_4_5
  | 6, _ => pmF_4_6
  | 7, _ => pmF_4_7
  | 8, _ => pmF_4_8
  | 9, _ => pmF_4_9
  | k + 10, h => absurd h (by omega)
theorem pmC_5 : pm_okC 5 := ⟨rfl, by decide +kernel, by decide +kernel, by decide +kernel, List.mem_of_getElem? (i := 88) (by decide +kernel), List.mem_of_getElem? (i := 42) (by decide +kernel), rfl⟩
theorem pmF_5_0 : pm_okF 5 0 := ⟨rfl, Or.inl ⟨rfl, rfl, rfl⟩⟩
theorem pmF_5_1 : pm_okF 5 1 := ⟨rfl, Or.inr ⟨rfl, rfl, Or.inr ⟨_, rfl⟩⟩⟩
theorem pmF_5_2 : pm_okF 5 2 := ⟨rfl, Or.inr ⟨rfl, rfl, Or.inr ⟨_, rfl⟩⟩⟩
theorem pmF_5_3 : pm_okF 5 3 := ⟨rfl, Or.inr ⟨rfl, rfl, Or.inr ⟨_, rfl⟩⟩⟩
theorem pmF_5_4 : pm_okF 5 4 := ⟨rfl, Or.inr ⟨rfl, rfl, Or.inr ⟨_, rfl⟩⟩⟩
theorem pmF_5_5 : pm_okF 5 5 := ⟨rfl, Or.inr ⟨rfl, rfl, Or.inr ⟨_, rfl⟩⟩⟩
theorem pmF_5_6 : pm_okF 5 6 := ⟨rfl, Or.inr ⟨rfl, rfl, Or.inr ⟨_, rfl⟩⟩⟩
theorem pmF_5_7 : pm_okF 5 7 := ⟨rfl, Or.inr ⟨rfl, rfl, Or.inr ⟨_, rfl⟩⟩⟩
theorem pmF_5_8 : pm_okF 5 8 := ⟨rfl, Or.inr ⟨rfl, rfl, Or.inr ⟨_, rfl⟩⟩⟩
theorem pmF_5_9 : pm_okF 5 9 := ⟨rfl, Or.inr ⟨rfl, rfl, Or.inr ⟨_, rfl⟩⟩⟩
theorem pmF_5_10 : pm_okF 5 10 := ⟨rfl, Or.inr ⟨rfl, rfl, Or.inr ⟨_, rfl⟩⟩⟩
theorem pmF_5_11 : pm_okF 5 11 := ⟨rfl, Or.inr ⟨rfl, rfl, Or.inr ⟨_, rfl⟩⟩⟩
theorem pmF_5_12 : pm_okF 5 12 := ⟨rfl, Or.inr ⟨rfl, rfl, Or.inr ⟨_, rfl⟩⟩⟩
theorem pmF_5 : ∀ k, k < 13 → pm_okF 5 k
  | 0, _ => pmF_5_0
  | 1, _ => pmF_5_1
  | 2, _ => pmF_5_2
  | 3, _ => pmF_5_3
  | 4, _ => pmF_5_4
  | 5, _ => pmF_5_5
  | 6, _ => pmF_5_6
  | 7, _ => pmF_5_7
  | 8, _ => pmF_5_8
  | 9, _ => pmF_5_9
  | 10, _ => pmF_5_10
  | 11, _ => pmF_5_11
  | 12, _ => pmF_5_12
  | k + 13, h => absurd h (by omega)
theorem pmC_6 : pm_okC 6 := ⟨rfl, by decide +kernel, by decide +kernel, by decide +kernel, List.mem_of_getElem? (i := 275) (by decide +kernel), List.mem_of_getElem? (i := 48) (by decide +kernel), rfl⟩
theorem pmF_6_0 : pm_okF 6 0 := ⟨rfl, Or.inl ⟨rfl, rfl, rfl⟩⟩
theorem pmF_6_1 : pm_okF 6 1 := ⟨rfl, Or.inr ⟨rfl, rfl, Or.inr ⟨_, rfl⟩⟩⟩
theorem pmF_6 : ∀ k, k < 2 → pm_okF 6 k
  | 0, _ => pmF_6_0
  | 1, _ => pmF_6_1
  | k + 2, h => absurd h (by omega)
theorem pmC_7 : pm_okC 7 := ⟨rfl, by decide +kernel, by decide +kernel, by decide +kernel, List.mem_of_getElem? (i := 52) (by decide +kernel), List.mem_of_getElem? (i := 40) (by decide +kernel), rfl⟩
theorem pmF_7_0 : pm_okF 7 0 := ⟨rfl, Or.inr ⟨rfl, rfl, Or.inr ⟨_, rfl⟩⟩⟩
theorem pmF_7_1 : pm_okF 7 1 := ⟨rfl, Or.inr ⟨rfl, rfl, Or.inl ⟨_, rfl⟩⟩⟩
theorem pmF_7_2 : pm_okF 7 2 := ⟨rfl, Or.inr ⟨rfl, rfl, Or.inl ⟨_, rfl⟩⟩⟩
theorem pmF_7_3 : pm_okF 7 3 := ⟨rfl, Or.inr ⟨rfl, rfl, Or.inl ⟨_, rfl⟩⟩⟩
theorem pmF_7_4 : pm_okF 7 4 := ⟨rfl, Or.inr ⟨rfl, rfl, Or.inl ⟨_, rfl⟩⟩⟩
theorem pmF_7_5 : pm_okF 7 5 := ⟨rfl, Or.inr ⟨rfl, rfl, Or.inl ⟨_, rfl⟩⟩⟩
theorem pmF_7_6 : pm_okF 7 6 := ⟨rfl, Or.inr ⟨rfl, rfl, Or.inl ⟨_, rfl⟩⟩⟩
theorem pmF_7_7 : pm_okF 7 7 := ⟨rfl, Or.inr ⟨rfl, rfl, Or.inl ⟨_, rfl⟩⟩⟩
theorem pmF_7 : ∀ k, k < 8 → pm_okF 7 k
  | 0, _ => pmF_7_0
  | 1, _ => pmF_7_1
  | 2, _ => pmF_7_2
  | 3, _ => pmF_7_3
  | 4, _ => pmF_7_4
  | 5, _ => pmF_7_5
  | 6, _ => pmF_7_6
  | 7, _ => pmF_7_7
  | k + 8, h => absurd h (by omega)
theorem pmC_8 : pm_okC 8 := ⟨rfl, by decide +kernel, by decide +kernel, by decide +kernel, List.mem_of_getElem? (i := 689) (by decide +kernel), List.mem_of_getElem? (i := 49) (by decide +kernel), rfl⟩
theorem pmF_8_0 : pm_okF 8 0 := ⟨rfl, Or.inl ⟨rfl, rfl, rfl⟩⟩
theorem pmF_8_1 : pm_okF 8 1 := ⟨rfl, Or.inl ⟨rfl, rfl, rfl⟩⟩
theorem pmF_8_2 : pm_okF 8 2 := ⟨rfl, Or.inl ⟨rfl, rfl, rfl⟩⟩
theorem pmF_8_3 : pm_okF 8 3 := ⟨rfl, Or.inl ⟨rfl, rfl, rfl⟩⟩
theorem pmF_8_4 : pm_okF 8 4 := ⟨rfl, Or.inl ⟨rfl, rfl, rfl⟩⟩
theorem pmF_8_5 : pm_okF 8 5 := ⟨rfl, Or.inl ⟨rfl, rfl, rfl⟩⟩
theorem pmF_8_6 : pm_okF 8 6 := ⟨rfl, Or.inl ⟨rfl, rfl, rfl⟩⟩
theorem pmF_8_7 : pm_okF 8 7 := ⟨rfl, Or.inr ⟨rfl, rfl, Or.inr ⟨_, rfl⟩⟩⟩
theorem pmF_8_8 : pm_okF 8 8 := ⟨rfl, Or.inr ⟨rfl, rfl, Or.inr ⟨_, rfl⟩⟩⟩
theorem pmF_8_9 : pm_okF 8 9 := ⟨rfl, Or.inr ⟨rfl, rfl, Or.inr ⟨_, rfl⟩⟩⟩
theorem pmF_8_10 : pm_okF 8 10 := ⟨rfl, Or.inr ⟨rfl, rfl, Or.inr ⟨_, rfl⟩⟩⟩
theorem pmF_8_11 : pm_okF 8 11 := ⟨rfl, Or.inr ⟨rfl, rfl, Or.inr ⟨_, rfl⟩⟩⟩
theorem pmF_8_12 : pm_okF 8 12 := ⟨rfl, Or.inr ⟨rfl, rfl, Or.inr ⟨_, rfl⟩⟩⟩
theorem pmF_8_13 : pm_okF 8 13 := ⟨rfl, Or.inr ⟨rfl, rfl, Or.inr ⟨_, rfl⟩⟩⟩
theorem pmF_8_14 : pm_okF 8 14 := ⟨rfl, Or.inr ⟨rfl, rfl, Or.inr ⟨_, rfl⟩⟩⟩
theorem pmF_8_15 : pm_okF 8 15 := ⟨rfl, Or.inr ⟨rfl, rfl, Or.inr ⟨_, rfl⟩⟩⟩
theorem pmF_8_16 : pm_okF 8 16 := ⟨rfl, Or.inr ⟨rfl, rfl, Or.inr ⟨_, rfl⟩⟩⟩
theorem pmF_8_17 : pm_okF 8 17 := ⟨rfl, Or.inr ⟨rfl, rfl, Or.inr ⟨_, rfl⟩⟩⟩
theorem pmF_8_18 : pm_okF 8 18 := ⟨rfl, Or.inr ⟨rfl, rfl, Or.inr ⟨_, rfl⟩⟩⟩
theorem pmF_8_19 : pm_okF 8 19 := ⟨rfl, Or.inr ⟨rfl, rfl, Or.inr ⟨_, rfl⟩⟩⟩
theorem pmF_8_20 : pm_okF 8 20 := ⟨rfl, Or.inr ⟨rfl, rfl, Or.inr ⟨_, rfl⟩⟩⟩
theorem pmF_8_21 : pm_okF 8 21 := ⟨rfl, Or.inr ⟨rfl, rfl, Or.inr ⟨_, rfl⟩⟩⟩
theorem pmF_8_22 : pm_okF 8 22 := ⟨rfl, Or.inr ⟨rfl, rfl, Or.inr ⟨_, rfl⟩⟩⟩
theorem pmF_8_23 : pm_okF 8 23 := ⟨rfl, Or.inr ⟨rfl, rfl, Or.inr ⟨_, rfl⟩⟩⟩
theorem pmF_8_24 : pm_okF 8 24 := ⟨rfl, Or.inr ⟨rfl, rfl, Or.inr ⟨_, rfl⟩⟩⟩
theorem pmF_8_25 : pm_okF 8 25 := ⟨rfl, Or.inr ⟨rfl, rfl, Or.inr ⟨_, rfl⟩⟩⟩
theorem pmF_8_26 : pm_okF 8 26 := ⟨rfl, Or.inr ⟨rfl, rfl, Or.inr ⟨_, rfl⟩⟩⟩
theorem pmF_8_27 : pm_okF 8 27 := ⟨rfl, Or.inr ⟨rfl, rfl, Or.inr ⟨_, rfl⟩⟩⟩
theorem pmF_8_28 : pm_okF 8 28 := ⟨rfl, Or.inr ⟨rfl, rfl, Or.inr ⟨_, rfl⟩⟩⟩
theorem pmF_8_29 : pm_okF 8 29 := ⟨rfl, Or.inr ⟨rfl, rfl, Or.inr ⟨_, rfl⟩⟩⟩
theorem pmF_8_30 : pm_okF 8 30 := ⟨rfl, Or.inr ⟨rfl, rfl, Or.inr ⟨_, rfl⟩⟩⟩
theorem pmF_8_31 : pm_okF 8 31 := ⟨rfl, Or.inl ⟨rfl, rfl, rfl⟩⟩
theorem pmF_8_32 : pm_okF 8 32 := ⟨rfl, Or.inr ⟨rfl, rfl, Or.inr ⟨_, rfl⟩⟩⟩
theorem pmF_8_33 : pm_okF 8 33 := ⟨rfl, Or.inr ⟨rfl, rfl, Or.inr ⟨_, rfl⟩⟩⟩
theorem pmF_8_34 : pm_okF 8 34 := ⟨rfl, Or.inr ⟨rfl, rfl, Or.inr ⟨_, rfl⟩⟩⟩
theorem pmF_8_35 : pm_okF 8 35 := ⟨rfl, Or.inr ⟨rfl, rfl, Or.inr ⟨_, rfl⟩⟩⟩
theorem pmF_8_36 : pm_okF 8 36 := ⟨rfl, Or.inr ⟨rfl, rfl, Or.inr ⟨_, rfl⟩⟩⟩
theorem pmF_8 : ∀ k, k < 37 → pm_okF 8 k
  | 0, _ => pmF_8_0
  | 1, _ => pmF_8_1
  | 2, _ => pmF_8_2
  | 3, _ => pmF_8_3
  | 4, _ => pmF_8_4
  | 5, _ => pmF_8_5
  | 6, _ => pmF_8_6
  | 7, _ => pmF_8_7
  | 8, _ => pmF_8_8
  | 9, _ => pmF_8_9
  | 10, _ => pmF_8_10
  | 11, _ => pmF_8_11
  | 12, _ => pmF_8_12
  | 13, _ => pmF_8_13
  | 14, _ => pmF_8_14
  | 15, _ => pmF_8_15
  | 16, _ => pmF_8_16
  | 17, _ => pmF_8_17
  | 18, _ => pmF_8_18
  | 19, _ => pmF_8_19
  | 20, _ => pmF_8_20
  | 21, _ => pmF_8_21
  | 22, _ => pmF_8_22
  | 23, _ => pmF_8_23
  | 24, _ => pmF_8_24
  | 25, _ => pmF_8_25
  | 26, _ => pmF_8_26
  | 27, _ => pmF_8_27
  | 28, _ => pmF_8_28
  | 29, _ => pmF_8_29
  | 30, _ => pmF_8_30
  | 31, _ => pmF_8_31
  | 32, _ => pmF_8_32
  | 33, _ => pmF_8_33
  | 34, _ => pmF_8_34
  | 35, _ => pmF_8_35
  | 36, _ => pmF_8_36
  | k + 37, h => absurd h (by omega)
theorem pmC_all : ∀ i, i < 9 → pm_okC i
  | 0, _ => pmC_0
  | 1, _ => pmC_1
  | 2, _ => pmC_2
  | 3, _ => pmC_3
  | 4, _ => pmC_4
  | 5, _ => pmC_5
  | 6, _ => pmC_6
  | 7, _ => pmC_7
  | 8, _ => pmC_8
  | k + 9, h => absurd h (by omega)
theorem pmF_all : ∀ i, i < 9 → ∀ k, k < pm_N i → pm_okF i k
  | 0, _ => pmF_0
  | 1, _ => pmF_1
  | 2, _ => pmF_2
  | 3, _ => pmF_3
  | 4, _ => pmF_4
  | 5, _ => pmF_5
  | 6, _ => pmF_6
  | 7, _ => pmF_7
  | 8, _ => pmF_8
  | k + 9, h => absurd h (by omega)
def pm_okL (own : Nat) (e : Nat × Nat × Nat) : Prop := e.2.1 < 9 ∧ e.2.2 < pm_N e.2.1 ∧ Cond.fieldLink (pm_cn own) e.1 (pm_T e.2.1 e.2.2).1 (pm_T e.2.1 e.2.2).2.1 (pm_T e.2.1 e.2.2).2.2.1 ∈ lw_tbl
theorem pmf_0 : ∀ e ∈ pm_flL 0, pm_okL 0 e := List.forall_mem_cons.mpr ⟨⟨by decide, by decide, List.mem_of_getElem? (i := 265) (by decide +kernel)⟩, List.forall_mem_cons.mpr ⟨⟨by decide, by decide, List.mem_of_getElem? (i := 267) (by decide +kernel)⟩, fun _ h => absurd h List.not_mem_nil⟩⟩
theorem pmf_1 : ∀ e ∈ pm_flL 1, pm_okL 1 e := List.forall_mem_cons.mpr ⟨⟨by decide, by decide, List.mem_of_getElem? (i := 166) (by decide +kernel)⟩, List.forall_mem_cons.mpr ⟨⟨by decide, by decide, List.mem_of_getElem? (i := 167) (by decide +kernel)⟩, List.forall_mem_cons.mpr ⟨⟨by decide, by decide, List.mem_of_getElem? (i := 169) (by decide +kernel)⟩, List.forall_mem_cons.mpr ⟨⟨by decide, by decide, List.mem_of_getElem? (i := 171) (by decide +kernel)⟩, List.forall_mem_cons.mpr ⟨⟨by decide, by decide, List.mem_of_getElem? (i := 173) (by decide +kernel)⟩, List.forall_mem_cons.mpr ⟨⟨by decide, by decide, List.mem_of_getElem? (i := 176) (by decide +kernel)⟩, List.forall_mem_cons.mpr ⟨⟨by decide, by decide, List.mem_of_getElem? (i := 178) (by decide +kernel)⟩, List.forall_mem_cons.mpr ⟨⟨by decide, by decide, List.mem_of_getElem? (i := 95) (by decide +kernel)⟩, List.forall_mem_cons.mpr ⟨⟨by decide, by decide, List.mem_of_getElem? (i := 104) (by decide +kernel)⟩, List.forall_mem_cons.mpr ⟨⟨by decide, by decide, List.mem_of_getElem? (i := 125) (by decide +kernel)⟩, List.forall_mem_cons.mpr ⟨⟨by decide, by decide, List.mem_of_getElem? (i := 111) (by decide +kernel)⟩, List.forall_mem_cons.mpr ⟨⟨by decide, by decide, List.mem_of_getElem? (i := 114) (by decide +kernel)⟩, List.forall_mem_cons.mpr ⟨⟨by decide, by decide, List.mem_of_getElem? (i := 122) (by decide +kernel)⟩, List.forall_mem_cons.mpr ⟨⟨by decide, by decide, List.mem_of_getElem? (i := 100) (by decide +kernel)⟩, fun _ h => absurd h List.not_mem_nil⟩⟩⟩⟩⟩⟩⟩⟩⟩⟩⟩⟩⟩⟩
theorem pmf_2 : ∀ e ∈ pm_flL 2, pm_okL 2 e := List.forall_mem_cons.mpr ⟨⟨by decide, by decide, List.mem_of_getElem? (i := 67) (by decide +kernel)⟩, List.forall_mem_cons.mpr ⟨⟨by decide, by decide, List.mem_of_getElem? (i := 69) (by decide +kernel)⟩, List.forall_mem_cons.mpr ⟨⟨by decide, by decide, List.mem_of_getElem? (i := 71) (by decide +kernel)⟩, List.forall_mem_cons.mpr ⟨⟨by decide, by decide, List.mem_of_getElem? (i := 73) (by decide +kernel)⟩, List.forall_mem_cons.mpr ⟨⟨by decide, by decide, List.mem_of_getElem? (i := 65) (by decide +kernel)⟩, fun _ h => absurd h List.not_mem_nil⟩⟩⟩⟩⟩
theorem pmf_3 : ∀ e ∈ pm_flL 3, pm_okL 3 e := List.forall_mem_cons.mpr ⟨⟨by decide, by decide, List.mem_of_getElem? (i := 201) (by decide +kernel)⟩, List.forall_mem_cons.mpr ⟨⟨by decide, by decide, List.mem_of_getElem? (i := 202) (by decide +kernel)⟩, List.forall_mem_cons.mpr ⟨⟨by decide, by decide, List.mem_of_getElem? (i := 203) (by decide +kernel)⟩, List.forall_mem_cons.mpr ⟨⟨by decide, by decide, List.mem_of_getElem? (i := 204) (by decide +kernel)⟩, List.forall_mem_cons.mpr ⟨⟨by decide, by decide, List.mem_of_getElem? (i := 94) (by decide +kernel)⟩, List.forall_mem_cons.mpr ⟨⟨by decide, by decide, List.mem_of_getElem? (i := 103) (by decide +kernel)⟩, List.forall_mem_cons.mpr ⟨⟨by decide, by decide, List.mem_of_getElem? (i := 174) (by decide +kernel)⟩, List.forall_mem_cons.mpr ⟨⟨by decide, by decide, List.mem_of_getElem? (i := 99) (by decide +kernel)⟩, List.forall_mem_cons.mpr ⟨⟨by decide, by decide, List.mem_of_getElem? (i := 123) (by decide +kernel)⟩, fun _ h => absurd h List.not_mem_nil⟩⟩⟩⟩⟩⟩⟩⟩⟩
theorem pmf_4 : ∀ e ∈ pm_flL 4, pm_okL 4 e := List.forall_mem_cons.mpr ⟨⟨by decide, by decide, List.mem_of_getElem? (i := 223) (by decide +kernel)⟩, List.forall_mem_cons.mpr ⟨⟨by decide, by decide, List.mem_of_getElem? (i := 224) (by decide +kernel)⟩, List.forall_mem_cons.mpr ⟨⟨by decide, by decide, List.mem_of_getElem? (i := 226) (by decide +kernel)⟩, List.forall_mem_cons.mpr ⟨⟨by decide, by decide, List.mem_of_getElem? (i := 228) (by decide +kernel)⟩, List.forall_mem_cons.mpr ⟨⟨by decide, by decide, List.mem_of_getElem? (i := 230) (by decide +kernel)⟩, List.forall_mem_cons.mpr ⟨⟨by decide, by decide, List.mem_of_getElem? (i := 231) (by decide +kernel)⟩, List.forall_mem_cons.mpr ⟨⟨by decide, by decide, List.mem_of_getElem? (i := 233) (by decide +kernel)⟩, List.forall_mem_cons.mpr ⟨⟨by decide, by decide, List.mem_of_getElem? (i := 235) (by decide +kernel)⟩, List.forall_mem_cons.mpr ⟨⟨by decide, by decide, List.mem_of_getElem? (i := 236) (by decide +kernel)⟩, List.forall_mem_cons.mpr ⟨⟨by decide, by decide, List.mem_of_getElem? (i := 96) (by decide +kernel)⟩, List.forall_mem_cons.mpr ⟨⟨by decide, by decide, List.mem_of_getElem? (i := 106) (by decide +kernel)⟩, List.forall_mem_cons.mpr ⟨⟨by decide, by decide, List.mem_of_getElem? (i := 109) (by decide +kernel)⟩, List.forall_mem_cons.mpr ⟨⟨by decide, by decide, List.mem_of_getElem? (i := 237) (by decide +kernel)⟩, fun _ h => absurd h List.not_mem_nil⟩⟩⟩⟩⟩⟩⟩⟩⟩⟩⟩⟩⟩
theorem pmf_5 : ∀ e ∈ pm_flL 5, pm_okL 5 e := List.forall_mem_cons.mpr ⟨⟨by decide, by decide, List.mem_of_getElem? (i := 98) (by decide +kernel)⟩, List.forall_mem_cons.mpr ⟨⟨by decide, by decide, List.mem_of_getElem? (i := 102) (by decide +kernel)⟩, List.forall_mem_cons.mpr ⟨⟨by decide, by decide, List.mem_of_getElem? (i := 107) (by decide +kernel)⟩, List.forall_mem_cons.mpr ⟨⟨by decide, by decide, List.mem_of_getElem? (i := 110) (by decide +kernel)⟩, List.forall_mem_cons.mpr ⟨⟨by decide, by decide, List.mem_of_getElem? (i := 113) (by decide +kernel)⟩, List.forall_mem_cons.mpr ⟨⟨by decide, by decide, List.mem_of_getElem? (i := 116) (by decide +kernel)⟩, List.forall_mem_cons.mpr ⟨⟨by decide, by decide, List.mem_of_getElem? (i := 118) (by decide +kernel)⟩, List.forall_mem_cons.mpr ⟨⟨by decide, by decide, List.mem_of_getElem? (i := 120) (by decide +kernel)⟩, List.forall_mem_cons.mpr ⟨⟨by decide, by decide, List.mem_of_getElem? (i := 124) (by decide +kernel)⟩, List.forall_mem_cons.mpr ⟨⟨by decide, by decide, List.mem_of_getElem? (i := 127) (by decide +kernel)⟩, List.forall_mem_cons.mpr ⟨⟨by decide, by decide, List.mem_of_getElem? (i := 129) (by decide +kernel)⟩, List.forall_mem_cons.mpr ⟨⟨by decide, by decide, List.mem_of_getElem? (i := 131) (by decide +kernel)⟩, List.forall_mem_cons.mpr ⟨⟨by decide, by decide, List.mem_of_getElem? (i := 93) (by decide +kernel)⟩, fun _ h => absurd h List.not_mem_nil⟩⟩⟩⟩⟩⟩⟩⟩⟩⟩⟩⟩⟩
theorem pmf_6 : ∀ e ∈ pm_flL 6, pm_okL 6 e := List.forall_mem_cons.mpr ⟨⟨by decide, by decide, List.mem_of_getElem? (i := 282) (by decide +kernel)⟩, List.forall_mem_cons.mpr ⟨⟨by decide, by decide, List.mem_of_getElem? (i := 280) (by decide +kernel)⟩, fun _ h => absurd h List.not_mem_nil⟩⟩
theorem pmf_7 : ∀ e ∈ pm_flL 7, pm_okL 7 e := List.forall_mem_cons.mpr ⟨⟨by decide, by decide, List.mem_of_getElem? (i := 288) (by decide +kernel)⟩, List.forall_mem_cons.mpr ⟨⟨by decide, by decide, List.mem_of_getElem? (i := 289) (by decide +kernel)⟩, List.forall_mem_cons.mpr ⟨⟨by decide, by decide, List.mem_of_getElem? (i := 290) (by decide +kernel)⟩, List.forall_mem_cons.mpr ⟨⟨by decide, by decide, List.mem_of_getElem? (i := 291) (by decide +kernel)⟩, List.forall_mem_cons.mpr ⟨⟨by decide, by decide, List.mem_of_getElem? (i := 292) (by decide +kernel)⟩, List.forall_mem_cons.mpr ⟨⟨by decide, by decide, List.mem_of_getElem? (i := 293) (by decide +kernel)⟩, List.forall_mem_cons.mpr ⟨⟨by decide, by decide, List.mem_of_getElem? (i := 294) (by decide +kernel)⟩, List.forall_mem_cons.mpr ⟨⟨by decide, by decide, List.mem_of_getElem? (i := 295) (by decide +kernel)⟩, List.forall_mem_cons.mpr ⟨⟨by decide, by decide, List.mem_of_getElem? (i := 66) (by decide +kernel)⟩, List.forall_mem_cons.mpr ⟨⟨by decide, by decide, List.mem_of_getElem? (i := 97) (by decide +kernel)⟩, List.forall_mem_cons.mpr ⟨⟨by decide, by decide, List.mem_of_getElem? (i := 121) (by decide +kernel)⟩, List.forall_mem_cons.mpr ⟨⟨by decide, by decide, List.mem_of_getElem? (i := 126) (by decide +kernel)⟩, List.forall_mem_cons.mpr ⟨⟨by decide, by decide, List.mem_of_getElem? (i := 101) (by decide +kernel)⟩, List.forall_mem_cons.mpr ⟨⟨by decide, by decide, List.mem_of_getElem? (i := 105) (by decide +kernel)⟩, List.forall_mem_cons.mpr ⟨⟨by decide, by decide, List.mem_of_getElem? (i := 108) (by decide +kernel)⟩, List.forall_mem_cons.mpr ⟨⟨by decide, by decide, List.mem_of_getElem? (i := 112) (by decide +kernel)⟩, List.forall_mem_cons.mpr ⟨⟨by decide, by decide, List.mem_of_getElem? (i := 115) (by decide +kernel)⟩, List.forall_mem_cons.mpr ⟨⟨by decide, by decide, List.mem_of_getElem? (i := 117) (by decide +kernel)⟩, List.forall_mem_cons.mpr ⟨⟨by decide, by decide, List.mem_of_getElem? (i := 119) (by decide +kernel)⟩, List.forall_mem_cons.mpr ⟨⟨by decide, by decide, List.mem_of_getElem? (i := 172) (by decide +kernel)⟩, List.forall_mem_cons.mpr ⟨⟨by decide, by decide, List.mem_of_getElem? (i := 175) (by decide +kernel)⟩, List.forall_mem_cons.mpr ⟨⟨by decide, by decide, List.mem_of_getElem? (i := 177) (by decide +kernel)⟩, List.forall_mem_cons.mpr ⟨⟨by decide, by decide, List.mem_of_getElem? (i := 168) (by decide +kernel)⟩, List.forall_mem_cons.mpr ⟨⟨by decide, by decide, List.mem_of_getElem? (i := 128) (by decide +kernel)⟩, List.forall_mem_cons.mpr ⟨⟨by decide, by decide, List.mem_of_getElem? (i := 130) (by decide +kernel)⟩, List.forall_mem_cons.mpr ⟨⟨by decide, by decide, List.mem_of_getElem? (i := 225) (by decide +kernel)⟩, List.forall_mem_cons.mpr ⟨⟨by decide, by decide, List.mem_of_getElem? (i := 227) (by decide +kernel)⟩, List.forall_mem_cons.mpr ⟨⟨by decide, by decide, List.mem_of_getElem? (i := 229) (by decide +kernel)⟩, List.forall_mem_cons.mpr ⟨⟨by decide, by decide, List.mem_of_getElem? (i := 232) (by decide +kernel)⟩, List.forall_mem_cons.mpr ⟨⟨by decide, by decide, List.mem_of_getElem? (i := 234) (by decide +kernel)⟩, List.forall_mem_cons.mpr ⟨⟨by decide, by decide, List.mem_of_getElem? (i := 266) (by decide +kernel)⟩, List.forall_mem_cons.mpr ⟨⟨by decide, by decide, List.mem_of_getElem? (i := 268) (by decide +kernel)⟩, List.forall_mem_cons.mpr ⟨⟨by decide, by decide, List.mem_of_getElem? (i := 68) (by decide +kernel)⟩, List.forall_mem_cons.mpr ⟨⟨by decide, by decide, List.mem_of_getElem? (i := 70) (by decide +kernel)⟩, List.forall_mem_cons.mpr ⟨⟨by decide, by decide, List.mem_of_getElem? (i := 72) (by decide +kernel)⟩, List.forall_mem_cons.mpr ⟨⟨by decide, by decide, List.mem_of_getElem? (i := 74) (by decide +kernel)⟩, List.forall_mem_cons.mpr ⟨⟨by decide, by decide, List.mem_of_getElem? (i := 281) (by decide +kernel)⟩, List.forall_mem_cons.mpr ⟨⟨by decide, by decide, List.mem_of_getElem? (i := 170) (by decide +kernel)⟩, fun _ h => absurd h List.not_mem_nil⟩⟩⟩⟩⟩⟩⟩⟩⟩⟩⟩⟩⟩⟩⟩⟩⟩⟩⟩⟩⟩⟩⟩⟩⟩⟩⟩⟩⟩⟩⟩⟩⟩⟩⟩⟩⟩⟩
theorem pmf_8 : ∀ e ∈ pm_flL 8, pm_okL 8 e := List.forall_mem_cons.mpr ⟨⟨by decide, by decide, List.mem_of_getElem? (i := 696) (by decide +kernel)⟩, List.forall_mem_cons.mpr ⟨⟨by decide, by decide, List.mem_of_getElem? (i := 697) (by decide +kernel)⟩, List.forall_mem_cons.mpr ⟨⟨by decide, by decide, List.mem_of_getElem? (i := 698) (by decide +kernel)⟩, List.forall_mem_cons.mpr ⟨⟨by decide, by decide, List.mem_of_getElem? (i := 699) (by decide +kernel)⟩, List.forall_mem_cons.mpr ⟨⟨by decide, by decide, List.mem_of_getElem? (i := 701) (by decide +kernel)⟩, List.forall_mem_cons.mpr ⟨⟨by decide, by decide, List.mem_of_getElem? (i := 702) (by decide +kernel)⟩, List.forall_mem_cons.mpr ⟨⟨by decide, by decide, List.mem_of_getElem? (i := 703) (by decide +kernel)⟩, List.forall_mem_cons.mpr ⟨⟨by decide, by decide, List.mem_of_getElem? (i := 704) (by decide +kernel)⟩, List.forall_mem_cons.mpr ⟨⟨by decide, by decide, List.mem_of_getElem? (i := 705) (by decide +kernel)⟩, List.forall_mem_cons.mpr ⟨⟨by decide, by decide, List.mem_of_getElem? (i := 706) (by decide +kernel)⟩, List.forall_mem_cons.mpr ⟨⟨by decide, by decide, List.mem_of_getElem? (i := 707) (by decide +kernel)⟩, List.forall_mem_cons.mpr ⟨⟨by decide, by decide, List.mem_of_getElem? (i := 708) (by decide +kernel)⟩, List.forall_mem_cons.mpr ⟨⟨by decide, by decide, List.mem_of_getElem? (i := 709) (by decide +kernel)⟩, List.forall_mem_cons.mpr ⟨⟨by decide, by decide, List.mem_of_getElem? (i := 710) (by decide +kernel)⟩, List.forall_mem_cons.mpr ⟨⟨by decide, by decide, List.mem_of_getElem? (i := 711) (by decide +kernel)⟩, List.forall_mem_cons.mpr ⟨⟨by decide, by decide, List.mem_of_getElem? (i := 712) (by decide +kernel)⟩, List.forall_mem_cons.mpr ⟨⟨by decide, by decide, List.mem_of_getElem? (i := 713) (by decide +kernel)⟩, List.forall_mem_cons.mpr ⟨⟨by decide, by decide, List.mem_of_getElem? (i := 714) (by decide +kernel)⟩, List.forall_mem_cons.mpr ⟨⟨by decide, by decide, List.mem_of_getElem? (i := 715) (by decide +kernel)⟩, List.forall_mem_cons.mpr ⟨⟨by decide, by decide, List.mem_of_getElem? (i := 716) (by decide +kernel)⟩, List.forall_mem_cons.mpr ⟨⟨by decide, by decide, List.mem_of_getElem? (i := 717) (by decide +kernel)⟩, List.forall_mem_cons.mpr ⟨⟨by decide, by decide, List.mem_of_getElem? (i := 718) (by decide +kernel)⟩, List.forall_mem_cons.mpr ⟨⟨by decide, by decide, List.mem_of_getElem? (i := 719) (by decide +kernel)⟩, List.forall_mem_cons.mpr ⟨⟨by decide, by decide, List.mem_of_getElem? (i := 720) (by decide +kernel)⟩, List.forall_mem_cons.mpr ⟨⟨by decide, by decide, List.mem_of_getElem? (i := 721) (by decide +kernel)⟩, List.forall_mem_cons.mpr ⟨⟨by decide, by decide, List.mem_of_getElem? (i := 722) (by decide +kernel)⟩, List.forall_mem_cons.mpr ⟨⟨by decide, by decide, List.mem_of_getElem? (i := 723) (by decide +kernel)⟩, List.forall_mem_cons.mpr ⟨⟨by decide, by decide, List.mem_of_getElem? (i := 724) (by decide +kernel)⟩, List.forall_mem_cons.mpr ⟨⟨by decide, by decide, List.mem_of_getElem? (i := 726) (by decide +kernel)⟩, List.forall_mem_cons.mpr ⟨⟨by decide, by decide, List.mem_of_getElem? (i := 727) (by decide +kernel)⟩, List.forall_mem_cons.mpr ⟨⟨by decide, by decide, List.mem_of_getElem? (i := 728) (by decide +kernel)⟩, List.forall_mem_cons.mpr ⟨⟨by decide, by decide, List.mem_of_getElem? (i := 729) (by decide +kernel)⟩, List.forall_mem_cons.mpr ⟨⟨by decide, by decide, List.mem_of_getElem? (i := 730) (by decide +kernel)⟩, List.forall_mem_cons.mpr ⟨⟨by decide, by decide, List.mem_of_getElem? (i := 695) (by decide +kernel)⟩, List.forall_mem_cons.mpr ⟨⟨by decide, by decide, List.mem_of_getElem? (i := 694) (by decide +kernel)⟩, List.forall_mem_cons.mpr ⟨⟨by decide, by decide, List.mem_of_getElem? (i := 725) (by decide +kernel)⟩, List.forall_mem_cons.mpr ⟨⟨by decide, by decide, List.mem_of_getElem? (i := 700) (by decide +kernel)⟩, fun _ h => absurd h List.not_mem_nil⟩⟩⟩⟩⟩⟩⟩⟩⟩⟩⟩⟩⟩⟩⟩⟩⟩⟩⟩⟩⟩⟩⟩⟩⟩⟩⟩⟩⟩⟩⟩⟩⟩⟩⟩⟩⟩
theorem pmf_all : ∀ own, ∀ e ∈ pm_flL own, pm_okL own e
  | 0 => pmf_0
  | 1 => pmf_1
  | 2 => pmf_2
  | 3 => pmf_3
  | 4 => pmf_4
  | 5 => pmf_5
  | 6 => pmf_6
  | 7 => pmf_7
  | 8 => pmf_8
  | _ + 9 => fun _ h => absurd h List.not_mem_nil
theorem pm_arr : Cond.arrayClass .int ∈ lw_tbl ∧ Cond.arrayClass .boolean ∈ lw_tbl := ⟨List.mem_of_getElem? (i := 86) (by decide +kernel), List.mem_of_getElem? (i := 159) (by decide +kernel)⟩
set_option maxRecDepth 50000 in
theorem pm_max_ok : Cond.static Lib.Math.max.name ∈ lw_tbl ∧ Cond.initialized "java/lang/Math" ∈ lw_tbl ∧ Cond.code Lib.Math.max.name Lib.Math.max.code 2 (some .int) ∈ lw_tbl := ⟨List.mem_of_getElem? (i := 412) (by decide +kernel), List.mem_of_getElem? (i := 50) (by decide +kernel), List.mem_of_getElem? (i := 413) rfl⟩
set_option maxRecDepth 50000 in
theorem pm_min_ok : Cond.static Lib.Math.min.name ∈ lw_tbl ∧ Cond.initialized "java/lang/Math" ∈ lw_tbl ∧ Cond.code Lib.Math.min.name Lib.Math.min.code 2 (some .int) ∈ lw_tbl := ⟨List.mem_of_getElem? (i := 475) (by decide +kernel), List.mem_of_getElem? (i := 50) (by decide +kernel), List.mem_of_getElem? (i := 476) rfl⟩
def pm_okX (own : Nat) (e : Nat × Nat) : Prop := (e.2 = 0 ∧ Cond.methodLink (pm_cn own) e.1 Lib.Math.max.name ∈ lw_tbl) ∨ (e.2 = 1 ∧ Cond.methodLink (pm_cn own) e.1 Lib.Math.min.name ∈ lw_tbl)
theorem pmx_1 : ∀ e ∈ pm_mxL 1, pm_okX 1 e := List.forall_mem_cons.mpr ⟨Or.inl ⟨rfl, List.mem_of_getElem? (i := 411) (by decide +kernel)⟩, fun _ h => absurd h List.not_mem_nil⟩
theorem pmx_3 : ∀ e ∈ pm_mxL 3, pm_okX 3 e := List.forall_mem_cons.mpr ⟨Or.inr ⟨rfl, List.mem_of_getElem? (i := 474) (by decide +kernel)⟩, fun _ h => absurd h List.not_mem_nil⟩
theorem pmx_4 : ∀ e ∈ pm_mxL 4, pm_okX 4 e := List.forall_mem_cons.mpr ⟨Or.inl ⟨rfl, List.mem_of_getElem? (i := 576) (by decide +kernel)⟩, fun _ h => absurd h List.not_mem_nil⟩
theorem pmx_7 : ∀ e ∈ pm_mxL 7, pm_okX 7 e := List.forall_mem_cons.mpr ⟨Or.inl ⟨rfl, List.mem_of_getElem? (i := 521) (by decide +kernel)⟩, List.forall_mem_cons.mpr ⟨Or.inr ⟨rfl, List.mem_of_getElem? (i := 522) (by decide +kernel)⟩, fun _ h => absurd h List.not_mem_nil⟩⟩
theorem pmx_all : ∀ own, ∀ e ∈ pm_mxL own, pm_okX own e
  | 0 => fun _ h => absurd h List.not_mem_nil
  | 1 => pmx_1
  | 2 => fun _ h => absurd h List.not_mem_nil
  | 3 => pmx_3
  | 4 => pmx_4
  | 5 => fun _ h => absurd h List.not_mem_nil
  | 6 => fun _ h => absurd h List.not_mem_nil
  | 7 => pmx_7
  | 8 => fun _ h => absurd h List.not_mem_nil
  | _ + 9 => fun _ h => absurd h List.not_mem_nil
end
section
/-! what a step asks, as propositions; pure worlds tied to the machine's heap -/
section PME
theorem pm_pi_F {st : List Value} {f : Int32 → List Value → Prop} (h : pm_pi False st f) : ∃ x r, st = .int x :: r ∧ f x r := by
  unfold pm_pi at h; split at h
  · exact ⟨_, _, rfl, h⟩
  · exact h.elim
theorem pm_pl_F {st : List Value} {f : Int64 → List Value → Prop} (h : pm_pl False st f) : ∃ x r, st = .long x :: r ∧ f x r := by
  unfold pm_pl at h; split at h
  · exact ⟨_, _, rfl, h⟩
  · exact h.elim
theorem pm_pr_F {st : List Value} {f : Nat → List Value → Prop} (h : pm_pr False st f) : ∃ x r, st = .ref x :: r ∧ f x r := by
  unfold pm_pr at h; split at h
  · exact ⟨_, _, rfl, h⟩
  · exact h.elim
theorem pm_p1_F {st : List Value} {f : Value → List Value → Prop} (h : pm_p1 False st f) : ∃ v r, st = v :: r ∧ v.category = 1 ∧ f v r := by
  unfold pm_p1 at h; split at h
  · split at h
    · next hb => exact ⟨_, _, rfl, Nat.eq_of_beq_eq_true hb, h⟩
    · exact h.elim
  · exact h.elim
theorem pm_vi_F {v : Value} {f : Int32 → Prop} (h : pm_vi False v f) : ∃ x, v = .int x ∧ f x := by
  unfold pm_vi at h; split at h
  · exact ⟨_, rfl, h⟩
  · exact h.elim
theorem pm_vl_F {v : Value} {f : Int64 → Prop} (h : pm_vl False v f) : ∃ x, v = .long x ∧ f x := by
  unfold pm_vl at h; split at h
  · exact ⟨_, rfl, h⟩
  · exact h.elim
theorem pm_vr_F {v : Value} {f : Nat → Prop} (h : pm_vr False v f) : ∃ x, v = .ref x ∧ f x := by
  unfold pm_vr at h; split at h
  · exact ⟨_, rfl, h⟩
  · exact h.elim
theorem pm_ld_F {L : pmL} {i : Nat} {f : Value → Prop} (h : pm_ld False L i f) : ∃ v, L[i]? = some (some v) ∧ f v := by
  unfold pm_ld at h; split at h
  · next hl => exact ⟨_, hl, h⟩
  · exact h.elim
theorem pm_s1_F {L : pmL} {i : Nat} {v : Value} {f : pmL → Prop} (h : pm_s1 False L i v f) : i < L.length ∧ f ((pm_k2 L i).set i (some v)) := by
  unfold pm_s1 at h; split at h
  · next hl => exact ⟨(List.getElem?_eq_some_iff.mp hl).1, h⟩
  · exact h.elim
theorem pm_s2_F {L : pmL} {i : Nat} {v : Value} {f : pmL → Prop} (h : pm_s2 False L i v f) : i + 1 < L.length ∧ f (((pm_k2 L i).set (i + 1) none).set i (some v)) := by
  unfold pm_s2 at h; split at h
  · next hl => exact ⟨(List.getElem?_eq_some_iff.mp hl).1, h⟩
  · exact h.elim
theorem pm_j_F {pc : Nat} {off : Int} {f : Nat → Prop} (h : pm_j False pc off f) : ∃ t : Nat, (pc : Int) + off = (t : Int) ∧ f t := by
  unfold pm_j at h; split at h
  · next he => exact ⟨_, he, h⟩
  · exact h.elim
theorem pm_ar_F {sh : List pmS} {t a : Nat} {f : Nat → Nat → Prop} (h : pm_ar False sh t a f) : ∃ k s, a = k + 1 ∧ sh[k]? = some s ∧ s.1 = t ∧ f k s.2.1 := by
  unfold pm_ar at h; split at h
  · exact h.elim
  · split at h
    · next hs =>
      split at h
      · next hb => exact ⟨_, _, rfl, hs, Nat.eq_of_beq_eq_true hb, h⟩
      · exact h.elim
    · exact h.elim
theorem pm_ob_F {sh : List pmS} {ci a : Nat} {f : Nat → List (Option (Option Nat)) → Prop} (h : pm_ob False sh ci a f) : ∃ k fl, a = k + 1 ∧ sh[k]? = some (2, ci, fl) ∧ f k fl := by
  unfold pm_ob at h; split at h
  · exact h.elim
  · split at h
    · next s hs =>
      split at h
      · next hb =>
        rw [Bool.and_eq_true] at hb
        obtain ⟨s1, s2, s3⟩ := s
        have e1 : s1 = 2 := Nat.eq_of_beq_eq_true hb.1
        have e2 : s2 = ci := Nat.eq_of_beq_eq_true hb.2
        subst e1; subst e2
        exact ⟨_, _, rfl, hs, h⟩
      · exact h.elim
    · exact h.elim
theorem pm_ix_F {i : Int32} {n : Nat} {f : Nat → Prop} (h : pm_ix False i n f) : vp_in i n ∧ f i.toNatClampNeg := by
  unfold pm_ix at h; split at h
  · exact h.elim
  · next hn => exact ⟨hn, h⟩
theorem pm_o_F {α : Type} {o : Option α} {f : α → Prop} (h : pm_o False o f) : ∃ a, o = some a ∧ f a := by
  unfold pm_o at h; split at h
  · exact ⟨_, rfl, h⟩
  · exact h.elim
theorem pm_b_F {b : Bool} {f : Prop} (h : pm_b False b f) : b = true ∧ f := by
  unfold pm_b at h; split at h
  · exact ⟨rfl, h⟩
  · exact h.elim
theorem pm_gf_F {o : Option (Option (Option Nat))} {fi : Prop} {fr : Nat → Prop} (h : pm_gf False o fi fr) : (o = some none ∧ fi) ∨ ∃ b, o = some (some (some b)) ∧ fr b := by
  unfold pm_gf at h; split at h
  · exact Or.inl ⟨rfl, h⟩
  · exact Or.inr ⟨_, rfl, h⟩
  · exact h.elim
theorem pm_gr_F {o : Option (Option (Option Nat))} {fr : Prop} (h : pm_gr False o fr) : (∃ x, o = some (some x)) ∧ fr := by
  unfold pm_gr at h; split at h
  · exact ⟨⟨_, rfl⟩, h⟩
  · exact h.elim
theorem pm_rt_F {ret : Option FieldType} {x : Int32} {f : Prop} (h : pm_rt False ret x f) : (ret = some .int ∨ (ret = some .boolean ∧ (x = 0 ∨ x = 1))) ∧ f := by
  unfold pm_rt at h; split at h
  · exact ⟨Or.inl rfl, h⟩
  · split at h
    · next hx => exact ⟨Or.inr ⟨rfl, hx⟩, h⟩
    · exact h.elim
  · exact h.elim
theorem pm_at_F {a : ArrayType} {f : Nat → Prop} (h : pm_at False a f) : (a = .int ∧ f 0) ∨ (a = .boolean ∧ f 1) := by
  unfold pm_at at h; split at h
  · exact Or.inl ⟨rfl, h⟩
  · exact Or.inr ⟨rfl, h⟩
  · exact h.elim
theorem pm_lk_mem {α : Type} {i : Nat} : ∀ {l : List (Nat × α)} {a : α}, pm_lk i l = some a → (i, a) ∈ l
  | [], _, h => by cases h
  | (j, b) :: t, a, h => by
    unfold pm_lk at h; split at h
    · next hb =>
      have e : j = i := Nat.eq_of_beq_eq_true hb
      cases h; subst e
      exact List.mem_cons_self
    · exact List.mem_cons_of_mem _ (pm_lk_mem h)
theorem pm_cs_eq : ∀ (l : List Value), pm_cs l = (l.map fun v => v.category).sum
  | [] => rfl
  | v :: t => by rw [pm_cs, pm_cs_eq t, List.map_cons, List.sum_cons]
end PME
/-! the tie -/
def pm_ad (b base : Nat) : Nat → Nat
  | 0 => b
  | k + 1 => base + k
def pm_cv (ad : Nat → Nat) (v : Value) : Value := match v with
  | .ref a => .ref (ad a)
  | v => v
theorem pm_cv_cat (ad : Nat → Nat) (v : Value) : (pm_cv ad v).category = v.category := by cases v <;> rfl
theorem pm_cv_map (ad : Nat → Nat) (l : List Value) : ((l.map (pm_cv ad)).map fun v => v.category).sum = pm_cs l := by
  rw [pm_cs_eq, List.map_map]
  congr 1
  exact List.map_congr_left (fun v _ => pm_cv_cat ad v)
def pm_v1 (ad : Nat → Nat) (x : Int32) (o : Option (Option Nat)) : Value := match o with
  | none => .int x
  | some none => .null
  | some (some a) => .ref (ad a)
def pm_fv (ad : Nat → Nat) (f : Nat → Int32) (fl : List (Option (Option Nat))) : List Value := fl.mapIdx (fun j o => pm_v1 ad (f j) o)
def pm_e (cI cZ : ClassId) (ad : Nat → Nat) (h : pmH) (k : Nat) (s : pmS) : va_E := match s.1 with
  | 0 => .inl (cI, s.2.1, .inl (h k))
  | 1 => .inl (cZ, s.2.1, .inl (h k))
  | _ => .inr (s.2.1, pm_fv ad (h k) s.2.2)
def pm_ws (cI cZ : ClassId) (b base : Nat) (w : pmW) : va_W := w.1.mapIdx (fun k s => (base + k, pm_e cI cZ (pm_ad b base) w.2 k s))
def pm_ss : List pmS → Nat
  | [] => 0
  | s :: t => (if s.1 = 2 then s.2.2.length else s.2.1) + pm_ss t
def pm_has (ad : Nat → Nat) (ls : Array Slot) (L : pmL) : Prop := ls.size = L.length ∧ lv_wf ls ∧ ∀ (i : Nat) (v : Value), L[i]? = some (some v) → ls[i]? = some (.val (pm_cv ad v))
section PMT
variable {cI cZ : ClassId} {b base : Nat} {ad : Nat → Nat}
theorem pm_ws_get {w : pmW} {k : Nat} {s : pmS} (h : w.1[k]? = some s) : (pm_ws cI cZ b base w)[k]? = some (base + k, pm_e cI cZ (pm_ad b base) w.2 k s) := by
  unfold pm_ws; rw [List.getElem?_mapIdx, h]; rfl
theorem pm_ws_inv {w : pmW} {k : Nat} {q : Nat × va_E} (h : (pm_ws cI cZ b base w)[k]? = some q) : q.1 = base + k := by
  unfold pm_ws at h; rw [List.getElem?_mapIdx] at h
  cases hs : w.1[k]? with
  | none => rw [hs] at h; cases h
  | some s => rw [hs] at h; cases h; rfl
theorem pm_ws_len {w : pmW} : (pm_ws cI cZ b base w).length = w.1.length := by unfold pm_ws; rw [List.length_mapIdx]
theorem pm_D (w : pmW) : va_D (fun q => base ≤ q) (pm_ws cI cZ b base w) := by
  refine ⟨fun i j p q hp hq e => ?_, fun k q hq => ?_⟩
  · rw [pm_ws_inv hp, pm_ws_inv hq] at e
    omega
  · rw [pm_ws_inv hq]
    exact Nat.le_add_right _ _
theorem pm_size {D : va_G} {cl : List vw_C} {w : pmW} {H : Heap} (hP : va_P D cl (pm_ws cI cZ b base w) H) (hb : base ≤ H.size) : base + w.1.length ≤ H.size := by
  cases hl : w.1.length with
  | zero => exact hb
  | succ n =>
    have hn : n < w.1.length := by omega
    have h1 := hP n _ (pm_ws_get (cI := cI) (cZ := cZ) (b := b) (base := base) (List.getElem?_eq_getElem hn))
    have h2 := h1.lt
    dsimp only at h2
    omega
/-- one cell has changed -/
theorem pm_ws_set {w w' : pmW} {k : Nat} {s' : pmS} (hl : w'.1.length = w.1.length) (hs : w'.1[k]? = some s') (ho : ∀ j, j ≠ k → w'.1[j]? = w.1[j]? ∧ w'.2 j = w.2 j) : (pm_ws cI cZ b base w).set k (base + k, pm_e cI cZ (pm_ad b base) w'.2 k s') = pm_ws cI cZ b base w' := by
  have hk : k < w.1.length := by rw [← hl]; exact (List.getElem?_eq_some_iff.mp hs).1
  apply List.ext_getElem?
  intro j
  by_cases hj : j = k
  · subst hj
    rw [List.getElem?_set_self (by rw [pm_ws_len]; exact hk), pm_ws_get hs]
  · rw [List.getElem?_set_ne (Ne.symm hj)]
    obtain ⟨h1, h2⟩ := ho j hj
    unfold pm_ws
    rw [List.getElem?_mapIdx, List.getElem?_mapIdx, h1]
    cases w.1[j]? with
    | none => rfl
    | some s => simp only [Option.map_some, pm_e, h2]
theorem pm_ws_app {sh : List pmS} {h h' : pmH} {s : pmS} (ho : ∀ j, j < sh.length → h' j = h j) : pm_ws cI cZ b base (sh ++ [s], h') = pm_ws cI cZ b base (sh, h) ++ [(base + sh.length, pm_e cI cZ (pm_ad b base) h' sh.length s)] := by
  apply List.ext_getElem?
  intro j
  unfold pm_ws
  rw [List.getElem?_mapIdx]
  rcases Nat.lt_trichotomy j sh.length with hj | hj | hj
  · rw [List.getElem?_append_left hj, List.getElem?_append_left (by rw [List.length_mapIdx]; exact hj), List.getElem?_mapIdx]
    dsimp only
    rw [List.getElem?_eq_getElem hj]
    simp only [Option.map_some, pm_e, ho j hj]
  · subst hj
    rw [List.getElem?_append_right (Nat.le_refl _), List.getElem?_append_right (by rw [List.length_mapIdx]; exact Nat.le_refl _)]
    simp
  · rw [List.getElem?_append_right (by omega), List.getElem?_append_right (by rw [List.length_mapIdx]; dsimp only; omega)]
    have e : j - sh.length = (j - sh.length - 1) + 1 := by omega
    rw [List.length_mapIdx]
    dsimp only
    rw [e]
    rfl
theorem pm_ss_app (a c : List pmS) : pm_ss (a ++ c) = pm_ss a + pm_ss c := by
  induction a with
  | nil => simp [pm_ss]
  | cons s t ih => rw [List.cons_append, pm_ss, pm_ss, ih]; omega
theorem pm_ss_set : ∀ (sh : List pmS) (k : Nat) (c : Nat) (fl fl' : List (Option (Option Nat))), sh[k]? = some (2, c, fl) → fl'.length = fl.length → pm_ss (sh.set k (2, c, fl')) = pm_ss sh
  | [], _, _, _, _, h, _ => by cases h
  | s :: t, 0, c, fl, fl', h, hl => by
    cases h
    rw [List.set_cons_zero, pm_ss, pm_ss]
    simp [hl]
  | s :: t, k + 1, c, fl, fl', h, hl => by
    rw [List.set_cons_succ, pm_ss, pm_ss, pm_ss_set t k c fl fl' h hl]
/-! the locals -/
def pm_al (ad : Nat → Nat) (L : pmL) : List (Nat × Value) := (List.range L.length).filterMap (fun i => match L[i]? with
  | some (some v) => some (i, pm_cv ad v)
  | _ => none)
theorem pm_al_mem {L : pmL} {q : Nat × Value} : q ∈ pm_al ad L ↔ ∃ v, L[q.1]? = some (some v) ∧ q.2 = pm_cv ad v := by
  unfold pm_al
  rw [List.mem_filterMap]
  constructor
  · rintro ⟨i, -, h⟩
    split at h
    · next v hv => cases h; exact ⟨v, hv, rfl⟩
    · cases h
  · rintro ⟨v, hv, he⟩
    refine ⟨q.1, List.mem_range.mpr (List.getElem?_eq_some_iff.mp hv).1, ?_⟩
    rw [hv]
    simp only [Option.some.injEq]
    exact Prod.ext rfl he.symm
theorem pm_has.lv {ls : Array Slot} {L : pmL} (h : pm_has ad ls L) : lv_has ls L.length (pm_al ad L) := by
  refine ⟨h.1, h.2.1, fun q hq => ?_⟩
  obtain ⟨v, hv, he⟩ := pm_al_mem.mp hq
  rw [he]
  exact h.2.2 q.1 v hv
theorem pm_k2_len (L : pmL) (i : Nat) : (pm_k2 L i).length = L.length := by
  cases i with
  | zero => rfl
  | succ i =>
    unfold pm_k2
    dsimp only
    split
    · split
      · exact List.length_set
      · rfl
    · rfl
theorem pm_k2_get {L : pmL} {i j : Nat} {u : Value} (h : (pm_k2 L i)[j]? = some (some u)) : L[j]? = some (some u) ∧ ¬ (j + 1 = i ∧ u.category = 2) := by
  cases i with
  | zero => exact ⟨h, fun q => by omega⟩
  | succ i =>
    unfold pm_k2 at h
    dsimp only at h
    split at h
    · next v hv =>
      split at h
      · next hb =>
        by_cases hj : j = i
        · subst hj
          rw [List.getElem?_set_self (List.getElem?_eq_some_iff.mp hv).1] at h
          cases h
        · rw [List.getElem?_set_ne (Ne.symm hj)] at h
          exact ⟨h, fun q => hj (by omega)⟩
      · next hb =>
        refine ⟨h, fun q => ?_⟩
        have hj : j = i := by omega
        subst hj
        rw [hv] at h
        cases h
        rw [q.2] at hb
        cases hb
    · next hn =>
      refine ⟨h, fun q => ?_⟩
      have hj : j = i := by omega
      subst hj
      exact hn u h
theorem pm_has.s1 {ls' : Array Slot} {L : pmL} {i : Nat} {v : Value} (hi : i < L.length) (h : lv_has ls' L.length ((i, pm_cv ad v) :: (pm_al ad L).filter (fun q => !(q.1 == i) && !(q.1 + 1 == i && q.2.category == 2)))) : pm_has ad ls' ((pm_k2 L i).set i (some v)) := by
  refine ⟨by rw [List.length_set, pm_k2_len]; exact h.1, h.2.1, fun j u hu => ?_⟩
  by_cases hj : j = i
  · subst hj
    rw [List.getElem?_set_self (by rw [pm_k2_len]; exact hi)] at hu
    cases hu
    exact h.2.2 (j, pm_cv ad v) List.mem_cons_self
  · rw [List.getElem?_set_ne (Ne.symm hj)] at hu
    obtain ⟨h1, h2⟩ := pm_k2_get hu
    refine h.2.2 (j, pm_cv ad u) (List.mem_cons_of_mem _ (List.mem_filter.mpr ⟨pm_al_mem.mpr ⟨u, h1, rfl⟩, ?_⟩))
    simp only [Bool.and_eq_true, Bool.not_eq_true', beq_eq_false_iff_ne, ne_eq, Bool.and_eq_false_iff, pm_cv_cat]
    refine ⟨hj, ?_⟩
    by_cases h3 : j + 1 = i
    · exact Or.inr (fun h4 => h2 ⟨h3, h4⟩)
    · exact Or.inl h3
theorem pm_has.s2 {ls' : Array Slot} {L : pmL} {i : Nat} {v : Value} (hi : i + 1 < L.length) (h : lv_has ls' L.length ((i, pm_cv ad v) :: (pm_al ad L).filter (fun q => !(q.1 == i) && (!(q.1 == i + 1) && !(q.1 + 1 == i && q.2.category == 2))))) : pm_has ad ls' (((pm_k2 L i).set (i + 1) none).set i (some v)) := by
  refine ⟨by rw [List.length_set, List.length_set, pm_k2_len]; exact h.1, h.2.1, fun j u hu => ?_⟩
  by_cases hj : j = i
  · subst hj
    rw [List.getElem?_set_self (by rw [List.length_set, pm_k2_len]; omega)] at hu
    cases hu
    exact h.2.2 (j, pm_cv ad v) List.mem_cons_self
  · rw [List.getElem?_set_ne (Ne.symm hj)] at hu
    by_cases hj2 : j = i + 1
    · subst hj2
      rw [List.getElem?_set_self (by rw [pm_k2_len]; exact hi)] at hu
      cases hu
    · rw [List.getElem?_set_ne (Ne.symm hj2)] at hu
      obtain ⟨h1, h2⟩ := pm_k2_get hu
      refine h.2.2 (j, pm_cv ad u) (List.mem_cons_of_mem _ (List.mem_filter.mpr ⟨pm_al_mem.mpr ⟨u, h1, rfl⟩, ?_⟩))
      simp only [Bool.and_eq_true, Bool.not_eq_true', beq_eq_false_iff_ne, ne_eq, Bool.and_eq_false_iff, pm_cv_cat]
      refine ⟨hj, hj2, ?_⟩
      by_cases h3 : j + 1 = i
      · exact Or.inr (fun h4 => h2 ⟨h3, h4⟩)
      · exact Or.inl h3
end PMT
end
section
/-! one step of the small machine is a step of the machine -/
def pm_gt : List Cond := lw_tbl.filter goodWord
theorem pm_g {w : Cond} (h : w ∈ lw_tbl) (hg : goodWord w = true) : w ∈ pm_gt := List.mem_filter.mpr ⟨h, hg⟩
theorem pm_GI {ws : List Cond} (h : ∀ w ∈ ws, w ∈ pm_gt) : GoodIn pm_gt ws := fun w hw => ⟨h w hw, good_of_word (List.mem_filter.mp (h w hw)).2⟩
theorem pm_g_lay {C : String} {T : u_T} {N : Nat} (h : ∀ w ∈ u_ws C T N, w ∈ lw_tbl) : ∀ w ∈ u_ws C T N, w ∈ pm_gt := by
  intro w hw
  refine pm_g (h w hw) ?_
  obtain ⟨k, -, rfl⟩ := List.mem_map.mp hw
  unfold u_lay
  split <;> rfl
theorem pm_up_same (h : pmH) (k j : Nat) (x : Int32) : pm_up h k j x k = upd (h k) j x := if_pos rfl
theorem pm_up_ne {h : pmH} {k j a : Nat} {x : Int32} (ha : a ≠ k) : pm_up h k j x a = h a := if_neg ha
theorem pm_z_same (h : pmH) (k : Nat) : pm_z h k k = fun _ => 0 := if_pos rfl
theorem pm_z_ne {h : pmH} {k a : Nat} (ha : a ≠ k) : pm_z h k a = h a := if_neg ha
theorem pm_fv_get {ad : Nat → Nat} {f : Nat → Int32} {fl : List (Option (Option Nat))} {j : Nat} {o : Option (Option Nat)} (h : fl[j]? = some o) : (pm_fv ad f fl)[j]? = some (pm_v1 ad (f j) o) := by
  unfold pm_fv; rw [List.getElem?_mapIdx, h]; rfl
theorem pm_fv_upd {ad : Nat → Nat} {f : Nat → Int32} {fl : List (Option (Option Nat))} {j : Nat} {x : Int32} (h : fl[j]? = some none) : pm_fv ad (upd f j x) fl = (pm_fv ad f fl).set j (.int x) := by
  have hj := (List.getElem?_eq_some_iff.mp h).1
  apply List.ext_getElem?
  intro i
  unfold pm_fv
  by_cases hi : i = j
  · subst hi
    rw [List.getElem?_set_self (by rw [List.length_mapIdx]; exact hj), List.getElem?_mapIdx, h]
    simp [pm_v1, upd]
  · rw [List.getElem?_set_ne (Ne.symm hi), List.getElem?_mapIdx, List.getElem?_mapIdx]
    simp [upd, hi]
theorem pm_fv_set {ad : Nat → Nat} {f : Nat → Int32} {fl : List (Option (Option Nat))} {j a : Nat} : pm_fv ad f (fl.set j (some (some a))) = (pm_fv ad f fl).set j (.ref (ad a)) := by
  apply List.ext_getElem?
  intro i
  unfold pm_fv
  by_cases hi : i = j
  · subst hi
    by_cases hj : i < fl.length
    · rw [List.getElem?_set_self (by rw [List.length_mapIdx]; exact hj), List.getElem?_mapIdx, List.getElem?_set_self hj]
      rfl
    · rw [List.getElem?_eq_none (by rw [List.length_mapIdx, List.length_set]; omega), List.getElem?_eq_none (by rw [List.length_set, List.length_mapIdx]; omega)]
  · rw [List.getElem?_set_ne (Ne.symm hi), List.getElem?_mapIdx, List.getElem?_mapIdx, List.getElem?_set_ne (Ne.symm hi)]
theorem pm_int_eq (n : Int) : Int32.ofInt n = pm_int n := by
  cases n with
  | ofNat k => first | exact Int32.ofInt_eq_ofNat | rfl
  | negSucc k =>
    simp only [pm_int, nI, Int.negSucc_eq]
    rw [Int32.ofInt_neg]
    congr 1
theorem pm_int_b {n : Int} (h1 : -128 ≤ n) (h2 : n < 128) : (Int8.ofInt n).toInt32 = pm_int n := by
  rw [← pm_int_eq, ← Int32.toInt_inj, Int8.toInt_toInt32, Int32.toInt_ofInt, Int8.toInt_ofInt]
  simp only [Int.bmod_def, Int8.size, Int16.size, Int32.size]
  omega
theorem pm_int_s {n : Int} (h1 : -32768 ≤ n) (h2 : n < 32768) : (Int16.ofInt n).toInt32 = pm_int n := by
  rw [← pm_int_eq, ← Int32.toInt_inj, Int16.toInt_toInt32, Int32.toInt_ofInt, Int16.toInt_ofInt]
  simp only [Int.bmod_def, Int8.size, Int16.size, Int32.size]
  omega
/-- the links to a nest mate's own methods -/
def pm_Nst (U : State) : Prop := ∀ (a : String) (i : Nat) (x : MethodName) (g : String), Cond.methodLinkNest a i x g ∈ lw_tbl → va_Nw (.methodLinkNest a i x g) U
def pm_rm (d mc ms : Nat) : Room := { frames := d, cells := mc, slots := ms, locals := 40 * d }
def pm_Pc (D : va_G) (cI cZ : ClassId) (b base sl : Nat) (xs : Nat → Int32) (as : List Value) (w : pmW) : Array Value → State → Prop :=
  va_Pc (as.map (pm_cv (pm_ad b base))) (fun U => va_P D vwCl (pm_ws cI cZ b base w) U.heap ∧ va_K D vwCl [(cI, .int), (cZ, .boolean)] U ∧ U.heap.size = base + w.1.length ∧ va_X b sl xs U U.heap ∧ pm_Nst U)
def pm_Qc (D : va_G) (cI cZ : ClassId) (b base : Nat) (r : Option Value) (w : pmW) : Array Value → State → Outcome → State → Prop := fun _ st oc t =>
  oc = .returned (r.map (pm_cv (pm_ad b base))) ∧ va_P D vwCl (pm_ws cI cZ b base w) t.heap ∧ va_F (fun q => base ≤ q) st t
def pm_wsM (M : pmM) : List Cond := Cond.code M.1 M.2.1 M.2.2.1 M.2.2.2.1 :: pm_gt
/-- a method's contract, at just this world and these arguments -/
def pm_Con (l : Launch) (D : va_G) (cI cZ : ClassId) (b base sl : Nat) (xs : Nat → Int32) (d y : Nat) (as : List Value) (w : pmW) (r : Option Value) (w' : pmW) : Prop :=
  ∀ M, pm_mt y = some M → pm_okM M → Met l M.1 (pm_wsM M) (pm_rm d (w'.1.length - w.1.length) (pm_ss w'.1 - pm_ss w.1)) (pm_Pc D cI cZ b base sl xs as w) (pm_Qc D cI cZ b base r w') (w'.1.length - w.1.length) (pm_ss w'.1 - pm_ss w.1) (fun q => base ≤ q)
section PMW
variable {p : Program} {l : Launch} {e : Env} {R : Room} {s : State} {m : MethodId} {args : Array Value} {below : List Frame} {meth : Method} {c : Code} {Q : State → Prop}
theorem pm_Wsz {H : Heap} {locs : List Loc} {cells slots : Nat} {g : JFrame} (h : H.size ≤ s.heap.size + cells → W p l e R s m args below meth c H locs cells slots Q g) : W p l e R s m args below meth c H locs cells slots Q g :=
  fun T hT X => h (by rw [← hT]; exact X.same.2.2.1) T hT X
def pm_B (R : Room) (n0 s0 : Nat) (w : pmW) : Prop := w.1.length ≤ R.cells + n0 ∧ pm_ss w.1 ≤ R.slots + s0
def pm_K (p : Program) (l : Launch) (e : Env) (R : Room) (s : State) (m : MethodId) (args : Array Value) (below : List Frame) (meth : Method) (c : Code) (Q : State → Prop) (D : va_G) (cI cZ : ClassId) (b base n0 s0 : Nat) (pc : Nat) (L : pmL) (st : List Value) (w : pmW) : Prop :=
  pm_B R n0 s0 w ∧ (L.length = c.maxLocals → ∀ (H : Heap) (locs : List Loc) (ls : Array Slot) (cells slots : Nat), va_P D vwCl (pm_ws cI cZ b base w) H → va_S (fun q => base ≤ q) s.heap H locs → pm_has (pm_ad b base) ls L → cells + n0 = w.1.length → slots + s0 = pm_ss w.1 → W p l e R s m args below meth c H locs cells slots Q (F0 m pc ls (st.map (pm_cv (pm_ad b base)))))
def pm_T1 (p : Program) (l : Launch) (e : Env) (R : Room) (s : State) (m : MethodId) (args : Array Value) (below : List Frame) (meth : Method) (c : Code) (Q : State → Prop) (D : va_G) (cI cZ : ClassId) (b base n0 s0 : Nat) (bytes : ByteArray) (ret : Option FieldType) (r : Option Value) (w : pmW) : Prop :=
  pm_B R n0 s0 w ∧ ∀ (pc : Nat), (match r with
    | none => decode bytes pc = .ok (.return_, 1) ∧ ret = none
    | some v => ∃ x, v = .int x ∧ decode bytes pc = .ok (.ireturn, 1) ∧ (ret = some .int ∨ (ret = some .boolean ∧ (x = 0 ∨ x = 1)))) →
    ∀ (H : Heap) (locs : List Loc) (ls : Array Slot) (cells slots : Nat), va_P D vwCl (pm_ws cI cZ b base w) H → va_S (fun q => base ≤ q) s.heap H locs → cells + n0 = w.1.length → slots + s0 = pm_ss w.1 → W p l e R s m args below meth c H locs cells slots Q (F0 m pc ls ((r.map (pm_cv (pm_ad b base))).toList))
def pm_C1 (p : Program) (l : Launch) (e : Env) (R : Room) (s : State) (m : MethodId) (args : Array Value) (below : List Frame) (meth : Method) (c : Code) (Q : State → Prop) (D : va_G) (cI cZ : ClassId) (b base n0 s0 sl : Nat) (xs : Nat → Int32) (y _rk : Nat) (as : List Value) (w : pmW) (pc : Nat) (L : pmL) (rest : List Value) : Prop :=
  ∃ (r : Option Value) (w' : pmW) (d : Nat), pm_Con l D cI cZ b base sl xs d y as w r w' ∧ d + 1 ≤ R.frames ∧ 40 * (d + 1) ≤ R.locals ∧ w.1.length ≤ w'.1.length ∧ pm_ss w.1 ≤ pm_ss w'.1 ∧ pm_K p l e R s m args below meth c Q D cI cZ b base n0 s0 pc L (r.toList ++ rest) w'
def pm_X (p : Program) (s : State) (m : MethodId) (args : Array Value) (meth : Method) (c : Code) (own : Nat) (bytes : ByteArray) (ret : Option FieldType) (ini : Bool) (D : va_G) (cI cZ : ClassId) (b base n0 sl : Nat) (xs : Nat → Int32) (nL : Nat) : Prop :=
  p.tables.exec = Jvm.exec ∧ c.code = bytes ∧ c.maxLocals = nL ∧ s.vm.findClass (pm_cn own) = some m.cls ∧ (∀ w ∈ pm_gt, w.before args s = true) ∧ va_K D vwCl [(cI, .int), (cZ, .boolean)] s ∧ va_X b sl xs s s.heap ∧ b < base ∧ s.heap.size = base + n0 ∧ (ini = true → meth.name = "<init>") ∧ pm_Nst s
theorem pm_callW {H : Heap} {locs : List Loc} {cells slots mc ms pc : Nat} {free : Addr → Prop} {ls : Array Slot} {Qa : State → Outcome → State → Prop} {rest st0 : List Value} (hr : va_Run p l e R s m args below meth c H locs cells slots mc ms (F0 m pc ls st0) rest Qa free)
    (kk : ∀ (v : Option Value) (u t : State) (H1 : Heap) (Ls : List Loc), u.heap = H → t.heap = H1 → (∀ q ∈ Ls, free q.base) → Qa u (.returned v) t → W p l e R s m args below meth c H1 (locs ++ Ls) (cells + mc) (slots + ms) Q (F0 m (pc + 3) ls (v.toList ++ rest))) : W p l e R s m args below meth c H locs cells slots Q (F0 m pc ls st0) := by
  intro T hT X
  obtain ⟨v, u, t, T', Ls, h0, X', hL, e1, e2, hq, st⟩ := hr T hT X
  obtain ⟨t2, a1, b1⟩ := kk v u t T'.heap Ls h0 e1.symm hL hq T' rfl X'
  exact ⟨t2, st t2 a1, b1⟩
theorem pm_blind {D : va_G} {cI cZ : ClassId} {b base sl : Nat} {xs : Nat → Int32} {as : List Value} {w : pmW} : FrameBlind (pm_Pc D cI cZ b base sl xs as w) := by
  intro a U g mk q
  obtain ⟨q0, qP, qK, qS, qX, qN⟩ := q
  exact ⟨q0, qP, va_K.moved (u := U) (U := U.calling g mk a) (Vm.Alike.refl U.vm) qK, qS, va_X.moved (u := U) (U := U.calling g mk a) (Vm.Alike.refl U.vm) qX, fun a1 i1 x1 g1 h1 => va_Nw.same (u := U) (U := U.calling g mk a) rfl rfl (qN a1 i1 x1 g1 h1)⟩
end PMW
end
section
section PMP0
variable {cI cZ : ClassId} {b base k n : Nat} {sh : List pmS} {h : pmH} {fl : List (Option (Option Nat))}
theorem pm_ws_i (hk : sh[k]? = some (0, n, fl)) : (pm_ws cI cZ b base (sh, h))[k]? = some (base + k, .inl (cI, n, .inl (h k))) := pm_ws_get (w := (sh, h)) hk
theorem pm_ws_z (hk : sh[k]? = some (1, n, fl)) : (pm_ws cI cZ b base (sh, h))[k]? = some (base + k, .inl (cZ, n, .inl (h k))) := pm_ws_get (w := (sh, h)) hk
theorem pm_ws_o (hk : sh[k]? = some (2, n, fl)) : (pm_ws cI cZ b base (sh, h))[k]? = some (base + k, .inr (n, pm_fv (pm_ad b base) (h k) fl)) := pm_ws_get (w := (sh, h)) hk
end PMP0
section PMP
variable {p : Program} {l : Launch} {e : Env} {R : Room} {s : State} {m : MethodId} {args : Array Value} {below : List Frame} {meth : Method} {c : Code} {Q : State → Prop}
variable {D : va_G} {cI cZ : ClassId} {b base n0 s0 sl own pc len nL : Nat} {xs : Nat → Int32} {bytes : ByteArray} {ret : Option FieldType} {ini hdB : Bool} {L : pmL} {st : List Value} {sh : List pmS} {h : pmH}
set_option maxHeartbeats 4000000 in
theorem pw_iconst {n : Int} (hX : pm_X p s m args meth c own bytes ret ini D cI cZ b base n0 sl xs nL) (hdp : hdB = true → 1 ≤ R.frames ∧ 40 ≤ R.locals) (hd : decode bytes pc = .ok (.iconst n, len)) (hln : len = pm_ln (.iconst n) len) (hF : pm_F False (pm_T1 p l e R s m args below meth c Q D cI cZ b base n0 s0 bytes ret) (pm_K p l e R s m args below meth c Q D cI cZ b base n0 s0) (pm_C1 p l e R s m args below meth c Q D cI cZ b base n0 s0 sl xs) sl xs own ret ini hdB (.iconst n) pc L st sh h) : pm_K p l e R s m args below meth c Q D cI cZ b base n0 s0 pc L st (sh, h) := by
  obtain ⟨hx, hb, hml, hown, hts, hK, hXs, hbb, hsz, hini, hNw⟩ := hX
  have hl1 : len = 1 := hln
  subst hl1
  exact ⟨hF.1, fun hLn H locs ls cells slots hP hS hL hc hs => lv_iconst hx hb hd (pm_int_eq n) (hF.2 hLn H locs ls cells slots hP hS hL hc hs)⟩
set_option maxHeartbeats 4000000 in
theorem pw_bipush {n : Int} (hX : pm_X p s m args meth c own bytes ret ini D cI cZ b base n0 sl xs nL) (hdp : hdB = true → 1 ≤ R.frames ∧ 40 ≤ R.locals) (hd : decode bytes pc = .ok (.bipush n, len)) (hln : len = pm_ln (.bipush n) len) (hF : pm_F False (pm_T1 p l e R s m args below meth c Q D cI cZ b base n0 s0 bytes ret) (pm_K p l e R s m args below meth c Q D cI cZ b base n0 s0) (pm_C1 p l e R s m args below meth c Q D cI cZ b base n0 s0 sl xs) sl xs own ret ini hdB (.bipush n) pc L st sh h) : pm_K p l e R s m args below meth c Q D cI cZ b base n0 s0 pc L st (sh, h) := by
  obtain ⟨hx, hb, hml, hown, hts, hK, hXs, hbb, hsz, hini, hNw⟩ := hX
  have hl1 : len = 2 := hln
  subst hl1
  replace hF := pm_b_F hF
  obtain ⟨hb1, hF⟩ := hF
  simp only [Bool.and_eq_true, decide_eq_true_eq] at hb1
  exact ⟨hF.1, fun hLn H locs ls cells slots hP hS hL hc hs => lv_bipush hx hb hd (pm_int_b hb1.1 hb1.2) (hF.2 hLn H locs ls cells slots hP hS hL hc hs)⟩
set_option maxHeartbeats 4000000 in
theorem pw_sipush {n : Int} (hX : pm_X p s m args meth c own bytes ret ini D cI cZ b base n0 sl xs nL) (hdp : hdB = true → 1 ≤ R.frames ∧ 40 ≤ R.locals) (hd : decode bytes pc = .ok (.sipush n, len)) (hln : len = pm_ln (.sipush n) len) (hF : pm_F False (pm_T1 p l e R s m args below meth c Q D cI cZ b base n0 s0 bytes ret) (pm_K p l e R s m args below meth c Q D cI cZ b base n0 s0) (pm_C1 p l e R s m args below meth c Q D cI cZ b base n0 s0 sl xs) sl xs own ret ini hdB (.sipush n) pc L st sh h) : pm_K p l e R s m args below meth c Q D cI cZ b base n0 s0 pc L st (sh, h) := by
  obtain ⟨hx, hb, hml, hown, hts, hK, hXs, hbb, hsz, hini, hNw⟩ := hX
  have hl1 : len = 3 := hln
  subst hl1
  replace hF := pm_b_F hF
  obtain ⟨hb1, hF⟩ := hF
  simp only [Bool.and_eq_true, decide_eq_true_eq] at hb1
  exact ⟨hF.1, fun hLn H locs ls cells slots hP hS hL hc hs => lv_sipush hx hb hd (pm_int_s hb1.1 hb1.2) (hF.2 hLn H locs ls cells slots hP hS hL hc hs)⟩
set_option maxHeartbeats 4000000 in
theorem pw_ldc {i : Nat} (hX : pm_X p s m args meth c own bytes ret ini D cI cZ b base n0 sl xs nL) (hdp : hdB = true → 1 ≤ R.frames ∧ 40 ≤ R.locals) (hd : decode bytes pc = .ok (.ldc i, len)) (hln : len = pm_ln (.ldc i) len) (hF : pm_F False (pm_T1 p l e R s m args below meth c Q D cI cZ b base n0 s0 bytes ret) (pm_K p l e R s m args below meth c Q D cI cZ b base n0 s0) (pm_C1 p l e R s m args below meth c Q D cI cZ b base n0 s0 sl xs) sl xs own ret ini hdB (.ldc i) pc L st sh h) : pm_K p l e R s m args below meth c Q D cI cZ b base n0 s0 pc L st (sh, h) := by
  obtain ⟨hx, hb, hml, hown, hts, hK, hXs, hbb, hsz, hini, hNw⟩ := hX
  have hl1 : len = 2 := hln
  subst hl1
  replace hF := pm_o_F hF
  obtain ⟨v, hv, hF⟩ := hF
  have hw := pmk_all own _ (pm_lk_mem hv)
  exact ⟨hF.1, fun hLn H locs ls cells slots hP hS hL hc hs => lv_ldc hx hb hown (hts _ (pm_g hw rfl)) hd (hF.2 hLn H locs ls cells slots hP hS hL hc hs)⟩
set_option maxHeartbeats 4000000 in
theorem pw_ldc_w {i : Nat} (hX : pm_X p s m args meth c own bytes ret ini D cI cZ b base n0 sl xs nL) (hdp : hdB = true → 1 ≤ R.frames ∧ 40 ≤ R.locals) (hd : decode bytes pc = .ok (.ldc_w i, len)) (hln : len = pm_ln (.ldc_w i) len) (hF : pm_F False (pm_T1 p l e R s m args below meth c Q D cI cZ b base n0 s0 bytes ret) (pm_K p l e R s m args below meth c Q D cI cZ b base n0 s0) (pm_C1 p l e R s m args below meth c Q D cI cZ b base n0 s0 sl xs) sl xs own ret ini hdB (.ldc_w i) pc L st sh h) : pm_K p l e R s m args below meth c Q D cI cZ b base n0 s0 pc L st (sh, h) := by
  obtain ⟨hx, hb, hml, hown, hts, hK, hXs, hbb, hsz, hini, hNw⟩ := hX
  have hl1 : len = 3 := hln
  subst hl1
  replace hF := pm_o_F hF
  obtain ⟨v, hv, hF⟩ := hF
  have hw := pmk_all own _ (pm_lk_mem hv)
  exact ⟨hF.1, fun hLn H locs ls cells slots hP hS hL hc hs => lv_ldcw hx hb hown (hts _ (pm_g hw rfl)) hd (hF.2 hLn H locs ls cells slots hP hS hL hc hs)⟩
set_option maxHeartbeats 4000000 in
theorem pw_iload {i : Nat} (hX : pm_X p s m args meth c own bytes ret ini D cI cZ b base n0 sl xs nL) (hdp : hdB = true → 1 ≤ R.frames ∧ 40 ≤ R.locals) (hd : decode bytes pc = .ok (.iload i, len)) (hln : len = pm_ln (.iload i) len) (hF : pm_F False (pm_T1 p l e R s m args below meth c Q D cI cZ b base n0 s0 bytes ret) (pm_K p l e R s m args below meth c Q D cI cZ b base n0 s0) (pm_C1 p l e R s m args below meth c Q D cI cZ b base n0 s0 sl xs) sl xs own ret ini hdB (.iload i) pc L st sh h) : pm_K p l e R s m args below meth c Q D cI cZ b base n0 s0 pc L st (sh, h) := by
  obtain ⟨hx, hb, hml, hown, hts, hK, hXs, hbb, hsz, hini, hNw⟩ := hX
  have hl1 : len = 2 := hln
  subst hl1
  replace hF := pm_ld_F hF
  obtain ⟨v, hv, hF⟩ := hF
  replace hF := pm_vi_F hF
  obtain ⟨x, rfl, hF⟩ := hF
  exact ⟨hF.1, fun hLn H locs ls cells slots hP hS hL hc hs => lv_iload hx hb hd (hL.2.2 _ _ hv) (hF.2 hLn H locs ls cells slots hP hS hL hc hs)⟩
set_option maxHeartbeats 4000000 in
theorem pw_lload {i : Nat} (hX : pm_X p s m args meth c own bytes ret ini D cI cZ b base n0 sl xs nL) (hdp : hdB = true → 1 ≤ R.frames ∧ 40 ≤ R.locals) (hd : decode bytes pc = .ok (.lload i, len)) (hln : len = pm_ln (.lload i) len) (hF : pm_F False (pm_T1 p l e R s m args below meth c Q D cI cZ b base n0 s0 bytes ret) (pm_K p l e R s m args below meth c Q D cI cZ b base n0 s0) (pm_C1 p l e R s m args below meth c Q D cI cZ b base n0 s0 sl xs) sl xs own ret ini hdB (.lload i) pc L st sh h) : pm_K p l e R s m args below meth c Q D cI cZ b base n0 s0 pc L st (sh, h) := by
  obtain ⟨hx, hb, hml, hown, hts, hK, hXs, hbb, hsz, hini, hNw⟩ := hX
  have hl1 : len = 2 := hln
  subst hl1
  replace hF := pm_ld_F hF
  obtain ⟨v, hv, hF⟩ := hF
  replace hF := pm_vl_F hF
  obtain ⟨x, rfl, hF⟩ := hF
  exact ⟨hF.1, fun hLn H locs ls cells slots hP hS hL hc hs => lv_lload hx hb hd (hL.2.2 _ _ hv) (hF.2 hLn H locs ls cells slots hP hS hL hc hs)⟩
set_option maxHeartbeats 4000000 in
theorem pw_iload_n {i : Fin 4} (hX : pm_X p s m args meth c own bytes ret ini D cI cZ b base n0 sl xs nL) (hdp : hdB = true → 1 ≤ R.frames ∧ 40 ≤ R.locals) (hd : decode bytes pc = .ok (.iload_n i, len)) (hln : len = pm_ln (.iload_n i) len) (hF : pm_F False (pm_T1 p l e R s m args below meth c Q D cI cZ b base n0 s0 bytes ret) (pm_K p l e R s m args below meth c Q D cI cZ b base n0 s0) (pm_C1 p l e R s m args below meth c Q D cI cZ b base n0 s0 sl xs) sl xs own ret ini hdB (.iload_n i) pc L st sh h) : pm_K p l e R s m args below meth c Q D cI cZ b base n0 s0 pc L st (sh, h) := by
  obtain ⟨hx, hb, hml, hown, hts, hK, hXs, hbb, hsz, hini, hNw⟩ := hX
  have hl1 : len = 1 := hln
  subst hl1
  replace hF := pm_ld_F hF
  obtain ⟨v, hv, hF⟩ := hF
  replace hF := pm_vi_F hF
  obtain ⟨x, rfl, hF⟩ := hF
  exact ⟨hF.1, fun hLn H locs ls cells slots hP hS hL hc hs => lv_iload_n hx hb hd rfl (hL.2.2 _ _ hv) (hF.2 hLn H locs ls cells slots hP hS hL hc hs)⟩
set_option maxHeartbeats 4000000 in
theorem pw_aload_n {i : Fin 4} (hX : pm_X p s m args meth c own bytes ret ini D cI cZ b base n0 sl xs nL) (hdp : hdB = true → 1 ≤ R.frames ∧ 40 ≤ R.locals) (hd : decode bytes pc = .ok (.aload_n i, len)) (hln : len = pm_ln (.aload_n i) len) (hF : pm_F False (pm_T1 p l e R s m args below meth c Q D cI cZ b base n0 s0 bytes ret) (pm_K p l e R s m args below meth c Q D cI cZ b base n0 s0) (pm_C1 p l e R s m args below meth c Q D cI cZ b base n0 s0 sl xs) sl xs own ret ini hdB (.aload_n i) pc L st sh h) : pm_K p l e R s m args below meth c Q D cI cZ b base n0 s0 pc L st (sh, h) := by
  obtain ⟨hx, hb, hml, hown, hts, hK, hXs, hbb, hsz, hini, hNw⟩ := hX
  have hl1 : len = 1 := hln
  subst hl1
  replace hF := pm_ld_F hF
  obtain ⟨v, hv, hF⟩ := hF
  replace hF := pm_vr_F hF
  obtain ⟨x, rfl, hF⟩ := hF
  exact ⟨hF.1, fun hLn H locs ls cells slots hP hS hL hc hs => lv_aload_n hx hb hd rfl (hL.2.2 _ _ hv) (hF.2 hLn H locs ls cells slots hP hS hL hc hs)⟩
set_option maxHeartbeats 4000000 in
theorem pw_istore {i : Nat} (hX : pm_X p s m args meth c own bytes ret ini D cI cZ b base n0 sl xs nL) (hdp : hdB = true → 1 ≤ R.frames ∧ 40 ≤ R.locals) (hd : decode bytes pc = .ok (.istore i, len)) (hln : len = pm_ln (.istore i) len) (hF : pm_F False (pm_T1 p l e R s m args below meth c Q D cI cZ b base n0 s0 bytes ret) (pm_K p l e R s m args below meth c Q D cI cZ b base n0 s0) (pm_C1 p l e R s m args below meth c Q D cI cZ b base n0 s0 sl xs) sl xs own ret ini hdB (.istore i) pc L st sh h) : pm_K p l e R s m args below meth c Q D cI cZ b base n0 s0 pc L st (sh, h) := by
  obtain ⟨hx, hb, hml, hown, hts, hK, hXs, hbb, hsz, hini, hNw⟩ := hX
  have hl1 : len = 2 := hln
  subst hl1
  replace hF := pm_pi_F hF
  obtain ⟨x, r, rfl, hF⟩ := hF
  replace hF := pm_s1_F hF
  obtain ⟨hi, hF⟩ := hF
  exact ⟨hF.1, fun hLn H locs ls cells slots hP hS hL hc hs => lv_istore hx hb hd hL.lv hi rfl (fun ls' h' => hF.2 (by rw [List.length_set, pm_k2_len]; exact hLn) H locs ls' cells slots hP hS (pm_has.s1 hi h') hc hs)⟩
set_option maxHeartbeats 4000000 in
theorem pw_istore_n {i : Fin 4} (hX : pm_X p s m args meth c own bytes ret ini D cI cZ b base n0 sl xs nL) (hdp : hdB = true → 1 ≤ R.frames ∧ 40 ≤ R.locals) (hd : decode bytes pc = .ok (.istore_n i, len)) (hln : len = pm_ln (.istore_n i) len) (hF : pm_F False (pm_T1 p l e R s m args below meth c Q D cI cZ b base n0 s0 bytes ret) (pm_K p l e R s m args below meth c Q D cI cZ b base n0 s0) (pm_C1 p l e R s m args below meth c Q D cI cZ b base n0 s0 sl xs) sl xs own ret ini hdB (.istore_n i) pc L st sh h) : pm_K p l e R s m args below meth c Q D cI cZ b base n0 s0 pc L st (sh, h) := by
  obtain ⟨hx, hb, hml, hown, hts, hK, hXs, hbb, hsz, hini, hNw⟩ := hX
  have hl1 : len = 1 := hln
  subst hl1
  replace hF := pm_pi_F hF
  obtain ⟨x, r, rfl, hF⟩ := hF
  replace hF := pm_s1_F hF
  obtain ⟨hi, hF⟩ := hF
  exact ⟨hF.1, fun hLn H locs ls cells slots hP hS hL hc hs => lv_istore_n hx hb hd rfl hL.lv hi rfl (fun ls' h' => hF.2 (by rw [List.length_set, pm_k2_len]; exact hLn) H locs ls' cells slots hP hS (pm_has.s1 hi h') hc hs)⟩
set_option maxHeartbeats 4000000 in
theorem pw_astore_n {i : Fin 4} (hX : pm_X p s m args meth c own bytes ret ini D cI cZ b base n0 sl xs nL) (hdp : hdB = true → 1 ≤ R.frames ∧ 40 ≤ R.locals) (hd : decode bytes pc = .ok (.astore_n i, len)) (hln : len = pm_ln (.astore_n i) len) (hF : pm_F False (pm_T1 p l e R s m args below meth c Q D cI cZ b base n0 s0 bytes ret) (pm_K p l e R s m args below meth c Q D cI cZ b base n0 s0) (pm_C1 p l e R s m args below meth c Q D cI cZ b base n0 s0 sl xs) sl xs own ret ini hdB (.astore_n i) pc L st sh h) : pm_K p l e R s m args below meth c Q D cI cZ b base n0 s0 pc L st (sh, h) := by
  obtain ⟨hx, hb, hml, hown, hts, hK, hXs, hbb, hsz, hini, hNw⟩ := hX
  have hl1 : len = 1 := hln
  subst hl1
  replace hF := pm_pr_F hF
  obtain ⟨x, r, rfl, hF⟩ := hF
  replace hF := pm_s1_F hF
  obtain ⟨hi, hF⟩ := hF
  exact ⟨hF.1, fun hLn H locs ls cells slots hP hS hL hc hs => lv_astore_n hx hb hd rfl hL.lv hi rfl (fun ls' h' => hF.2 (by rw [List.length_set, pm_k2_len]; exact hLn) H locs ls' cells slots hP hS (pm_has.s1 hi h') hc hs)⟩
set_option maxHeartbeats 4000000 in
theorem pw_lstore {i : Nat} (hX : pm_X p s m args meth c own bytes ret ini D cI cZ b base n0 sl xs nL) (hdp : hdB = true → 1 ≤ R.frames ∧ 40 ≤ R.locals) (hd : decode bytes pc = .ok (.lstore i, len)) (hln : len = pm_ln (.lstore i) len) (hF : pm_F False (pm_T1 p l e R s m args below meth c Q D cI cZ b base n0 s0 bytes ret) (pm_K p l e R s m args below meth c Q D cI cZ b base n0 s0) (pm_C1 p l e R s m args below meth c Q D cI cZ b base n0 s0 sl xs) sl xs own ret ini hdB (.lstore i) pc L st sh h) : pm_K p l e R s m args below meth c Q D cI cZ b base n0 s0 pc L st (sh, h) := by
  obtain ⟨hx, hb, hml, hown, hts, hK, hXs, hbb, hsz, hini, hNw⟩ := hX
  have hl1 : len = 2 := hln
  subst hl1
  replace hF := pm_pl_F hF
  obtain ⟨x, r, rfl, hF⟩ := hF
  replace hF := pm_s2_F hF
  obtain ⟨hi, hF⟩ := hF
  exact ⟨hF.1, fun hLn H locs ls cells slots hP hS hL hc hs => lv_lstore hx hb hd hL.lv hi rfl (fun ls' h' => hF.2 (by rw [List.length_set, List.length_set, pm_k2_len]; exact hLn) H locs ls' cells slots hP hS (pm_has.s2 hi h') hc hs)⟩
set_option maxHeartbeats 4000000 in
theorem pw_iinc {i : Nat} {n : Int} (hX : pm_X p s m args meth c own bytes ret ini D cI cZ b base n0 sl xs nL) (hdp : hdB = true → 1 ≤ R.frames ∧ 40 ≤ R.locals) (hd : decode bytes pc = .ok (.iinc i n, len)) (hln : len = pm_ln (.iinc i n) len) (hF : pm_F False (pm_T1 p l e R s m args below meth c Q D cI cZ b base n0 s0 bytes ret) (pm_K p l e R s m args below meth c Q D cI cZ b base n0 s0) (pm_C1 p l e R s m args below meth c Q D cI cZ b base n0 s0 sl xs) sl xs own ret ini hdB (.iinc i n) pc L st sh h) : pm_K p l e R s m args below meth c Q D cI cZ b base n0 s0 pc L st (sh, h) := by
  obtain ⟨hx, hb, hml, hown, hts, hK, hXs, hbb, hsz, hini, hNw⟩ := hX
  have hl1 : len = 3 := hln
  subst hl1
  replace hF := pm_ld_F hF
  obtain ⟨v, hv, hF⟩ := hF
  replace hF := pm_vi_F hF
  obtain ⟨x, rfl, hF⟩ := hF
  replace hF := pm_s1_F hF
  obtain ⟨hi, hF⟩ := hF
  refine ⟨hF.1, fun hLn H locs ls cells slots hP hS hL hc hs => ?_⟩
  have hm : (i, Value.int x) ∈ pm_al (pm_ad b base) L := pm_al_mem.mpr ⟨_, hv, rfl⟩
  obtain ⟨k, hk⟩ := List.getElem?_of_mem hm
  exact lv_iinc hx hb hd hL.lv hk (by rw [pm_int_eq]) hi rfl (fun ls' h' => hF.2 (by rw [List.length_set, pm_k2_len]; exact hLn) H locs ls' cells slots hP hS (pm_has.s1 hi h') hc hs)
set_option maxHeartbeats 4000000 in
theorem pw_iadd (hX : pm_X p s m args meth c own bytes ret ini D cI cZ b base n0 sl xs nL) (hdp : hdB = true → 1 ≤ R.frames ∧ 40 ≤ R.locals) (hd : decode bytes pc = .ok (.iadd, len)) (hln : len = pm_ln (.iadd) len) (hF : pm_F False (pm_T1 p l e R s m args below meth c Q D cI cZ b base n0 s0 bytes ret) (pm_K p l e R s m args below meth c Q D cI cZ b base n0 s0) (pm_C1 p l e R s m args below meth c Q D cI cZ b base n0 s0 sl xs) sl xs own ret ini hdB (.iadd) pc L st sh h) : pm_K p l e R s m args below meth c Q D cI cZ b base n0 s0 pc L st (sh, h) := by
  obtain ⟨hx, hb, hml, hown, hts, hK, hXs, hbb, hsz, hini, hNw⟩ := hX
  have hl1 : len = 1 := hln
  subst hl1
  replace hF := pm_pi_F hF
  obtain ⟨y, r, rfl, hF⟩ := hF
  replace hF := pm_pi_F hF
  obtain ⟨x, r, rfl, hF⟩ := hF
  exact ⟨hF.1, fun hLn H locs ls cells slots hP hS hL hc hs => lv_iadd hx hb hd (hF.2 hLn H locs ls cells slots hP hS hL hc hs)⟩
set_option maxHeartbeats 4000000 in
theorem pw_isub (hX : pm_X p s m args meth c own bytes ret ini D cI cZ b base n0 sl xs nL) (hdp : hdB = true → 1 ≤ R.frames ∧ 40 ≤ R.locals) (hd : decode bytes pc = .ok (.isub, len)) (hln : len = pm_ln (.isub) len) (hF : pm_F False (pm_T1 p l e R s m args below meth c Q D cI cZ b base n0 s0 bytes ret) (pm_K p l e R s m args below meth c Q D cI cZ b base n0 s0) (pm_C1 p l e R s m args below meth c Q D cI cZ b base n0 s0 sl xs) sl xs own ret ini hdB (.isub) pc L st sh h) : pm_K p l e R s m args below meth c Q D cI cZ b base n0 s0 pc L st (sh, h) := by
  obtain ⟨hx, hb, hml, hown, hts, hK, hXs, hbb, hsz, hini, hNw⟩ := hX
  have hl1 : len = 1 := hln
  subst hl1
  replace hF := pm_pi_F hF
  obtain ⟨y, r, rfl, hF⟩ := hF
  replace hF := pm_pi_F hF
  obtain ⟨x, r, rfl, hF⟩ := hF
  exact ⟨hF.1, fun hLn H locs ls cells slots hP hS hL hc hs => lv_isub hx hb hd (hF.2 hLn H locs ls cells slots hP hS hL hc hs)⟩
set_option maxHeartbeats 4000000 in
theorem pw_imul (hX : pm_X p s m args meth c own bytes ret ini D cI cZ b base n0 sl xs nL) (hdp : hdB = true → 1 ≤ R.frames ∧ 40 ≤ R.locals) (hd : decode bytes pc = .ok (.imul, len)) (hln : len = pm_ln (.imul) len) (hF : pm_F False (pm_T1 p l e R s m args below meth c Q D cI cZ b base n0 s0 bytes ret) (pm_K p l e R s m args below meth c Q D cI cZ b base n0 s0) (pm_C1 p l e R s m args below meth c Q D cI cZ b base n0 s0 sl xs) sl xs own ret ini hdB (.imul) pc L st sh h) : pm_K p l e R s m args below meth c Q D cI cZ b base n0 s0 pc L st (sh, h) := by
  obtain ⟨hx, hb, hml, hown, hts, hK, hXs, hbb, hsz, hini, hNw⟩ := hX
  have hl1 : len = 1 := hln
  subst hl1
  replace hF := pm_pi_F hF
  obtain ⟨y, r, rfl, hF⟩ := hF
  replace hF := pm_pi_F hF
  obtain ⟨x, r, rfl, hF⟩ := hF
  exact ⟨hF.1, fun hLn H locs ls cells slots hP hS hL hc hs => lv_imul hx hb hd (hF.2 hLn H locs ls cells slots hP hS hL hc hs)⟩
set_option maxHeartbeats 4000000 in
theorem pw_ishl (hX : pm_X p s m args meth c own bytes ret ini D cI cZ b base n0 sl xs nL) (hdp : hdB = true → 1 ≤ R.frames ∧ 40 ≤ R.locals) (hd : decode bytes pc = .ok (.ishl, len)) (hln : len = pm_ln (.ishl) len) (hF : pm_F False (pm_T1 p l e R s m args below meth c Q D cI cZ b base n0 s0 bytes ret) (pm_K p l e R s m args below meth c Q D cI cZ b base n0 s0) (pm_C1 p l e R s m args below meth c Q D cI cZ b base n0 s0 sl xs) sl xs own ret ini hdB (.ishl) pc L st sh h) : pm_K p l e R s m args below meth c Q D cI cZ b base n0 s0 pc L st (sh, h) := by
  obtain ⟨hx, hb, hml, hown, hts, hK, hXs, hbb, hsz, hini, hNw⟩ := hX
  have hl1 : len = 1 := hln
  subst hl1
  replace hF := pm_pi_F hF
  obtain ⟨y, r, rfl, hF⟩ := hF
  replace hF := pm_pi_F hF
  obtain ⟨x, r, rfl, hF⟩ := hF
  exact ⟨hF.1, fun hLn H locs ls cells slots hP hS hL hc hs => lv_ishl hx hb hd (hF.2 hLn H locs ls cells slots hP hS hL hc hs)⟩
set_option maxHeartbeats 4000000 in
theorem pw_ishr (hX : pm_X p s m args meth c own bytes ret ini D cI cZ b base n0 sl xs nL) (hdp : hdB = true → 1 ≤ R.frames ∧ 40 ≤ R.locals) (hd : decode bytes pc = .ok (.ishr, len)) (hln : len = pm_ln (.ishr) len) (hF : pm_F False (pm_T1 p l e R s m args below meth c Q D cI cZ b base n0 s0 bytes ret) (pm_K p l e R s m args below meth c Q D cI cZ b base n0 s0) (pm_C1 p l e R s m args below meth c Q D cI cZ b base n0 s0 sl xs) sl xs own ret ini hdB (.ishr) pc L st sh h) : pm_K p l e R s m args below meth c Q D cI cZ b base n0 s0 pc L st (sh, h) := by
  obtain ⟨hx, hb, hml, hown, hts, hK, hXs, hbb, hsz, hini, hNw⟩ := hX
  have hl1 : len = 1 := hln
  subst hl1
  replace hF := pm_pi_F hF
  obtain ⟨y, r, rfl, hF⟩ := hF
  replace hF := pm_pi_F hF
  obtain ⟨x, r, rfl, hF⟩ := hF
  exact ⟨hF.1, fun hLn H locs ls cells slots hP hS hL hc hs => lv_ishr hx hb hd (hF.2 hLn H locs ls cells slots hP hS hL hc hs)⟩
set_option maxHeartbeats 4000000 in
theorem pw_iand (hX : pm_X p s m args meth c own bytes ret ini D cI cZ b base n0 sl xs nL) (hdp : hdB = true → 1 ≤ R.frames ∧ 40 ≤ R.locals) (hd : decode bytes pc = .ok (.iand, len)) (hln : len = pm_ln (.iand) len) (hF : pm_F False (pm_T1 p l e R s m args below meth c Q D cI cZ b base n0 s0 bytes ret) (pm_K p l e R s m args below meth c Q D cI cZ b base n0 s0) (pm_C1 p l e R s m args below meth c Q D cI cZ b base n0 s0 sl xs) sl xs own ret ini hdB (.iand) pc L st sh h) : pm_K p l e R s m args below meth c Q D cI cZ b base n0 s0 pc L st (sh, h) := by
  obtain ⟨hx, hb, hml, hown, hts, hK, hXs, hbb, hsz, hini, hNw⟩ := hX
  have hl1 : len = 1 := hln
  subst hl1
  replace hF := pm_pi_F hF
  obtain ⟨y, r, rfl, hF⟩ := hF
  replace hF := pm_pi_F hF
  obtain ⟨x, r, rfl, hF⟩ := hF
  exact ⟨hF.1, fun hLn H locs ls cells slots hP hS hL hc hs => lv_iand hx hb hd (hF.2 hLn H locs ls cells slots hP hS hL hc hs)⟩
set_option maxHeartbeats 4000000 in
theorem pw_ior (hX : pm_X p s m args meth c own bytes ret ini D cI cZ b base n0 sl xs nL) (hdp : hdB = true → 1 ≤ R.frames ∧ 40 ≤ R.locals) (hd : decode bytes pc = .ok (.ior, len)) (hln : len = pm_ln (.ior) len) (hF : pm_F False (pm_T1 p l e R s m args below meth c Q D cI cZ b base n0 s0 bytes ret) (pm_K p l e R s m args below meth c Q D cI cZ b base n0 s0) (pm_C1 p l e R s m args below meth c Q D cI cZ b base n0 s0 sl xs) sl xs own ret ini hdB (.ior) pc L st sh h) : pm_K p l e R s m args below meth c Q D cI cZ b base n0 s0 pc L st (sh, h) := by
  obtain ⟨hx, hb, hml, hown, hts, hK, hXs, hbb, hsz, hini, hNw⟩ := hX
  have hl1 : len = 1 := hln
  subst hl1
  replace hF := pm_pi_F hF
  obtain ⟨y, r, rfl, hF⟩ := hF
  replace hF := pm_pi_F hF
  obtain ⟨x, r, rfl, hF⟩ := hF
  exact ⟨hF.1, fun hLn H locs ls cells slots hP hS hL hc hs => lv_ior hx hb hd (hF.2 hLn H locs ls cells slots hP hS hL hc hs)⟩
set_option maxHeartbeats 4000000 in
theorem pw_idiv (hX : pm_X p s m args meth c own bytes ret ini D cI cZ b base n0 sl xs nL) (hdp : hdB = true → 1 ≤ R.frames ∧ 40 ≤ R.locals) (hd : decode bytes pc = .ok (.idiv, len)) (hln : len = pm_ln (.idiv) len) (hF : pm_F False (pm_T1 p l e R s m args below meth c Q D cI cZ b base n0 s0 bytes ret) (pm_K p l e R s m args below meth c Q D cI cZ b base n0 s0) (pm_C1 p l e R s m args below meth c Q D cI cZ b base n0 s0 sl xs) sl xs own ret ini hdB (.idiv) pc L st sh h) : pm_K p l e R s m args below meth c Q D cI cZ b base n0 s0 pc L st (sh, h) := by
  obtain ⟨hx, hb, hml, hown, hts, hK, hXs, hbb, hsz, hini, hNw⟩ := hX
  have hl1 : len = 1 := hln
  subst hl1
  replace hF := pm_pi_F hF
  obtain ⟨y, r, rfl, hF⟩ := hF
  replace hF := pm_pi_F hF
  obtain ⟨x, r, rfl, hF⟩ := hF
  split at hF
  · exact hF.elim
  · next hy => exact ⟨hF.1, fun hLn H locs ls cells slots hP hS hL hc hs => lv_idiv hx hb hd hy (hF.2 hLn H locs ls cells slots hP hS hL hc hs)⟩
set_option maxHeartbeats 4000000 in
theorem pw_irem (hX : pm_X p s m args meth c own bytes ret ini D cI cZ b base n0 sl xs nL) (hdp : hdB = true → 1 ≤ R.frames ∧ 40 ≤ R.locals) (hd : decode bytes pc = .ok (.irem, len)) (hln : len = pm_ln (.irem) len) (hF : pm_F False (pm_T1 p l e R s m args below meth c Q D cI cZ b base n0 s0 bytes ret) (pm_K p l e R s m args below meth c Q D cI cZ b base n0 s0) (pm_C1 p l e R s m args below meth c Q D cI cZ b base n0 s0 sl xs) sl xs own ret ini hdB (.irem) pc L st sh h) : pm_K p l e R s m args below meth c Q D cI cZ b base n0 s0 pc L st (sh, h) := by
  obtain ⟨hx, hb, hml, hown, hts, hK, hXs, hbb, hsz, hini, hNw⟩ := hX
  have hl1 : len = 1 := hln
  subst hl1
  replace hF := pm_pi_F hF
  obtain ⟨y, r, rfl, hF⟩ := hF
  replace hF := pm_pi_F hF
  obtain ⟨x, r, rfl, hF⟩ := hF
  split at hF
  · exact hF.elim
  · next hy => exact ⟨hF.1, fun hLn H locs ls cells slots hP hS hL hc hs => lv_irem hx hb hd hy (hF.2 hLn H locs ls cells slots hP hS hL hc hs)⟩
set_option maxHeartbeats 4000000 in
theorem pw_ldiv (hX : pm_X p s m args meth c own bytes ret ini D cI cZ b base n0 sl xs nL) (hdp : hdB = true → 1 ≤ R.frames ∧ 40 ≤ R.locals) (hd : decode bytes pc = .ok (.ldiv, len)) (hln : len = pm_ln (.ldiv) len) (hF : pm_F False (pm_T1 p l e R s m args below meth c Q D cI cZ b base n0 s0 bytes ret) (pm_K p l e R s m args below meth c Q D cI cZ b base n0 s0) (pm_C1 p l e R s m args below meth c Q D cI cZ b base n0 s0 sl xs) sl xs own ret ini hdB (.ldiv) pc L st sh h) : pm_K p l e R s m args below meth c Q D cI cZ b base n0 s0 pc L st (sh, h) := by
  obtain ⟨hx, hb, hml, hown, hts, hK, hXs, hbb, hsz, hini, hNw⟩ := hX
  have hl1 : len = 1 := hln
  subst hl1
  replace hF := pm_pl_F hF
  obtain ⟨y, r, rfl, hF⟩ := hF
  replace hF := pm_pl_F hF
  obtain ⟨x, r, rfl, hF⟩ := hF
  split at hF
  · exact hF.elim
  · next hy => exact ⟨hF.1, fun hLn H locs ls cells slots hP hS hL hc hs => lv_ldiv hx hb hd hy (hF.2 hLn H locs ls cells slots hP hS hL hc hs)⟩
set_option maxHeartbeats 4000000 in
theorem pw_lrem (hX : pm_X p s m args meth c own bytes ret ini D cI cZ b base n0 sl xs nL) (hdp : hdB = true → 1 ≤ R.frames ∧ 40 ≤ R.locals) (hd : decode bytes pc = .ok (.lrem, len)) (hln : len = pm_ln (.lrem) len) (hF : pm_F False (pm_T1 p l e R s m args below meth c Q D cI cZ b base n0 s0 bytes ret) (pm_K p l e R s m args below meth c Q D cI cZ b base n0 s0) (pm_C1 p l e R s m args below meth c Q D cI cZ b base n0 s0 sl xs) sl xs own ret ini hdB (.lrem) pc L st sh h) : pm_K p l e R s m args below meth c Q D cI cZ b base n0 s0 pc L st (sh, h) := by
  obtain ⟨hx, hb, hml, hown, hts, hK, hXs, hbb, hsz, hini, hNw⟩ := hX
  have hl1 : len = 1 := hln
  subst hl1
  replace hF := pm_pl_F hF
  obtain ⟨y, r, rfl, hF⟩ := hF
  replace hF := pm_pl_F hF
  obtain ⟨x, r, rfl, hF⟩ := hF
  split at hF
  · exact hF.elim
  · next hy => exact ⟨hF.1, fun hLn H locs ls cells slots hP hS hL hc hs => lv_lrem hx hb hd hy (hF.2 hLn H locs ls cells slots hP hS hL hc hs)⟩
set_option maxHeartbeats 4000000 in
theorem pw_i2l (hX : pm_X p s m args meth c own bytes ret ini D cI cZ b base n0 sl xs nL) (hdp : hdB = true → 1 ≤ R.frames ∧ 40 ≤ R.locals) (hd : decode bytes pc = .ok (.i2l, len)) (hln : len = pm_ln (.i2l) len) (hF : pm_F False (pm_T1 p l e R s m args below meth c Q D cI cZ b base n0 s0 bytes ret) (pm_K p l e R s m args below meth c Q D cI cZ b base n0 s0) (pm_C1 p l e R s m args below meth c Q D cI cZ b base n0 s0 sl xs) sl xs own ret ini hdB (.i2l) pc L st sh h) : pm_K p l e R s m args below meth c Q D cI cZ b base n0 s0 pc L st (sh, h) := by
  obtain ⟨hx, hb, hml, hown, hts, hK, hXs, hbb, hsz, hini, hNw⟩ := hX
  have hl1 : len = 1 := hln
  subst hl1
  replace hF := pm_pi_F hF
  obtain ⟨x, r, rfl, hF⟩ := hF
  exact ⟨hF.1, fun hLn H locs ls cells slots hP hS hL hc hs => lv_i2l hx hb hd rfl (hF.2 hLn H locs ls cells slots hP hS hL hc hs)⟩
set_option maxHeartbeats 4000000 in
theorem pw_l2i (hX : pm_X p s m args meth c own bytes ret ini D cI cZ b base n0 sl xs nL) (hdp : hdB = true → 1 ≤ R.frames ∧ 40 ≤ R.locals) (hd : decode bytes pc = .ok (.l2i, len)) (hln : len = pm_ln (.l2i) len) (hF : pm_F False (pm_T1 p l e R s m args below meth c Q D cI cZ b base n0 s0 bytes ret) (pm_K p l e R s m args below meth c Q D cI cZ b base n0 s0) (pm_C1 p l e R s m args below meth c Q D cI cZ b base n0 s0 sl xs) sl xs own ret ini hdB (.l2i) pc L st sh h) : pm_K p l e R s m args below meth c Q D cI cZ b base n0 s0 pc L st (sh, h) := by
  obtain ⟨hx, hb, hml, hown, hts, hK, hXs, hbb, hsz, hini, hNw⟩ := hX
  have hl1 : len = 1 := hln
  subst hl1
  replace hF := pm_pl_F hF
  obtain ⟨x, r, rfl, hF⟩ := hF
  exact ⟨hF.1, fun hLn H locs ls cells slots hP hS hL hc hs => lv_l2i hx hb hd rfl (hF.2 hLn H locs ls cells slots hP hS hL hc hs)⟩
set_option maxHeartbeats 4000000 in
theorem pw_lmul (hX : pm_X p s m args meth c own bytes ret ini D cI cZ b base n0 sl xs nL) (hdp : hdB = true → 1 ≤ R.frames ∧ 40 ≤ R.locals) (hd : decode bytes pc = .ok (.lmul, len)) (hln : len = pm_ln (.lmul) len) (hF : pm_F False (pm_T1 p l e R s m args below meth c Q D cI cZ b base n0 s0 bytes ret) (pm_K p l e R s m args below meth c Q D cI cZ b base n0 s0) (pm_C1 p l e R s m args below meth c Q D cI cZ b base n0 s0 sl xs) sl xs own ret ini hdB (.lmul) pc L st sh h) : pm_K p l e R s m args below meth c Q D cI cZ b base n0 s0 pc L st (sh, h) := by
  obtain ⟨hx, hb, hml, hown, hts, hK, hXs, hbb, hsz, hini, hNw⟩ := hX
  have hl1 : len = 1 := hln
  subst hl1
  replace hF := pm_pl_F hF
  obtain ⟨y, r, rfl, hF⟩ := hF
  replace hF := pm_pl_F hF
  obtain ⟨x, r, rfl, hF⟩ := hF
  exact ⟨hF.1, fun hLn H locs ls cells slots hP hS hL hc hs => lv_lmul hx hb hd (hF.2 hLn H locs ls cells slots hP hS hL hc hs)⟩
set_option maxHeartbeats 4000000 in
theorem pw_lcmp (hX : pm_X p s m args meth c own bytes ret ini D cI cZ b base n0 sl xs nL) (hdp : hdB = true → 1 ≤ R.frames ∧ 40 ≤ R.locals) (hd : decode bytes pc = .ok (.lcmp, len)) (hln : len = pm_ln (.lcmp) len) (hF : pm_F False (pm_T1 p l e R s m args below meth c Q D cI cZ b base n0 s0 bytes ret) (pm_K p l e R s m args below meth c Q D cI cZ b base n0 s0) (pm_C1 p l e R s m args below meth c Q D cI cZ b base n0 s0 sl xs) sl xs own ret ini hdB (.lcmp) pc L st sh h) : pm_K p l e R s m args below meth c Q D cI cZ b base n0 s0 pc L st (sh, h) := by
  obtain ⟨hx, hb, hml, hown, hts, hK, hXs, hbb, hsz, hini, hNw⟩ := hX
  have hl1 : len = 1 := hln
  subst hl1
  replace hF := pm_pl_F hF
  obtain ⟨y, r, rfl, hF⟩ := hF
  replace hF := pm_pl_F hF
  obtain ⟨x, r, rfl, hF⟩ := hF
  exact ⟨hF.1, fun hLn H locs ls cells slots hP hS hL hc hs => W.lcmp hx hb hd (hF.2 hLn H locs ls cells slots hP hS hL hc hs)⟩
set_option maxHeartbeats 4000000 in
theorem pw_dup (hX : pm_X p s m args meth c own bytes ret ini D cI cZ b base n0 sl xs nL) (hdp : hdB = true → 1 ≤ R.frames ∧ 40 ≤ R.locals) (hd : decode bytes pc = .ok (.dup, len)) (hln : len = pm_ln (.dup) len) (hF : pm_F False (pm_T1 p l e R s m args below meth c Q D cI cZ b base n0 s0 bytes ret) (pm_K p l e R s m args below meth c Q D cI cZ b base n0 s0) (pm_C1 p l e R s m args below meth c Q D cI cZ b base n0 s0 sl xs) sl xs own ret ini hdB (.dup) pc L st sh h) : pm_K p l e R s m args below meth c Q D cI cZ b base n0 s0 pc L st (sh, h) := by
  obtain ⟨hx, hb, hml, hown, hts, hK, hXs, hbb, hsz, hini, hNw⟩ := hX
  have hl1 : len = 1 := hln
  subst hl1
  replace hF := pm_p1_F hF
  obtain ⟨v, r, rfl, hc1, hF⟩ := hF
  exact ⟨hF.1, fun hLn H locs ls cells slots hP hS hL hc hs => lv_dup hx hb hd ((pm_cv_cat _ v).trans hc1) (hF.2 hLn H locs ls cells slots hP hS hL hc hs)⟩
set_option maxHeartbeats 4000000 in
theorem pw_dup2 (hX : pm_X p s m args meth c own bytes ret ini D cI cZ b base n0 sl xs nL) (hdp : hdB = true → 1 ≤ R.frames ∧ 40 ≤ R.locals) (hd : decode bytes pc = .ok (.dup2, len)) (hln : len = pm_ln (.dup2) len) (hF : pm_F False (pm_T1 p l e R s m args below meth c Q D cI cZ b base n0 s0 bytes ret) (pm_K p l e R s m args below meth c Q D cI cZ b base n0 s0) (pm_C1 p l e R s m args below meth c Q D cI cZ b base n0 s0 sl xs) sl xs own ret ini hdB (.dup2) pc L st sh h) : pm_K p l e R s m args below meth c Q D cI cZ b base n0 s0 pc L st (sh, h) := by
  obtain ⟨hx, hb, hml, hown, hts, hK, hXs, hbb, hsz, hini, hNw⟩ := hX
  have hl1 : len = 1 := hln
  subst hl1
  replace hF := pm_p1_F hF
  obtain ⟨v, r, rfl, hc1, hF⟩ := hF
  replace hF := pm_p1_F hF
  obtain ⟨u, r, rfl, hc2, hF⟩ := hF
  exact ⟨hF.1, fun hLn H locs ls cells slots hP hS hL hc hs => lv_dup2_11 hx hb hd ((pm_cv_cat _ v).trans hc1) ((pm_cv_cat _ u).trans hc2) (hF.2 hLn H locs ls cells slots hP hS hL hc hs)⟩
set_option maxHeartbeats 4000000 in
theorem pw_pop (hX : pm_X p s m args meth c own bytes ret ini D cI cZ b base n0 sl xs nL) (hdp : hdB = true → 1 ≤ R.frames ∧ 40 ≤ R.locals) (hd : decode bytes pc = .ok (.pop, len)) (hln : len = pm_ln (.pop) len) (hF : pm_F False (pm_T1 p l e R s m args below meth c Q D cI cZ b base n0 s0 bytes ret) (pm_K p l e R s m args below meth c Q D cI cZ b base n0 s0) (pm_C1 p l e R s m args below meth c Q D cI cZ b base n0 s0 sl xs) sl xs own ret ini hdB (.pop) pc L st sh h) : pm_K p l e R s m args below meth c Q D cI cZ b base n0 s0 pc L st (sh, h) := by
  obtain ⟨hx, hb, hml, hown, hts, hK, hXs, hbb, hsz, hini, hNw⟩ := hX
  have hl1 : len = 1 := hln
  subst hl1
  replace hF := pm_p1_F hF
  obtain ⟨v, r, rfl, hc1, hF⟩ := hF
  exact ⟨hF.1, fun hLn H locs ls cells slots hP hS hL hc hs => lv_pop hx hb hd ((pm_cv_cat _ v).trans hc1) (hF.2 hLn H locs ls cells slots hP hS hL hc hs)⟩
set_option maxHeartbeats 4000000 in
theorem pw_goto {off : Int} (hX : pm_X p s m args meth c own bytes ret ini D cI cZ b base n0 sl xs nL) (hdp : hdB = true → 1 ≤ R.frames ∧ 40 ≤ R.locals) (hd : decode bytes pc = .ok (.goto off, len)) (hln : len = pm_ln (.goto off) len) (hF : pm_F False (pm_T1 p l e R s m args below meth c Q D cI cZ b base n0 s0 bytes ret) (pm_K p l e R s m args below meth c Q D cI cZ b base n0 s0) (pm_C1 p l e R s m args below meth c Q D cI cZ b base n0 s0 sl xs) sl xs own ret ini hdB (.goto off) pc L st sh h) : pm_K p l e R s m args below meth c Q D cI cZ b base n0 s0 pc L st (sh, h) := by
  obtain ⟨hx, hb, hml, hown, hts, hK, hXs, hbb, hsz, hini, hNw⟩ := hX
  have hl1 : len = 3 := hln
  subst hl1
  replace hF := pm_j_F hF
  obtain ⟨t, ht, hF⟩ := hF
  exact ⟨hF.1, fun hLn H locs ls cells slots hP hS hL hc hs => lv_goto hx hb hd ht (hF.2 hLn H locs ls cells slots hP hS hL hc hs)⟩
set_option maxHeartbeats 4000000 in
theorem pw_ifCond {cd : ClassFile.Cond} {off : Int} (hX : pm_X p s m args meth c own bytes ret ini D cI cZ b base n0 sl xs nL) (hdp : hdB = true → 1 ≤ R.frames ∧ 40 ≤ R.locals) (hd : decode bytes pc = .ok (.ifCond cd off, len)) (hln : len = pm_ln (.ifCond cd off) len) (hF : pm_F False (pm_T1 p l e R s m args below meth c Q D cI cZ b base n0 s0 bytes ret) (pm_K p l e R s m args below meth c Q D cI cZ b base n0 s0) (pm_C1 p l e R s m args below meth c Q D cI cZ b base n0 s0 sl xs) sl xs own ret ini hdB (.ifCond cd off) pc L st sh h) : pm_K p l e R s m args below meth c Q D cI cZ b base n0 s0 pc L st (sh, h) := by
  obtain ⟨hx, hb, hml, hown, hts, hK, hXs, hbb, hsz, hini, hNw⟩ := hX
  have hl1 : len = 3 := hln
  subst hl1
  replace hF := pm_pi_F hF
  obtain ⟨x, r, rfl, hF⟩ := hF
  replace hF := pm_j_F hF
  obtain ⟨t, ht, hF⟩ := hF
  cases cd with
  | eq =>
    simp only [pm_c1] at hF
    split at hF
    · next hq => exact ⟨hF.1, fun hLn H locs ls cells slots hP hS hL hc hs => lv_if_eq hx hb hd ht (fun _ => hF.2 hLn H locs ls cells slots hP hS hL hc hs) (fun q => absurd hq q)⟩
    · next hq => exact ⟨hF.1, fun hLn H locs ls cells slots hP hS hL hc hs => lv_if_eq hx hb hd ht (fun q => absurd q hq) (fun _ => hF.2 hLn H locs ls cells slots hP hS hL hc hs)⟩
  | ne =>
    simp only [pm_c1] at hF
    split at hF
    · next hq => exact ⟨hF.1, fun hLn H locs ls cells slots hP hS hL hc hs => lv_if_ne hx hb hd ht (fun q => absurd hq q) (fun _ => hF.2 hLn H locs ls cells slots hP hS hL hc hs)⟩
    · next hq => exact ⟨hF.1, fun hLn H locs ls cells slots hP hS hL hc hs => lv_if_ne hx hb hd ht (fun _ => hF.2 hLn H locs ls cells slots hP hS hL hc hs) (fun q => absurd q hq)⟩
  | lt =>
    simp only [pm_c1] at hF
    split at hF
    · next hq => exact ⟨hF.1, fun hLn H locs ls cells slots hP hS hL hc hs => lv_if_lt hx hb hd ht (fun _ => hF.2 hLn H locs ls cells slots hP hS hL hc hs) (fun q => absurd hq q)⟩
    · next hq => exact ⟨hF.1, fun hLn H locs ls cells slots hP hS hL hc hs => lv_if_lt hx hb hd ht (fun q => absurd q hq) (fun _ => hF.2 hLn H locs ls cells slots hP hS hL hc hs)⟩
  | ge =>
    simp only [pm_c1] at hF
    split at hF
    · next hq => exact ⟨hF.1, fun hLn H locs ls cells slots hP hS hL hc hs => lv_if_ge hx hb hd ht (fun _ => hF.2 hLn H locs ls cells slots hP hS hL hc hs) (fun q => absurd hq q)⟩
    · next hq => exact ⟨hF.1, fun hLn H locs ls cells slots hP hS hL hc hs => lv_if_ge hx hb hd ht (fun q => absurd q hq) (fun _ => hF.2 hLn H locs ls cells slots hP hS hL hc hs)⟩
  | gt =>
    simp only [pm_c1] at hF
    split at hF
    · next hq => exact ⟨hF.1, fun hLn H locs ls cells slots hP hS hL hc hs => lv_if_gt hx hb hd ht (fun _ => hF.2 hLn H locs ls cells slots hP hS hL hc hs) (fun q => absurd hq q)⟩
    · next hq => exact ⟨hF.1, fun hLn H locs ls cells slots hP hS hL hc hs => lv_if_gt hx hb hd ht (fun q => absurd q hq) (fun _ => hF.2 hLn H locs ls cells slots hP hS hL hc hs)⟩
  | le =>
    simp only [pm_c1] at hF
    split at hF
    · next hq => exact ⟨hF.1, fun hLn H locs ls cells slots hP hS hL hc hs => lv_if_le hx hb hd ht (fun _ => hF.2 hLn H locs ls cells slots hP hS hL hc hs) (fun q => absurd hq q)⟩
    · next hq => exact ⟨hF.1, fun hLn H locs ls cells slots hP hS hL hc hs => lv_if_le hx hb hd ht (fun q => absurd q hq) (fun _ => hF.2 hLn H locs ls cells slots hP hS hL hc hs)⟩
set_option maxHeartbeats 4000000 in
theorem pw_if_icmp {cd : ClassFile.Cond} {off : Int} (hX : pm_X p s m args meth c own bytes ret ini D cI cZ b base n0 sl xs nL) (hdp : hdB = true → 1 ≤ R.frames ∧ 40 ≤ R.locals) (hd : decode bytes pc = .ok (.if_icmp cd off, len)) (hln : len = pm_ln (.if_icmp cd off) len) (hF : pm_F False (pm_T1 p l e R s m args below meth c Q D cI cZ b base n0 s0 bytes ret) (pm_K p l e R s m args below meth c Q D cI cZ b base n0 s0) (pm_C1 p l e R s m args below meth c Q D cI cZ b base n0 s0 sl xs) sl xs own ret ini hdB (.if_icmp cd off) pc L st sh h) : pm_K p l e R s m args below meth c Q D cI cZ b base n0 s0 pc L st (sh, h) := by
  obtain ⟨hx, hb, hml, hown, hts, hK, hXs, hbb, hsz, hini, hNw⟩ := hX
  have hl1 : len = 3 := hln
  subst hl1
  replace hF := pm_pi_F hF
  obtain ⟨y, r, rfl, hF⟩ := hF
  replace hF := pm_pi_F hF
  obtain ⟨x, r, rfl, hF⟩ := hF
  replace hF := pm_j_F hF
  obtain ⟨t, ht, hF⟩ := hF
  cases cd with
  | eq =>
    simp only [pm_c2] at hF
    split at hF
    · next hq => exact ⟨hF.1, fun hLn H locs ls cells slots hP hS hL hc hs => lv_icmp_eq hx hb hd ht (fun _ => hF.2 hLn H locs ls cells slots hP hS hL hc hs) (fun q => absurd hq q)⟩
    · next hq => exact ⟨hF.1, fun hLn H locs ls cells slots hP hS hL hc hs => lv_icmp_eq hx hb hd ht (fun q => absurd q hq) (fun _ => hF.2 hLn H locs ls cells slots hP hS hL hc hs)⟩
  | ne =>
    simp only [pm_c2] at hF
    split at hF
    · next hq => exact ⟨hF.1, fun hLn H locs ls cells slots hP hS hL hc hs => lv_icmp_ne hx hb hd ht (fun q => absurd hq q) (fun _ => hF.2 hLn H locs ls cells slots hP hS hL hc hs)⟩
    · next hq => exact ⟨hF.1, fun hLn H locs ls cells slots hP hS hL hc hs => lv_icmp_ne hx hb hd ht (fun _ => hF.2 hLn H locs ls cells slots hP hS hL hc hs) (fun q => absurd q hq)⟩
  | lt =>
    simp only [pm_c2] at hF
    split at hF
    · next hq => exact ⟨hF.1, fun hLn H locs ls cells slots hP hS hL hc hs => lv_icmp_lt hx hb hd ht (fun _ => hF.2 hLn H locs ls cells slots hP hS hL hc hs) (fun q => absurd hq q)⟩
    · next hq => exact ⟨hF.1, fun hLn H locs ls cells slots hP hS hL hc hs => lv_icmp_lt hx hb hd ht (fun q => absurd q hq) (fun _ => hF.2 hLn H locs ls cells slots hP hS hL hc hs)⟩
  | ge =>
    simp only [pm_c2] at hF
    split at hF
    · next hq => exact ⟨hF.1, fun hLn H locs ls cells slots hP hS hL hc hs => lv_icmp_ge hx hb hd ht (fun _ => hF.2 hLn H locs ls cells slots hP hS hL hc hs) (fun q => absurd hq q)⟩
    · next hq => exact ⟨hF.1, fun hLn H locs ls cells slots hP hS hL hc hs => lv_icmp_ge hx hb hd ht (fun q => absurd q hq) (fun _ => hF.2 hLn H locs ls cells slots hP hS hL hc hs)⟩
  | gt =>
    simp only [pm_c2] at hF
    split at hF
    · next hq => exact ⟨hF.1, fun hLn H locs ls cells slots hP hS hL hc hs => lv_icmp_gt hx hb hd ht (fun _ => hF.2 hLn H locs ls cells slots hP hS hL hc hs) (fun q => absurd hq q)⟩
    · next hq => exact ⟨hF.1, fun hLn H locs ls cells slots hP hS hL hc hs => lv_icmp_gt hx hb hd ht (fun q => absurd q hq) (fun _ => hF.2 hLn H locs ls cells slots hP hS hL hc hs)⟩
  | le =>
    simp only [pm_c2] at hF
    split at hF
    · next hq => exact ⟨hF.1, fun hLn H locs ls cells slots hP hS hL hc hs => lv_icmp_le hx hb hd ht (fun _ => hF.2 hLn H locs ls cells slots hP hS hL hc hs) (fun q => absurd hq q)⟩
    · next hq => exact ⟨hF.1, fun hLn H locs ls cells slots hP hS hL hc hs => lv_icmp_le hx hb hd ht (fun q => absurd q hq) (fun _ => hF.2 hLn H locs ls cells slots hP hS hL hc hs)⟩
set_option maxHeartbeats 4000000 in
theorem pw_baload (hX : pm_X p s m args meth c own bytes ret ini D cI cZ b base n0 sl xs nL) (hdp : hdB = true → 1 ≤ R.frames ∧ 40 ≤ R.locals) (hd : decode bytes pc = .ok (.baload, len)) (hln : len = pm_ln (.baload) len) (hF : pm_F False (pm_T1 p l e R s m args below meth c Q D cI cZ b base n0 s0 bytes ret) (pm_K p l e R s m args below meth c Q D cI cZ b base n0 s0) (pm_C1 p l e R s m args below meth c Q D cI cZ b base n0 s0 sl xs) sl xs own ret ini hdB (.baload) pc L st sh h) : pm_K p l e R s m args below meth c Q D cI cZ b base n0 s0 pc L st (sh, h) := by
  obtain ⟨hx, hb, hml, hown, hts, hK, hXs, hbb, hsz, hini, hNw⟩ := hX
  have hl1 : len = 1 := hln
  subst hl1
  replace hF := pm_pi_F hF
  obtain ⟨i, r, rfl, hF⟩ := hF
  replace hF := pm_pr_F hF
  obtain ⟨a, r, rfl, hF⟩ := hF
  replace hF := pm_ar_F hF
  obtain ⟨k, sx, rfl, hk, hk1, hF⟩ := hF
  replace hF := pm_ix_F hF
  obtain ⟨hin, hF⟩ := hF
  obtain ⟨s1, s2, s3⟩ := sx
  subst hk1
  exact ⟨hF.1, fun hLn H locs ls cells slots hP hS hL hc hs => va_zald (a := base + k) (cA := cZ) (n := s2) (f := h k) hx hb hK hP k 1 (pm_ws_z hk) rfl hin hd (hF.2 hLn H locs ls cells slots hP hS hL hc hs)⟩
set_option maxHeartbeats 4000000 in
theorem pw_iaload (hX : pm_X p s m args meth c own bytes ret ini D cI cZ b base n0 sl xs nL) (hdp : hdB = true → 1 ≤ R.frames ∧ 40 ≤ R.locals) (hd : decode bytes pc = .ok (.iaload, len)) (hln : len = pm_ln (.iaload) len) (hF : pm_F False (pm_T1 p l e R s m args below meth c Q D cI cZ b base n0 s0 bytes ret) (pm_K p l e R s m args below meth c Q D cI cZ b base n0 s0) (pm_C1 p l e R s m args below meth c Q D cI cZ b base n0 s0 sl xs) sl xs own ret ini hdB (.iaload) pc L st sh h) : pm_K p l e R s m args below meth c Q D cI cZ b base n0 s0 pc L st (sh, h) := by
  obtain ⟨hx, hb, hml, hown, hts, hK, hXs, hbb, hsz, hini, hNw⟩ := hX
  have hl1 : len = 1 := hln
  subst hl1
  replace hF := pm_pi_F hF
  obtain ⟨i, r, rfl, hF⟩ := hF
  replace hF := pm_pr_F hF
  obtain ⟨a, r, rfl, hF⟩ := hF
  cases a with
  | zero =>
    replace hF := pm_ix_F hF
    obtain ⟨hin, hF⟩ := hF
    exact ⟨hF.1, fun hLn H locs ls cells slots hP hS hL hc hs => va_sld (b := b) hx hb hXs (by omega) (by omega) hS hin hd (hF.2 hLn H locs ls cells slots hP hS hL hc hs)⟩
  | succ a0 =>
    have hF : pm_ar False sh 0 (a0 + 1) _ := hF
    replace hF := pm_ar_F hF
    obtain ⟨k, sx, hka, hk, hk1, hF⟩ := hF
    have hka : a0 = k := by omega
    subst hka
    replace hF := pm_ix_F hF
    obtain ⟨hin, hF⟩ := hF
    obtain ⟨s1, s2, s3⟩ := sx
    subst hk1
    exact ⟨hF.1, fun hLn H locs ls cells slots hP hS hL hc hs => va_iald (a := base + a0) (cA := cI) (n := s2) (f := h a0) hx hb hK hP a0 0 (pm_ws_i hk) rfl hin hd (hF.2 hLn H locs ls cells slots hP hS hL hc hs)⟩
set_option maxHeartbeats 4000000 in
theorem pw_arraylength (hX : pm_X p s m args meth c own bytes ret ini D cI cZ b base n0 sl xs nL) (hdp : hdB = true → 1 ≤ R.frames ∧ 40 ≤ R.locals) (hd : decode bytes pc = .ok (.arraylength, len)) (hln : len = pm_ln (.arraylength) len) (hF : pm_F False (pm_T1 p l e R s m args below meth c Q D cI cZ b base n0 s0 bytes ret) (pm_K p l e R s m args below meth c Q D cI cZ b base n0 s0) (pm_C1 p l e R s m args below meth c Q D cI cZ b base n0 s0 sl xs) sl xs own ret ini hdB (.arraylength) pc L st sh h) : pm_K p l e R s m args below meth c Q D cI cZ b base n0 s0 pc L st (sh, h) := by
  obtain ⟨hx, hb, hml, hown, hts, hK, hXs, hbb, hsz, hini, hNw⟩ := hX
  have hl1 : len = 1 := hln
  subst hl1
  replace hF := pm_pr_F hF
  obtain ⟨a, r, rfl, hF⟩ := hF
  cases a with
  | zero =>
    have hF : pm_K p l e R s m args below meth c Q D cI cZ b base n0 s0 (pc + 1) L (.int (nI sl) :: r) (sh, h) := hF
    exact ⟨hF.1, fun hLn H locs ls cells slots hP hS hL hc hs => va_slen (b := b) hx hb hXs (by omega) (by omega) hS hd (hF.2 hLn H locs ls cells slots hP hS hL hc hs)⟩
  | succ a0 =>
    have hF : pm_ar False sh 0 (a0 + 1) _ := hF
    replace hF := pm_ar_F hF
    obtain ⟨k, sx, hka, hk, hk1, hF⟩ := hF
    have hka : a0 = k := by omega
    subst hka
    obtain ⟨s1, s2, s3⟩ := sx
    subst hk1
    exact ⟨hF.1, fun hLn H locs ls cells slots hP hS hL hc hs => va_alen (a := base + a0) (cA := cI) (x := (s2, .inl (h a0))) (ty := .int) hx hb hK hP a0 0 (pm_ws_i hk) rfl rfl hd (hF.2 hLn H locs ls cells slots hP hS hL hc hs)⟩
set_option maxHeartbeats 4000000 in
theorem pw_iastore (hX : pm_X p s m args meth c own bytes ret ini D cI cZ b base n0 sl xs nL) (hdp : hdB = true → 1 ≤ R.frames ∧ 40 ≤ R.locals) (hd : decode bytes pc = .ok (.iastore, len)) (hln : len = pm_ln (.iastore) len) (hF : pm_F False (pm_T1 p l e R s m args below meth c Q D cI cZ b base n0 s0 bytes ret) (pm_K p l e R s m args below meth c Q D cI cZ b base n0 s0) (pm_C1 p l e R s m args below meth c Q D cI cZ b base n0 s0 sl xs) sl xs own ret ini hdB (.iastore) pc L st sh h) : pm_K p l e R s m args below meth c Q D cI cZ b base n0 s0 pc L st (sh, h) := by
  obtain ⟨hx, hb, hml, hown, hts, hK, hXs, hbb, hsz, hini, hNw⟩ := hX
  have hl1 : len = 1 := hln
  subst hl1
  replace hF := pm_pi_F hF
  obtain ⟨x, r, rfl, hF⟩ := hF
  replace hF := pm_pi_F hF
  obtain ⟨i, r, rfl, hF⟩ := hF
  replace hF := pm_pr_F hF
  obtain ⟨a, r, rfl, hF⟩ := hF
  replace hF := pm_ar_F hF
  obtain ⟨k, sx, rfl, hk, hk1, hF⟩ := hF
  replace hF := pm_ix_F hF
  obtain ⟨hin, hF⟩ := hF
  obtain ⟨s1, s2, s3⟩ := sx
  subst hk1
  refine ⟨hF.1, fun hLn H locs ls cells slots hP hS hL hc hs => va_iast (a := base + k) (cA := cI) (n := s2) (f := h k) hx hb hK hP (pm_D _) hS k 0 (pm_ws_i hk) rfl hin hd (fun H1 locs1 hP1 hD1 hS1 => ?_)⟩
  have hE : pm_e cI cZ (pm_ad b base) (pm_up h k i.toNatClampNeg x) k (0, s2, s3) = .inl (cI, s2, .inl (upd (h k) i.toNatClampNeg x)) := by
    simp only [pm_e, pm_up_same]
  have hP2 : va_P D vwCl (pm_ws cI cZ b base (sh, pm_up h k i.toNatClampNeg x)) H1 := by
    rw [← pm_ws_set (w := (sh, h)) (w' := (sh, pm_up h k i.toNatClampNeg x)) (k := k) rfl hk (fun j hj => ⟨rfl, pm_up_ne hj⟩), hE]
    exact hP1
  exact hF.2 hLn H1 locs1 ls cells slots hP2 hS1 hL hc hs
set_option maxHeartbeats 4000000 in
theorem pw_bastore (hX : pm_X p s m args meth c own bytes ret ini D cI cZ b base n0 sl xs nL) (hdp : hdB = true → 1 ≤ R.frames ∧ 40 ≤ R.locals) (hd : decode bytes pc = .ok (.bastore, len)) (hln : len = pm_ln (.bastore) len) (hF : pm_F False (pm_T1 p l e R s m args below meth c Q D cI cZ b base n0 s0 bytes ret) (pm_K p l e R s m args below meth c Q D cI cZ b base n0 s0) (pm_C1 p l e R s m args below meth c Q D cI cZ b base n0 s0 sl xs) sl xs own ret ini hdB (.bastore) pc L st sh h) : pm_K p l e R s m args below meth c Q D cI cZ b base n0 s0 pc L st (sh, h) := by
  obtain ⟨hx, hb, hml, hown, hts, hK, hXs, hbb, hsz, hini, hNw⟩ := hX
  have hl1 : len = 1 := hln
  subst hl1
  replace hF := pm_pi_F hF
  obtain ⟨x, r, rfl, hF⟩ := hF
  replace hF := pm_pi_F hF
  obtain ⟨i, r, rfl, hF⟩ := hF
  replace hF := pm_pr_F hF
  obtain ⟨a, r, rfl, hF⟩ := hF
  replace hF := pm_ar_F hF
  obtain ⟨k, sx, rfl, hk, hk1, hF⟩ := hF
  replace hF := pm_ix_F hF
  obtain ⟨hin, hF⟩ := hF
  obtain ⟨s1, s2, s3⟩ := sx
  subst hk1
  split at hF
  case isFalse => exact hF.elim
  have hnx : vp_nar .boolean x = x := by
    rename_i hx01
    rcases hx01 with rfl | rfl <;> rfl
  refine ⟨hF.1, fun hLn H locs ls cells slots hP hS hL hc hs => va_zast (a := base + k) (cA := cZ) (n := s2) (f := h k) hx hb hK hP (pm_D _) hS k 1 (pm_ws_z hk) rfl hin hd (fun H1 locs1 hP1 hD1 hS1 => ?_)⟩
  have hE : pm_e cI cZ (pm_ad b base) (pm_up h k i.toNatClampNeg x) k (1, s2, s3) = .inl (cZ, s2, .inl (upd (h k) i.toNatClampNeg (vp_nar .boolean x))) := by
    simp only [pm_e, pm_up_same, hnx]
  have hP2 : va_P D vwCl (pm_ws cI cZ b base (sh, pm_up h k i.toNatClampNeg x)) H1 := by
    rw [← pm_ws_set (w := (sh, h)) (w' := (sh, pm_up h k i.toNatClampNeg x)) (k := k) rfl hk (fun j hj => ⟨rfl, pm_up_ne hj⟩), hE]
    exact hP1
  exact hF.2 hLn H1 locs1 ls cells slots hP2 hS1 hL hc hs
end PMP
end
section
section PMP8
variable {p : Program} {l : Launch} {e : Env} {R : Room} {s : State} {m : MethodId} {args : Array Value} {below : List Frame} {meth : Method} {c : Code} {Q : State → Prop}
variable {D : va_G} {cI cZ : ClassId} {b base n0 s0 sl own pc len nL : Nat} {xs : Nat → Int32} {bytes : ByteArray} {ret : Option FieldType} {ini hdB : Bool} {L : pmL} {st : List Value} {sh : List pmS} {h : pmH}
theorem pm_sw_F {x : Int32} {f : Nat → Prop} {dflt : Int} : ∀ {offs : List Int} {i : Nat}, i + offs.length ≤ 1000 → pm_sw False pc x f dflt i offs →
    (∃ (j : Nat) (o : Int) (t : Nat), offs[j]? = some o ∧ x = nI (i + j) ∧ (pc : Int) + o = (t : Int) ∧ f t) ∨ ((∀ j, j < offs.length → x ≠ nI (i + j)) ∧ ∃ t : Nat, (pc : Int) + dflt = (t : Int) ∧ f t)
  | [], i, _, h => Or.inr ⟨fun j hj => absurd hj (Nat.not_lt_zero _), pm_j_F h⟩
  | o :: t, i, hl, h => by
    rw [List.length_cons] at hl
    unfold pm_sw at h
    split at h
    · next hx =>
      obtain ⟨t', h1, h2⟩ := pm_j_F h
      exact Or.inl ⟨0, o, t', rfl, hx, h1, h2⟩
    · next hx =>
      rcases pm_sw_F (i := i + 1) (by omega) h with ⟨j, o', t', h1, h2, h3, h4⟩ | ⟨h1, h2⟩
      · exact Or.inl ⟨j + 1, o', t', by rw [List.getElem?_cons_succ]; exact h1, by rw [h2]; congr 1; omega, h3, h4⟩
      · refine Or.inr ⟨fun j hj => ?_, h2⟩
        cases j with
        | zero => exact hx
        | succ j =>
          have h5 := h1 j (by rw [List.length_cons] at hj; omega)
          rw [show i + (j + 1) = i + 1 + j by omega]
          exact h5
set_option maxHeartbeats 4000000 in
theorem pw_tableswitch {dflt lo hi : Int} {offs : Array Int} (hX : pm_X p s m args meth c own bytes ret ini D cI cZ b base n0 sl xs nL) (hdp : hdB = true → 1 ≤ R.frames ∧ 40 ≤ R.locals) (hd : decode bytes pc = .ok (.tableswitch dflt lo hi offs, len)) (hln : len = pm_ln (.tableswitch dflt lo hi offs) len) (hF : pm_F False (pm_T1 p l e R s m args below meth c Q D cI cZ b base n0 s0 bytes ret) (pm_K p l e R s m args below meth c Q D cI cZ b base n0 s0) (pm_C1 p l e R s m args below meth c Q D cI cZ b base n0 s0 sl xs) sl xs own ret ini hdB (.tableswitch dflt lo hi offs) pc L st sh h) : pm_K p l e R s m args below meth c Q D cI cZ b base n0 s0 pc L st (sh, h) := by
  obtain ⟨hx, hb, hml, hown, hts, hK, hXs, hbb, hsz, hini, hNw⟩ := hX
  replace hF := pm_pi_F hF
  obtain ⟨x, r, rfl, hF⟩ := hF
  replace hF := pm_b_F hF
  obtain ⟨hb1, hF⟩ := hF
  simp only [Bool.and_eq_true, decide_eq_true_eq] at hb1
  obtain ⟨⟨hlo, hhi⟩, hle⟩ := hb1
  rcases pm_sw_F (by omega) hF with ⟨j, o, t, h1, h2, h3, h4⟩ | ⟨h1, t, h3, h4⟩
  · have hj : j < offs.toList.length := (List.getElem?_eq_some_iff.mp h1).1
    have hxi : x.toInt = (j : Int) := by rw [h2, Nat.zero_add]; exact nI_toInt (by omega)
    refine ⟨h4.1, fun hLn H locs ls cells slots hP hS hL hc hs => lv_tableIn hx hb hd (by omega) (by omega) (off := o) ?_ h3 (h4.2 hLn H locs ls cells slots hP hS hL hc hs)⟩
    rw [hxi, hlo, show ((j : Int) - 0).toNat = j by omega, ← Array.getElem?_toList]
    exact h1
  · refine ⟨h4.1, fun hLn H locs ls cells slots hP hS hL hc hs => lv_tableOut hx hb hd ?_ h3 (h4.2 hLn H locs ls cells slots hP hS hL hc hs)⟩
    rcases Int.lt_or_le x.toInt lo with h5 | h5
    · exact Or.inl h5
    · right
      rcases Int.lt_or_le hi x.toInt with h6 | h6
      · exact h6
      · exfalso
        have hj : x.toInt.toNat < offs.toList.length := by omega
        refine h1 _ hj ?_
        rw [Nat.zero_add, ← Int32.toInt_inj, nI_toInt (by omega)]
        omega
set_option maxHeartbeats 4000000 in
theorem pw_getfield {i : Nat} (hX : pm_X p s m args meth c own bytes ret ini D cI cZ b base n0 sl xs nL) (hdp : hdB = true → 1 ≤ R.frames ∧ 40 ≤ R.locals) (hd : decode bytes pc = .ok (.getfield i, len)) (hln : len = pm_ln (.getfield i) len) (hF : pm_F False (pm_T1 p l e R s m args below meth c Q D cI cZ b base n0 s0 bytes ret) (pm_K p l e R s m args below meth c Q D cI cZ b base n0 s0) (pm_C1 p l e R s m args below meth c Q D cI cZ b base n0 s0 sl xs) sl xs own ret ini hdB (.getfield i) pc L st sh h) : pm_K p l e R s m args below meth c Q D cI cZ b base n0 s0 pc L st (sh, h) := by
  obtain ⟨hx, hb, hml, hown, hts, hK, hXs, hbb, hsz, hini, hNw⟩ := hX
  have hl1 : len = 3 := hln
  subst hl1
  replace hF := pm_o_F hF
  obtain ⟨q, hq, hF⟩ := hF
  replace hF := pm_pr_F hF
  obtain ⟨a, r, rfl, hF⟩ := hF
  replace hF := pm_ob_F hF
  obtain ⟨k, fl, rfl, hk, hF⟩ := hF
  obtain ⟨hq1, hq2, hq3⟩ := pmf_all own _ (pm_lk_mem hq)
  dsimp only at hq1 hq2 hq3
  obtain ⟨hC1, hC2, hC3, hC4, hC5, hC6, hC7⟩ := pmC_all q.1 hq1
  rcases pm_gf_F hF with ⟨ho, hF⟩ | ⟨bb, ho, hF⟩
  · exact ⟨hF.1, fun hLn H locs ls cells slots hP hS hL hc hs => va_get (a := base + k) (own := pm_cn own) (ref := (pm_T q.1 q.2).1) (C := pm_cn q.1) (T := pm_T q.1) (N := pm_N q.1) (ci := q.1) (Ts := pm_gt) hx hb hts (pm_g_lay hC2) hown hK hP k (pm_ws_o hk) hC1 q.2 hq2 (hts _ (pm_g hq3 rfl)) (fun _ h9 => h9) (pm_fv_get ho) hd (hF.2 hLn H locs ls cells slots hP hS hL hc hs)⟩
  · exact ⟨hF.1, fun hLn H locs ls cells slots hP hS hL hc hs => va_get (a := base + k) (own := pm_cn own) (ref := (pm_T q.1 q.2).1) (C := pm_cn q.1) (T := pm_T q.1) (N := pm_N q.1) (ci := q.1) (Ts := pm_gt) hx hb hts (pm_g_lay hC2) hown hK hP k (pm_ws_o hk) hC1 q.2 hq2 (hts _ (pm_g hq3 rfl)) (fun _ h9 => h9) (pm_fv_get ho) hd (hF.2 hLn H locs ls cells slots hP hS hL hc hs)⟩
set_option maxHeartbeats 4000000 in
theorem pw_putfield {i : Nat} (hX : pm_X p s m args meth c own bytes ret ini D cI cZ b base n0 sl xs nL) (hdp : hdB = true → 1 ≤ R.frames ∧ 40 ≤ R.locals) (hd : decode bytes pc = .ok (.putfield i, len)) (hln : len = pm_ln (.putfield i) len) (hF : pm_F False (pm_T1 p l e R s m args below meth c Q D cI cZ b base n0 s0 bytes ret) (pm_K p l e R s m args below meth c Q D cI cZ b base n0 s0) (pm_C1 p l e R s m args below meth c Q D cI cZ b base n0 s0 sl xs) sl xs own ret ini hdB (.putfield i) pc L st sh h) : pm_K p l e R s m args below meth c Q D cI cZ b base n0 s0 pc L st (sh, h) := by
  obtain ⟨hx, hb, hml, hown, hts, hK, hXs, hbb, hsz, hini, hNw⟩ := hX
  have hl1 : len = 3 := hln
  subst hl1
  replace hF := pm_o_F hF
  obtain ⟨q, hq, hF⟩ := hF
  replace hF := pm_p1_F hF
  obtain ⟨v, r, rfl, hcat, hF⟩ := hF
  replace hF := pm_pr_F hF
  obtain ⟨a, r, rfl, hF⟩ := hF
  replace hF := pm_ob_F hF
  obtain ⟨k, fl, rfl, hk, hF⟩ := hF
  obtain ⟨hq1, hq2, hq3⟩ := pmf_all own _ (pm_lk_mem hq)
  dsimp only at hq1 hq2 hq3
  obtain ⟨hC1, hC2, hC3, hC4, hC5, hC6, hC7⟩ := pmC_all q.1 hq1
  obtain ⟨hf1, hf2⟩ := pmF_all q.1 hq1 q.2 hq2
  have hkl := (List.getElem?_eq_some_iff.mp hk).1
  cases v with
  | int x =>
    rcases pm_gf_F hF with ⟨hf0, hF⟩ | ⟨_, _, hF⟩
    case inr => exact hF.elim
    rcases pm_gf_F hF with ⟨ho, hF⟩ | ⟨_, _, hF⟩
    case inr => exact hF.elim
    rcases hf2 with ⟨-, hty, hfin⟩ | ⟨hf3, -⟩
    case inr => rw [hf0] at hf3; cases hf3
    have hjl : q.2 < (pm_fv (pm_ad b base) (h k) fl).length := (List.getElem?_eq_some_iff.mp (pm_fv_get ho)).1
    refine ⟨hF.1, fun hLn H locs ls cells slots hP hS hL hc hs => va_put (a := base + k) (v := .int x) (ty := .int) (own := pm_cn own) (ref := (pm_T q.1 q.2).1) (C := pm_cn q.1) (T := pm_T q.1) (N := pm_N q.1) (ci := q.1) (Ts := pm_gt) hx hb hts (pm_g_lay hC2) (pm_ty q.1) hC3 hC4 hown hK hP (pm_D _) hS k (pm_ws_o hk) hC1 q.2 hq2 (hts _ (pm_g hq3 rfl)) (fun _ h9 => h9) hfin (by rw [hC3 q.2 hq2, hty]) rfl rfl hjl hd (fun H1 locs1 hP1 hD1 hS1 => ?_)⟩
    have hP2 : va_P D vwCl (pm_ws cI cZ b base (sh, pm_up h k q.2 x)) H1 := by
      rw [← pm_ws_set (w := (sh, h)) (w' := (sh, pm_up h k q.2 x)) (k := k) (s' := (2, q.1, fl)) rfl hk (fun j hj => ⟨rfl, pm_up_ne hj⟩)]
      have hE : pm_e cI cZ (pm_ad b base) (pm_up h k q.2 x) k (2, q.1, fl) = .inr (q.1, (pm_fv (pm_ad b base) (h k) fl).set q.2 (.int x)) := by
        simp only [pm_e, pm_up_same, pm_fv_upd ho]
      rw [hE]
      exact hP1
    exact hF.2 hLn H1 locs1 ls cells slots hP2 hS1 hL hc hs
  | ref a2 =>
    replace hF := pm_gr_F hF
    obtain ⟨⟨x0, hf0⟩, hF⟩ := hF
    replace hF := pm_gr_F hF
    obtain ⟨⟨x1, ho⟩, hF⟩ := hF
    replace hF := pm_b_F hF
    obtain ⟨hb1, hF⟩ := hF
    rw [Bool.and_eq_true] at hb1
    have hqo : q.1 = own := Nat.eq_of_beq_eq_true hb1.2
    rcases hf2 with ⟨hf3, -⟩ | ⟨-, hfin, hty⟩
    case inl => rw [hf0] at hf3; cases hf3
    have hjl : q.2 < (pm_fv (pm_ad b base) (h k) fl).length := (List.getElem?_eq_some_iff.mp (pm_fv_get ho)).1
    have hnr : narrow (pm_ty q.1 q.2) (.ref (pm_ad b base a2)) = .ref (pm_ad b base a2) ∧ fits (pm_ty q.1 q.2) (.ref (pm_ad b base a2)) = true := by
      rcases hty with ⟨n, hn⟩ | ⟨t, hn⟩ <;> rw [hn] <;> exact ⟨rfl, rfl⟩
    have hss : pm_ss (sh.set k (2, q.1, fl.set q.2 (some (some a2)))) = pm_ss sh := pm_ss_set sh k q.1 fl _ hk List.length_set
    refine ⟨⟨by have := hF.1.1; rwa [List.length_set] at this, by have := hF.1.2; rwa [hss] at this⟩, fun hLn H locs ls cells slots hP hS hL hc hs => va_putF (a := base + k) (v := .ref (pm_ad b base a2)) (ty := pm_ty q.1 q.2) (own := pm_cn own) (ref := (pm_T q.1 q.2).1) (C := pm_cn q.1) (T := pm_T q.1) (N := pm_N q.1) (ci := q.1) (Ts := pm_gt) hx hb hts (pm_g_lay hC2) (pm_ty q.1) hC3 hC4 hown hK hP (pm_D _) hS k (pm_ws_o hk) hC1 q.2 hq2 (hts _ (pm_g hq3 rfl)) (fun _ h9 => h9) hfin (hini hb1.1) (by rw [hf1, hqo]) (hC3 q.2 hq2) hnr.1 hnr.2 hjl hd (fun H1 locs1 hP1 hD1 hS1 => ?_)⟩
    have hk' : (sh.set k (2, q.1, fl.set q.2 (some (some a2))))[k]? = some (2, q.1, fl.set q.2 (some (some a2))) := List.getElem?_set_self hkl
    have hP2 : va_P D vwCl (pm_ws cI cZ b base (sh.set k (2, q.1, fl.set q.2 (some (some a2))), h)) H1 := by
      rw [← pm_ws_set (w := (sh, h)) (w' := (sh.set k (2, q.1, fl.set q.2 (some (some a2))), h)) (k := k) (s' := (2, q.1, fl.set q.2 (some (some a2)))) List.length_set hk' (fun j hj => ⟨List.getElem?_set_ne (Ne.symm hj), rfl⟩)]
      have hE : pm_e cI cZ (pm_ad b base) h k (2, q.1, fl.set q.2 (some (some a2))) = .inr (q.1, (pm_fv (pm_ad b base) (h k) fl).set q.2 (.ref (pm_ad b base a2))) := by
        simp only [pm_e, pm_fv_set]
      rw [hE]
      exact hP1
    exact hF.2 hLn H1 locs1 ls cells slots hP2 hS1 hL (by dsimp only; rw [List.length_set]; exact hc) (by dsimp only; rw [hss]; exact hs)
  | _ => exact hF.elim
set_option maxHeartbeats 4000000 in
theorem pw_ireturn (hX : pm_X p s m args meth c own bytes ret ini D cI cZ b base n0 sl xs nL) (hdp : hdB = true → 1 ≤ R.frames ∧ 40 ≤ R.locals) (hd : decode bytes pc = .ok (.ireturn, len)) (hln : len = pm_ln (.ireturn) len) (hF : pm_F False (pm_T1 p l e R s m args below meth c Q D cI cZ b base n0 s0 bytes ret) (pm_K p l e R s m args below meth c Q D cI cZ b base n0 s0) (pm_C1 p l e R s m args below meth c Q D cI cZ b base n0 s0 sl xs) sl xs own ret ini hdB (.ireturn) pc L st sh h) : pm_K p l e R s m args below meth c Q D cI cZ b base n0 s0 pc L st (sh, h) := by
  obtain ⟨hx, hb, hml, hown, hts, hK, hXs, hbb, hsz, hini, hNw⟩ := hX
  have hl1 : len = 1 := hln
  subst hl1
  replace hF := pm_pi_F hF
  obtain ⟨x, r, rfl, hF⟩ := hF
  cases r with
  | cons _ _ => exact hF.elim
  | nil =>
    replace hF := pm_rt_F hF
    obtain ⟨hret, hF⟩ := hF
    exact ⟨hF.1, fun hLn H locs ls cells slots hP hS hL hc hs => hF.2 pc ⟨x, rfl, hd, hret⟩ H locs ls cells slots hP hS hc hs⟩
set_option maxHeartbeats 4000000 in
theorem pw_return (hX : pm_X p s m args meth c own bytes ret ini D cI cZ b base n0 sl xs nL) (hdp : hdB = true → 1 ≤ R.frames ∧ 40 ≤ R.locals) (hd : decode bytes pc = .ok (.return_, len)) (hln : len = pm_ln (.return_) len) (hF : pm_F False (pm_T1 p l e R s m args below meth c Q D cI cZ b base n0 s0 bytes ret) (pm_K p l e R s m args below meth c Q D cI cZ b base n0 s0) (pm_C1 p l e R s m args below meth c Q D cI cZ b base n0 s0 sl xs) sl xs own ret ini hdB (.return_) pc L st sh h) : pm_K p l e R s m args below meth c Q D cI cZ b base n0 s0 pc L st (sh, h) := by
  obtain ⟨hx, hb, hml, hown, hts, hK, hXs, hbb, hsz, hini, hNw⟩ := hX
  have hl1 : len = 1 := hln
  subst hl1
  cases st with
  | cons _ _ => exact hF.elim
  | nil =>
    cases ret with
    | some _ => exact hF.elim
    | none => exact ⟨hF.1, fun hLn H locs ls cells slots hP hS hL hc hs => hF.2 pc ⟨hd, rfl⟩ H locs ls cells slots hP hS hc hs⟩
end PMP8
end
section
section PMP9
variable {p : Program} {l : Launch} {e : Env} {R : Room} {s : State} {m : MethodId} {args : Array Value} {below : List Frame} {meth : Method} {c : Code} {Q : State → Prop}
variable {D : va_G} {cI cZ : ClassId} {b base n0 s0 sl own pc len nL : Nat} {xs : Nat → Int32} {bytes : ByteArray} {ret : Option FieldType} {ini hdB : Bool} {L : pmL} {st : List Value} {sh : List pmS} {h : pmH}
/-- a new cell stands where the next one is due -/
theorem pm_place {ws : va_W} {w : pmW} {q : Nat} {el : va_E} {H1 : Heap} {cl : List vw_C} (hw : ws = pm_ws cI cZ b base w) (hP1 : va_P D cl (ws ++ [(q, el)]) H1) (hD1 : va_D (fun q => base ≤ q) (ws ++ [(q, el)])) (hz : H1.size ≤ base + w.1.length + 1) : q = base + w.1.length := by
  subst hw
  have h1 : (pm_ws cI cZ b base w ++ [(q, el)])[w.1.length]? = some (q, el) := by
    rw [List.getElem?_append_right (by rw [pm_ws_len]; exact Nat.le_refl _), pm_ws_len, Nat.sub_self]
    rfl
  have hlt : q < H1.size := (hP1 _ _ h1).lt
  have hge : base ≤ q := hD1.2 _ _ h1
  rcases Nat.lt_or_ge q (base + w.1.length) with h | h
  · exfalso
    have hj : q - base < w.1.length := by omega
    have h2 : (pm_ws cI cZ b base w ++ [(q, el)])[q - base]? = some (base + (q - base), pm_e cI cZ (pm_ad b base) w.2 (q - base) w.1[q - base]) := by
      rw [List.getElem?_append_left (by rw [pm_ws_len]; exact hj)]
      exact pm_ws_get (List.getElem?_eq_getElem hj)
    have := hD1.1 _ _ _ _ h1 h2 (by dsimp only; omega)
    omega
  · omega
set_option maxHeartbeats 4000000 in
theorem pw_new {i : Nat} (hX : pm_X p s m args meth c own bytes ret ini D cI cZ b base n0 sl xs nL) (hdp : hdB = true → 1 ≤ R.frames ∧ 40 ≤ R.locals) (hd : decode bytes pc = .ok (.new i, len)) (hln : len = pm_ln (.new i) len) (hF : pm_F False (pm_T1 p l e R s m args below meth c Q D cI cZ b base n0 s0 bytes ret) (pm_K p l e R s m args below meth c Q D cI cZ b base n0 s0) (pm_C1 p l e R s m args below meth c Q D cI cZ b base n0 s0 sl xs) sl xs own ret ini hdB (.new i) pc L st sh h) : pm_K p l e R s m args below meth c Q D cI cZ b base n0 s0 pc L st (sh, h) := by
  obtain ⟨hx, hb, hml, hown, hts, hK, hXs, hbb, hsz, hini, hNw⟩ := hX
  have hl1 : len = 3 := hln
  subst hl1
  replace hF := pm_o_F hF
  obtain ⟨ci, hq, hF⟩ := hF
  obtain ⟨hci, hcl⟩ := pmw_all own _ (pm_lk_mem hq)
  dsimp only at hci hcl
  obtain ⟨hC1, hC2, hC3, hC4, hC5, hC6, hC7⟩ := pmC_all ci hci
  have hB1 := hF.1.1
  have hB2 := hF.1.2
  dsimp only at hB1 hB2
  rw [List.length_append, List.length_singleton] at hB1
  have hs1 : pm_ss (sh ++ [(2, ci, pm_f0 ci)]) = pm_ss sh + pm_N ci := by rw [pm_ss_app]; simp [pm_ss, hC7]
  rw [hs1] at hB2
  have hfs : ∀ j, j < pm_N ci → defaultValue (pm_ty ci j) = vp_V (pm_fv (pm_ad b base) (fun _ => 0) (pm_f0 ci)) j := by
    intro j hj
    unfold vp_V
    rcases (pmF_all ci hci j hj).2 with ⟨h1, h2, -⟩ | ⟨h1, -, h2⟩
    · rw [List.getD_eq_getElem?_getD, pm_fv_get h1, h2]; rfl
    · rw [List.getD_eq_getElem?_getD, pm_fv_get h1]
      rcases h2 with ⟨n, h2⟩ | ⟨t, h2⟩ <;> rw [h2] <;> rfl
  refine ⟨⟨by dsimp only; omega, by dsimp only; omega⟩, fun hLn H locs ls cells slots hP hS hL hc hs => ?_⟩
  dsimp only at hc hs
  refine va_new (c0 := c) (ci := ci) (C := pm_cn ci) (T := pm_T ci) (N := pm_N ci) (own := pm_cn own) (Ts := pm_gt) (fs := pm_fv (pm_ad b base) (fun _ => 0) (pm_f0 ci)) hx hb hts (pm_g_lay hC2) (pm_ty ci) hC3 hown (hts _ (pm_g hcl rfl)) (hts _ (pm_g hC5 rfl)) (hts _ (pm_g hC6 rfl)) hK hP (pm_D _) hS (fun q hq => by omega) hC1 hfs (by omega) (by omega) hd (fun q H1 hP1 hD1 hS1 => ?_)
  refine pm_Wsz (fun hz => ?_)
  have hqe : q = base + sh.length := pm_place (w := (sh, h)) rfl hP1 hD1 (by dsimp only; omega)
  subst hqe
  have hP2 : va_P D vwCl (pm_ws cI cZ b base (sh ++ [(2, ci, pm_f0 ci)], pm_z h sh.length)) H1 := by
    rw [pm_ws_app (h := h) (fun j hj => pm_z_ne (by omega))]
    have hE : pm_e cI cZ (pm_ad b base) (pm_z h sh.length) sh.length (2, ci, pm_f0 ci) = .inr (ci, pm_fv (pm_ad b base) (fun _ => 0) (pm_f0 ci)) := by
      simp only [pm_e, pm_z_same]
    rw [hE]
    exact hP1
  exact hF.2 hLn H1 locs ls (cells + 1) (slots + pm_N ci) hP2 hS1 hL (by dsimp only; rw [List.length_append, List.length_singleton]; omega) (by dsimp only; rw [hs1]; omega)
set_option maxHeartbeats 4000000 in
theorem pw_newarray {a : ArrayType} (hX : pm_X p s m args meth c own bytes ret ini D cI cZ b base n0 sl xs nL) (hdp : hdB = true → 1 ≤ R.frames ∧ 40 ≤ R.locals) (hd : decode bytes pc = .ok (.newarray a, len)) (hln : len = pm_ln (.newarray a) len) (hF : pm_F False (pm_T1 p l e R s m args below meth c Q D cI cZ b base n0 s0 bytes ret) (pm_K p l e R s m args below meth c Q D cI cZ b base n0 s0) (pm_C1 p l e R s m args below meth c Q D cI cZ b base n0 s0 sl xs) sl xs own ret ini hdB (.newarray a) pc L st sh h) : pm_K p l e R s m args below meth c Q D cI cZ b base n0 s0 pc L st (sh, h) := by
  obtain ⟨hx, hb, hml, hown, hts, hK, hXs, hbb, hsz, hini, hNw⟩ := hX
  have hl1 : len = 2 := hln
  subst hl1
  unfold pm_F at hF
  dsimp only at hF
  replace hF := pm_at_F hF
  rcases hF with ⟨rfl, hF⟩ | ⟨rfl, hF⟩
  · replace hF := pm_pi_F hF
    obtain ⟨n, r, rfl, hF⟩ := hF
    split at hF
    · exact hF.elim
    rename_i hn
    have hB1 := hF.1.1
    have hB2 := hF.1.2
    dsimp only at hB1 hB2
    rw [List.length_append, List.length_singleton] at hB1
    have hs1 : pm_ss (sh ++ [(0, n.toNatClampNeg, [])]) = pm_ss sh + n.toNatClampNeg := by rw [pm_ss_app]; simp [pm_ss]
    rw [hs1] at hB2
    refine ⟨⟨by dsimp only; omega, by dsimp only; omega⟩, fun hLn H locs ls cells slots hP hS hL hc hs => ?_⟩
    dsimp only at hc hs
    have hn1 : ¬ n < 0 := fun q => hn (Or.inl q)
    have hn2 : ¬ 100000 < n.toNatClampNeg := fun q => hn (Or.inr q)
    refine va_newa (atype := .int) (ty := .int) (N' := n.toNatClampNeg) (a0 := (n.toNatClampNeg, .inl (fun _ => 0))) hx hb (hts _ (pm_g pm_arr.1 rfl)) rfl hK hP (pm_D _) hS (fun q hq => by omega) (fun _ => rfl) hn1 rfl (by show n.toNatClampNeg * 4 ≤ _; omega) (by omega) (by omega) hd (fun q cA H1 hK1 hP1 hD1 hS1 => ?_)
    have hcA : cA = cI := Option.some.inj ((show s.vm.findClass _ = some cA from (hK1.2 2 (cA, .int) rfl).2).symm.trans (show s.vm.findClass _ = some cI from (hK.2 0 (cI, .int) rfl).2))
    subst hcA
    refine pm_Wsz (fun hz => ?_)
    have hqe : q = base + sh.length := pm_place (w := (sh, h)) rfl hP1 hD1 (by dsimp only; omega)
    subst hqe
    have hP2 : va_P D vwCl (pm_ws cA cZ b base (sh ++ [(0, n.toNatClampNeg, [])], pm_z h sh.length)) H1 := by
      rw [pm_ws_app (h := h) (fun j hj => pm_z_ne (by omega))]
      have hE : pm_e cA cZ (pm_ad b base) (pm_z h sh.length) sh.length (0, n.toNatClampNeg, []) = .inl (cA, n.toNatClampNeg, .inl (fun _ => 0)) := by
        simp only [pm_e, pm_z_same]
      rw [hE]
      exact hP1
    exact hF.2 hLn H1 locs ls (cells + 1) (slots + n.toNatClampNeg) hP2 hS1 hL (by dsimp only; rw [List.length_append, List.length_singleton]; omega) (by dsimp only; rw [hs1]; omega)
  · replace hF := pm_pi_F hF
    obtain ⟨n, r, rfl, hF⟩ := hF
    split at hF
    · exact hF.elim
    rename_i hn
    have hB1 := hF.1.1
    have hB2 := hF.1.2
    dsimp only at hB1 hB2
    rw [List.length_append, List.length_singleton] at hB1
    have hs1 : pm_ss (sh ++ [(1, n.toNatClampNeg, [])]) = pm_ss sh + n.toNatClampNeg := by rw [pm_ss_app]; simp [pm_ss]
    rw [hs1] at hB2
    refine ⟨⟨by dsimp only; omega, by dsimp only; omega⟩, fun hLn H locs ls cells slots hP hS hL hc hs => ?_⟩
    dsimp only at hc hs
    have hn1 : ¬ n < 0 := fun q => hn (Or.inl q)
    have hn2 : ¬ 100000 < n.toNatClampNeg := fun q => hn (Or.inr q)
    refine va_newa (atype := .boolean) (ty := .boolean) (N' := n.toNatClampNeg) (a0 := (n.toNatClampNeg, .inl (fun _ => 0))) hx hb (hts _ (pm_g pm_arr.2 rfl)) rfl hK hP (pm_D _) hS (fun q hq => by omega) (fun _ => rfl) hn1 rfl (by show n.toNatClampNeg * 1 ≤ _; omega) (by omega) (by omega) hd (fun q cA H1 hK1 hP1 hD1 hS1 => ?_)
    have hcA : cA = cZ := Option.some.inj ((show s.vm.findClass _ = some cA from (hK1.2 2 (cA, .boolean) rfl).2).symm.trans (show s.vm.findClass _ = some cZ from (hK.2 1 (cZ, .boolean) rfl).2))
    subst hcA
    refine pm_Wsz (fun hz => ?_)
    have hqe : q = base + sh.length := pm_place (w := (sh, h)) rfl hP1 hD1 (by dsimp only; omega)
    subst hqe
    have hP2 : va_P D vwCl (pm_ws cI cA b base (sh ++ [(1, n.toNatClampNeg, [])], pm_z h sh.length)) H1 := by
      rw [pm_ws_app (h := h) (fun j hj => pm_z_ne (by omega))]
      have hE : pm_e cI cA (pm_ad b base) (pm_z h sh.length) sh.length (1, n.toNatClampNeg, []) = .inl (cA, n.toNatClampNeg, .inl (fun _ => 0)) := by
        simp only [pm_e, pm_z_same]
      rw [hE]
      exact hP1
    exact hF.2 hLn H1 locs ls (cells + 1) (slots + n.toNatClampNeg) hP2 hS1 hL (by dsimp only; rw [List.length_append, List.length_singleton]; omega) (by dsimp only; rw [hs1]; omega)
theorem pm_split {st rest : List Value} {n a : Nat} (h : st.drop n = .ref a :: rest) : st = st.take n ++ .ref a :: rest ∧ n ≤ st.length := by
  refine ⟨by rw [← h, List.take_append_drop], ?_⟩
  rcases Nat.lt_or_ge st.length n with h1 | h1
  · rw [List.drop_eq_nil_of_le (by omega)] at h; cases h
  · exact h1
theorem pm_rev (ad : Nat → Nat) (l : List Value) : (l.reverse.map (pm_cv ad)).reverse = l.map (pm_cv ad) := by rw [List.map_reverse, List.reverse_reverse]
theorem pm_behind {H H1 : Heap} {locs Ls : List Loc} {u t : State} (hS : va_S (fun q => base ≤ q) s.heap H locs) (hu : u.heap = H) (ht : t.heap = H1) (hL : ∀ q ∈ Ls, base ≤ q.base) (hQ : va_F (fun q => base ≤ q) u t) : va_S (fun q => base ≤ q) s.heap H1 (locs ++ Ls) := by
  obtain ⟨h1, h2⟩ := hQ
  rw [hu, ht] at h1
  refine ⟨Nat.le_trans hS.1 h1, fun q h3 h4 => ?_, fun q hq => ?_⟩
  · have h5 := h2 q (by rw [hu]; exact Nat.lt_of_lt_of_le h3 hS.1) h4
    rw [hu, ht] at h5
    exact h5.trans (hS.2.1 q h3 h4)
  · rcases List.mem_append.mp hq with h | h
    · exact hS.2.2 q h
    · exact hL q h
theorem pm_pre {H : Heap} {locs : List Loc} {as : List Value} {w : pmW} (hNw : pm_Nst s) (hK : va_K D vwCl [(cI, .int), (cZ, .boolean)] s) (hXs : va_X b sl xs s s.heap) (hbb : b < base) (hsz : s.heap.size = base + n0) (hP : va_P D vwCl (pm_ws cI cZ b base w) H) (hS : va_S (fun q => base ≤ q) s.heap H locs) (hz : H.size = base + w.1.length) :
    ∀ U : State, U.heap = H → s.WarmedH U.vm → pm_Pc D cI cZ b base sl xs as w (as.map (pm_cv (pm_ad b base))).toArray U := by
  intro U hU hW
  refine ⟨rfl, by rw [hU]; exact hP, va_K.moved hW.alike hK, by rw [hU]; exact hz, ?_⟩
  exact ⟨va_X.moved hW.alike (hXs.kept (by rw [hU]; exact hS.2.1 b (by omega) (by omega))), fun a1 i1 x1 g1 h1 => va_Nw.warmM hW (hNw a1 i1 x1 g1 h1)⟩
theorem pm_GM {M : pmM} (hok : pm_okM M) : GoodIn pm_gt (pm_wsM M) := by
  refine pm_GI (fun w hw => ?_)
  rcases List.mem_cons.mp hw with rfl | hw
  · exact pm_g hok.2.2.2.2.1 rfl
  · exact hw
set_option maxHeartbeats 4000000 in
theorem pw_invokevirtual {i : Nat} (hX : pm_X p s m args meth c own bytes ret ini D cI cZ b base n0 sl xs nL) (hdp : hdB = true → 1 ≤ R.frames ∧ 40 ≤ R.locals) (hd : decode bytes pc = .ok (.invokevirtual i, len)) (hln : len = pm_ln (.invokevirtual i) len) (hF : pm_F False (pm_T1 p l e R s m args below meth c Q D cI cZ b base n0 s0 bytes ret) (pm_K p l e R s m args below meth c Q D cI cZ b base n0 s0) (pm_C1 p l e R s m args below meth c Q D cI cZ b base n0 s0 sl xs) sl xs own ret ini hdB (.invokevirtual i) pc L st sh h) : pm_K p l e R s m args below meth c Q D cI cZ b base n0 s0 pc L st (sh, h) := by
  obtain ⟨hx, hb, hml, hown, hts, hK, hXs, hbb, hsz, hini, hNw⟩ := hX
  have hl1 : len = 3 := hln
  subst hl1
  replace hF := pm_o_F hF
  obtain ⟨q, hq, hF⟩ := hF
  replace hF := pm_pr_F hF
  obtain ⟨a, rest, hst, hF⟩ := hF
  replace hF := pm_ob_F hF
  obtain ⟨k, fl, hak, hk, hF⟩ := hF
  replace hF := pm_b_F hF
  obtain ⟨hb8, hF⟩ := hF
  have hb8 : pm_cs rest ≤ 8 := Nat.le_of_ble_eq_true hb8
  obtain ⟨M, hM, hok, hna, hoc, hlk, him, hsel⟩ := pmv_all own _ (pm_lk_mem hq)
  dsimp only at hM hna hoc hlk
  obtain ⟨hst1, hnl⟩ := pm_split hst
  have hstk : st.map (pm_cv (pm_ad b base)) = ((st.take q.2.1).reverse.map (pm_cv (pm_ad b base))).reverse ++ .ref (pm_ad b base a) :: rest.map (pm_cv (pm_ad b base)) := by
    rw [pm_rev]
    conv => lhs; rw [hst1]
    rw [List.map_append]
    rfl
  subst hak
  have hGM := pm_GM hok
  have hok0 := hok
  obtain ⟨hpl, hmh, hpar, hmaxl, hcode, hin1, hcn, hck⟩ := hok
  obtain ⟨r, w', d, hCon, hfr, hlo, hg1, hg2, hKK⟩ := hF
  have hKB1 := hKK.1.1
  have hKB2 := hKK.1.2
  refine ⟨⟨by dsimp only at hg1 ⊢; omega, by dsimp only at hg2 ⊢; omega⟩, fun hLn H locs ls cells slots hP hS hL hc hs => ?_⟩
  dsimp only at hc hs hg1 hg2
  refine pm_Wsz (fun hz => ?_)
  have hzz : H.size = base + sh.length := Nat.le_antisymm (by omega) (pm_size hP (Nat.le_trans (by omega) hS.1))
  have hR1 : d + 1 ≤ R.frames ∧ 8 + (M.2.2.1 + 11) + 40 * d ≤ R.locals := ⟨hfr, by omega⟩
  have hR2 : cells + (w'.1.length - sh.length) ≤ R.cells ∧ slots + (pm_ss w'.1 - pm_ss sh) ≤ R.slots := ⟨by omega, by omega⟩
  have hLs0 : ls.size = nL := hL.1.trans (hLn.trans hml)
  have hroom : 2 * (F0 m pc ls (st.map (pm_cv (pm_ad b base)))).monitorRoom + ((rest.map (pm_cv (pm_ad b base))).map fun v => v.category).sum ≤ 8 := lv_room (by rw [pm_cv_map]; exact hb8)
  have hlen : ((st.take q.2.1).reverse.map (pm_cv (pm_ad b base))).length = q.2.1 := by rw [List.length_map, List.length_reverse, List.length_take]; omega
  have hrecv : ∃ cellB : Cell, H[base + k]? = some cellB ∧ cellB.vm.isStatics = false ∧ s.vm.findClass M.1.cls = some cellB.cls := by
    have hlt : q.2.2.2 < 9 := by
      rcases Nat.lt_or_ge q.2.2.2 9 with h9 | h9
      · exact h9
      · exfalso
        have hz9 := hP k _ (pm_ws_o hk)
        obtain ⟨r9, h91, -⟩ := hz9
        have : q.2.2.2 < vwCl.length := (List.getElem?_eq_some_iff.mp h91).1
        have h92 : vwCl.length = 9 := rfl
        omega
    have := va_recv hK hP (pmC_all q.2.2.2 hlt).1 (pm_ws_o hk)
    rw [← hcn, hoc]
    exact this
  have hGV : GoodIn pm_gt (wsV (pm_cn own) i M.1.cls M.1 (pm_wsM M)) := by
    refine pm_GI (fun w hw => ?_)
    unfold wsV at hw
    rcases List.mem_append.mp hw with hw | hw
    · simp only [List.mem_cons, List.not_mem_nil, or_false] at hw
      rcases hw with rfl | rfl | rfl | rfl
      · exact pm_g hlk rfl
      · exact pm_g him rfl
      · exact pm_g hsel rfl
      · exact pm_g hin1 rfl
    · exact (hGM w hw).1
  refine pm_callW (va_runV (Ts := pm_gt) (own := pm_cn own) (g := F0 m pc ls (st.map (pm_cv (pm_ad b base)))) (As := (st.take q.2.1).reverse.map (pm_cv (pm_ad b base))) (rest := rest.map (pm_cv (pm_ad b base))) (n := q.2.1) (bytes := M.2.1) (maxL := M.2.2.1) (C := M.1.cls) (b := base + k) (ret := M.2.2.2.1) ⟨hx, hb, hml, hown, hts⟩ (hCon M hM hok0) (cwV q.2.1 hts hGV rfl rfl rfl ⟨rfl, hmh.1, hmh.2, by rw [hpar, hna]⟩ hR1) ⟨pm_blind, hrecv, pm_pre hNw hK hXs hbb hsz hP hS hzz⟩ rfl hlen hLs0 hstk hroom hd hR2) (fun v u t H1 Ls hu ht hLs hQ => ?_)
  obtain ⟨hv, hPw, hFr⟩ := hQ
  injection hv with hv
  subst hv
  rw [ht] at hPw
  have hS2 := pm_behind (s := s) hS hu ht hLs hFr
  have hst2 : ((r.map (pm_cv (pm_ad b base))).toList ++ rest.map (pm_cv (pm_ad b base))) = (r.toList ++ rest).map (pm_cv (pm_ad b base)) := by cases r <;> rw [List.map_append] <;> rfl
  rw [hst2]
  exact hKK.2 hLn H1 (locs ++ Ls) ls _ _ hPw hS2 hL (by dsimp only; omega) (by dsimp only; omega)
set_option maxHeartbeats 4000000 in
theorem pw_invokespecial {i : Nat} (hX : pm_X p s m args meth c own bytes ret ini D cI cZ b base n0 sl xs nL) (hdp : hdB = true → 1 ≤ R.frames ∧ 40 ≤ R.locals) (hd : decode bytes pc = .ok (.invokespecial i, len)) (hln : len = pm_ln (.invokespecial i) len) (hF : pm_F False (pm_T1 p l e R s m args below meth c Q D cI cZ b base n0 s0 bytes ret) (pm_K p l e R s m args below meth c Q D cI cZ b base n0 s0) (pm_C1 p l e R s m args below meth c Q D cI cZ b base n0 s0 sl xs) sl xs own ret ini hdB (.invokespecial i) pc L st sh h) : pm_K p l e R s m args below meth c Q D cI cZ b base n0 s0 pc L st (sh, h) := by
  obtain ⟨hx, hb, hml, hown, hts, hK, hXs, hbb, hsz, hini, hNw⟩ := hX
  have hl1 : len = 3 := hln
  subst hl1
  unfold pm_F at hF
  dsimp only at hF
  split at hF
  · next hoi =>
    replace hF := pm_pr_F hF
    obtain ⟨a, r, rfl, hF⟩ := hF
    replace hF := pm_b_F hF
    obtain ⟨hb1, hF⟩ := hF
    rw [Bool.and_eq_true] at hb1
    have hb8 : pm_cs r ≤ 8 := Nat.le_of_ble_eq_true hb1.2
    have hw := pmo_all own i (List.contains_iff_mem.mp hoi)
    obtain ⟨hf1, hf2⟩ := hdp hb1.1
    refine ⟨hF.1, fun hLn H locs ls cells slots hP hS hL hc hs => W.objInit (g := F0 m pc ls _) hx hb hown (hts _ (pm_g hw rfl)) (hts _ (pm_g pm_obj.1 rfl)) (hts _ (pm_g pm_obj.2 rfl)) rfl (hL.1.trans hLn) rfl hd hf1 ?_ (hF.2 hLn H locs ls cells slots hP hS hL hc hs)⟩
    have := pm_cv_map (pm_ad b base) r
    show 2 * 0 + ((r.map (pm_cv (pm_ad b base))).map fun v => v.category).sum + 12 ≤ R.locals
    omega
  · replace hF := pm_o_F hF
    obtain ⟨q, hq, hF⟩ := hF
    replace hF := pm_pr_F hF
    obtain ⟨a, rest, hst, hF⟩ := hF
    replace hF := pm_b_F hF
    obtain ⟨hb8, hF⟩ := hF
    have hb8 : pm_cs rest ≤ 8 := Nat.le_of_ble_eq_true hb8
    obtain ⟨M, hM, hok, hna, hlk, him, hin0, hrn⟩ := pmi_all own _ (pm_lk_mem hq)
    dsimp only at hM hna hlk
    obtain ⟨hst1, hnl⟩ := pm_split hst
    have hstk : st.map (pm_cv (pm_ad b base)) = ((st.take q.2.1).reverse.map (pm_cv (pm_ad b base))).reverse ++ .ref (pm_ad b base a) :: rest.map (pm_cv (pm_ad b base)) := by
      rw [pm_rev]
      conv => lhs; rw [hst1]
      rw [List.map_append]
      rfl
    have hGM := pm_GM hok
    have hok0 := hok
    obtain ⟨hpl, hmh, hpar, hmaxl, hcode, hin1, hcn, hck⟩ := hok
    obtain ⟨r, w', d, hCon, hfr, hlo, hg1, hg2, hKK⟩ := hF
    have hKB1 := hKK.1.1
    have hKB2 := hKK.1.2
    refine ⟨⟨by dsimp only at hg1 ⊢; omega, by dsimp only at hg2 ⊢; omega⟩, fun hLn H locs ls cells slots hP hS hL hc hs => ?_⟩
    dsimp only at hc hs hg1 hg2
    refine pm_Wsz (fun hz => ?_)
    have hzz : H.size = base + sh.length := Nat.le_antisymm (by omega) (pm_size hP (Nat.le_trans (by omega) hS.1))
    have hR1 : d + 1 ≤ R.frames ∧ 8 + (M.2.2.1 + 11) + 40 * d ≤ R.locals := ⟨hfr, by omega⟩
    have hR2 : cells + (w'.1.length - sh.length) ≤ R.cells ∧ slots + (pm_ss w'.1 - pm_ss sh) ≤ R.slots := ⟨by omega, by omega⟩
    have hLs0 : ls.size = nL := hL.1.trans (hLn.trans hml)
    have hroom : 2 * (F0 m pc ls (st.map (pm_cv (pm_ad b base)))).monitorRoom + ((rest.map (pm_cv (pm_ad b base))).map fun v => v.category).sum ≤ 8 := lv_room (by rw [pm_cv_map]; exact hb8)
    have hlen : ((st.take q.2.1).reverse.map (pm_cv (pm_ad b base))).length = q.2.1 := by rw [List.length_map, List.length_reverse, List.length_take]; omega
    refine pm_callW (va_runI (Ts := pm_gt) (own := pm_cn own) (g := F0 m pc ls (st.map (pm_cv (pm_ad b base)))) (As := (st.take q.2.1).reverse.map (pm_cv (pm_ad b base))) (rest := rest.map (pm_cv (pm_ad b base))) (n := q.2.1) (bytes := M.2.1) (maxL := M.2.2.1) (b := pm_ad b base a) ⟨hx, hb, hml, hown, hts⟩ (hCon M hM hok0) (cwI q.2.1 hts hGM (by unfold pm_wsM; rw [hrn]) rfl rfl (hts _ (pm_g hin1 rfl)) (hts _ (pm_g hlk rfl)) (hts _ (pm_g him rfl)) hin0 ⟨hmh.1, hmh.2, by rw [hpar, hna]⟩ hR1) ⟨pm_blind, pm_pre hNw hK hXs hbb hsz hP hS hzz⟩ rfl hlen hLs0 hstk hroom hd hR2) (fun v u t H1 Ls hu ht hLs hQ => ?_)
    obtain ⟨hv, hPw, hFr⟩ := hQ
    injection hv with hv
    subst hv
    rw [ht] at hPw
    have hS2 := pm_behind (s := s) hS hu ht hLs hFr
    have hst2 : ((r.map (pm_cv (pm_ad b base))).toList ++ rest.map (pm_cv (pm_ad b base))) = (r.toList ++ rest).map (pm_cv (pm_ad b base)) := by cases r <;> rw [List.map_append] <;> rfl
    rw [hst2]
    exact hKK.2 hLn H1 (locs ++ Ls) ls _ _ hPw hS2 hL (by dsimp only; omega) (by dsimp only; omega)
set_option maxHeartbeats 4000000 in
theorem pw_invokestatic {i : Nat} (hX : pm_X p s m args meth c own bytes ret ini D cI cZ b base n0 sl xs nL) (hdp : hdB = true → 1 ≤ R.frames ∧ 40 ≤ R.locals) (hd : decode bytes pc = .ok (.invokestatic i, len)) (hln : len = pm_ln (.invokestatic i) len) (hF : pm_F False (pm_T1 p l e R s m args below meth c Q D cI cZ b base n0 s0 bytes ret) (pm_K p l e R s m args below meth c Q D cI cZ b base n0 s0) (pm_C1 p l e R s m args below meth c Q D cI cZ b base n0 s0 sl xs) sl xs own ret ini hdB (.invokestatic i) pc L st sh h) : pm_K p l e R s m args below meth c Q D cI cZ b base n0 s0 pc L st (sh, h) := by
  obtain ⟨hx, hb, hml, hown, hts, hK, hXs, hbb, hsz, hini, hNw⟩ := hX
  have hl1 : len = 3 := hln
  subst hl1
  unfold pm_F at hF
  dsimp only at hF
  split at hF
  · next hmx =>
    have hw : Cond.methodLink (pm_cn own) i Lib.Math.max.name ∈ lw_tbl := by
      rcases pmx_all own _ (pm_lk_mem hmx) with ⟨-, h9⟩ | ⟨h9, -⟩
      · exact h9
      · cases h9
    replace hF := pm_pi_F hF
    obtain ⟨y, r, rfl, hF⟩ := hF
    replace hF := pm_pi_F hF
    obtain ⟨x, r, rfl, hF⟩ := hF
    replace hF := pm_b_F hF
    obtain ⟨hb1, hF⟩ := hF
    rw [Bool.and_eq_true] at hb1
    have hb8 : pm_cs r ≤ 8 := Nat.le_of_ble_eq_true hb1.2
    obtain ⟨hf1, hf2⟩ := hdp hb1.1
    have hcat := pm_cv_map (pm_ad b base) r
    have hB1 := hF.1.1
    have hB2 := hF.1.2
    refine ⟨hF.1, fun hLn H locs ls cells slots hP hS hL hc hs => va_mmax hx hb (hLn.symm.trans hL.1.symm) hown (hts _ (pm_g hw rfl)) (hts _ (pm_g pm_max_ok.1 rfl)) (hts _ (pm_g pm_max_ok.2.1 rfl)) (hts _ (pm_g pm_max_ok.2.2 rfl)) hf1 (by omega) (by omega) (by omega) hd (hF.2 hLn H locs ls cells slots hP hS hL hc hs)⟩
  · next e9 hmx0 hmx =>
    have hw : Cond.methodLink (pm_cn own) i Lib.Math.min.name ∈ lw_tbl := by
      rcases pmx_all own _ (pm_lk_mem hmx) with ⟨h9, -⟩ | ⟨-, h9⟩
      · exact absurd h9 (fun z => hmx0 z)
      · exact h9
    replace hF := pm_pi_F hF
    obtain ⟨y, r, rfl, hF⟩ := hF
    replace hF := pm_pi_F hF
    obtain ⟨x, r, rfl, hF⟩ := hF
    replace hF := pm_b_F hF
    obtain ⟨hb1, hF⟩ := hF
    rw [Bool.and_eq_true] at hb1
    have hb8 : pm_cs r ≤ 8 := Nat.le_of_ble_eq_true hb1.2
    obtain ⟨hf1, hf2⟩ := hdp hb1.1
    have hcat := pm_cv_map (pm_ad b base) r
    have hB1 := hF.1.1
    have hB2 := hF.1.2
    refine ⟨hF.1, fun hLn H locs ls cells slots hP hS hL hc hs => va_mmin hx hb (hLn.symm.trans hL.1.symm) hown (hts _ (pm_g hw rfl)) (hts _ (pm_g pm_min_ok.1 rfl)) (hts _ (pm_g pm_min_ok.2.1 rfl)) (hts _ (pm_g pm_min_ok.2.2 rfl)) hf1 (by omega) (by omega) (by omega) hd (hF.2 hLn H locs ls cells slots hP hS hL hc hs)⟩
  · replace hF := pm_o_F hF
    obtain ⟨q, hq, hF⟩ := hF
    replace hF := pm_b_F hF
    obtain ⟨hb1, hF⟩ := hF
    rw [Bool.and_eq_true] at hb1
    have hnl : q.2.1 ≤ st.length := Nat.le_of_ble_eq_true hb1.1
    have hb8 : pm_cs (st.drop q.2.1) ≤ 8 := Nat.le_of_ble_eq_true hb1.2
    have hS9 : pm_okS own (i, q) := by
      rcases List.mem_append.mp (pm_lk_mem hq) with h9 | h9
      · exact pms_all own _ h9
      · exact pmn_all own _ h9
    obtain ⟨M, hM, hok, hna, hlk, hstt⟩ := hS9
    dsimp only at hM hna hlk
    have hstk : st.map (pm_cv (pm_ad b base)) = ((st.take q.2.1).reverse.map (pm_cv (pm_ad b base))).reverse ++ (st.drop q.2.1).map (pm_cv (pm_ad b base)) := by
      rw [pm_rev, ← List.map_append, List.take_append_drop]
    have hGM := pm_GM hok
    have hok0 := hok
    obtain ⟨hpl, hmh, hpar, hmaxl, hcode, hin1, hcn, hck⟩ := hok
    obtain ⟨r, w', d, hCon, hfr, hlo, hg1, hg2, hKK⟩ := hF
    have hKB1 := hKK.1.1
    have hKB2 := hKK.1.2
    refine ⟨⟨by dsimp only at hg1 ⊢; omega, by dsimp only at hg2 ⊢; omega⟩, fun hLn H locs ls cells slots hP hS hL hc hs => ?_⟩
    dsimp only at hc hs hg1 hg2
    refine pm_Wsz (fun hz => ?_)
    have hzz : H.size = base + sh.length := Nat.le_antisymm (by omega) (pm_size hP (Nat.le_trans (by omega) hS.1))
    have hR1 : d + 1 ≤ R.frames ∧ 8 + (M.2.2.1 + 11) + 40 * d ≤ R.locals := ⟨hfr, by omega⟩
    have hR2 : cells + (w'.1.length - sh.length) ≤ R.cells ∧ slots + (pm_ss w'.1 - pm_ss sh) ≤ R.slots := ⟨by omega, by omega⟩
    have hLs0 : ls.size = nL := hL.1.trans (hLn.trans hml)
    have hroom : 2 * (F0 m pc ls (st.map (pm_cv (pm_ad b base)))).monitorRoom + (((st.drop q.2.1).map (pm_cv (pm_ad b base))).map fun v => v.category).sum ≤ 8 := lv_room (by rw [pm_cv_map]; exact hb8)
    have hlen : ((st.take q.2.1).reverse.map (pm_cv (pm_ad b base))).length = q.2.1 := by rw [List.length_map, List.length_reverse, List.length_take]; omega
    rcases hlk with hlk | ⟨host, hlk⟩
    · refine pm_callW (va_runS (Ts := pm_gt) (own := pm_cn own) (g := F0 m pc ls (st.map (pm_cv (pm_ad b base)))) (As := (st.take q.2.1).reverse.map (pm_cv (pm_ad b base))) (rest := (st.drop q.2.1).map (pm_cv (pm_ad b base))) (n := q.2.1) (bytes := M.2.1) (maxL := M.2.2.1) (ret := M.2.2.2.1) ⟨hx, hb, hml, hown, hts⟩ (hCon M hM hok0) ⟨callB_of q.2.1 hts hGM rfl rfl rfl (hts _ (pm_g hin1 rfl)) (hts _ (pm_g hlk rfl)) ⟨hmh.1, hmh.2, by rw [hpar, hna]⟩ hR1, hts _ (pm_g hstt rfl)⟩ ⟨pm_blind, pm_pre hNw hK hXs hbb hsz hP hS hzz⟩ rfl hlen hLs0 hstk hroom hd hR2) (fun v u t H1 Ls hu ht hLs hQ => ?_)
      obtain ⟨hv, hPw, hFr⟩ := hQ
      injection hv with hv
      subst hv
      rw [ht] at hPw
      have hS2 := pm_behind (s := s) hS hu ht hLs hFr
      have hst2 : ((r.map (pm_cv (pm_ad b base))).toList ++ (st.drop q.2.1).map (pm_cv (pm_ad b base))) = (r.toList ++ (st.drop q.2.1)).map (pm_cv (pm_ad b base)) := by cases r <;> rw [List.map_append] <;> rfl
      rw [hst2]
      exact hKK.2 hLn H1 (locs ++ Ls) ls _ _ hPw hS2 hL (by dsimp only; omega) (by dsimp only; omega)
    · refine pm_callW (va_runSN (Ts := pm_gt) (own := pm_cn own) (g := F0 m pc ls (st.map (pm_cv (pm_ad b base)))) (As := (st.take q.2.1).reverse.map (pm_cv (pm_ad b base))) (rest := (st.drop q.2.1).map (pm_cv (pm_ad b base))) (n := q.2.1) (bytes := M.2.1) (maxL := M.2.2.1) (ret := M.2.2.2.1) (host := host) ⟨hx, hb, hml, hown, hts⟩ (hCon M hM hok0) ⟨va_cnB q.2.1 hts hGM rfl rfl rfl (hNw _ _ _ _ hlk) (hts _ (pm_g hin1 rfl)) ⟨hmh.1, hmh.2, by rw [hpar, hna]⟩ hR1, hts _ (pm_g hstt rfl), trivial⟩ ⟨pm_blind, pm_pre hNw hK hXs hbb hsz hP hS hzz⟩ rfl hlen hLs0 hstk hroom hd hR2) (fun v u t H1 Ls hu ht hLs hQ => ?_)
      obtain ⟨hv, hPw, hFr⟩ := hQ
      injection hv with hv
      subst hv
      rw [ht] at hPw
      have hS2 := pm_behind (s := s) hS hu ht hLs hFr
      have hst2 : ((r.map (pm_cv (pm_ad b base))).toList ++ (st.drop q.2.1).map (pm_cv (pm_ad b base))) = (r.toList ++ (st.drop q.2.1)).map (pm_cv (pm_ad b base)) := by cases r <;> rw [List.map_append] <;> rfl
      rw [hst2]
      exact hKK.2 hLn H1 (locs ++ Ls) ls _ _ hPw hS2 hL (by dsimp only; omega) (by dsimp only; omega)
end PMP9
end
section
/-! all steps in one; the step as data; runs -/
section PMA
variable {p : Program} {l : Launch} {e : Env} {R : Room} {s : State} {m : MethodId} {args : Array Value} {below : List Frame} {meth : Method} {c : Code} {Q : State → Prop}
variable {D : va_G} {cI cZ : ClassId} {b base n0 s0 sl own pc len nL : Nat} {xs : Nat → Int32} {bytes : ByteArray} {ret : Option FieldType} {ini hdB : Bool} {L : pmL} {st : List Value} {sh : List pmS} {h : pmH}
set_option maxHeartbeats 4000000 in
theorem pm_wp {op : Instr} (hX : pm_X p s m args meth c own bytes ret ini D cI cZ b base n0 sl xs nL) (hdp : hdB = true → 1 ≤ R.frames ∧ 40 ≤ R.locals) (hd : decode bytes pc = .ok (op, len)) (hln : len = pm_ln op len) (hF : pm_F False (pm_T1 p l e R s m args below meth c Q D cI cZ b base n0 s0 bytes ret) (pm_K p l e R s m args below meth c Q D cI cZ b base n0 s0) (pm_C1 p l e R s m args below meth c Q D cI cZ b base n0 s0 sl xs) sl xs own ret ini hdB op pc L st sh h) : pm_K p l e R s m args below meth c Q D cI cZ b base n0 s0 pc L st (sh, h) := by
  cases op with
  | iconst => exact pw_iconst hX hdp hd hln hF
  | bipush => exact pw_bipush hX hdp hd hln hF
  | sipush => exact pw_sipush hX hdp hd hln hF
  | ldc => exact pw_ldc hX hdp hd hln hF
  | ldc_w => exact pw_ldc_w hX hdp hd hln hF
  | iload => exact pw_iload hX hdp hd hln hF
  | lload => exact pw_lload hX hdp hd hln hF
  | iload_n => exact pw_iload_n hX hdp hd hln hF
  | aload_n => exact pw_aload_n hX hdp hd hln hF
  | istore => exact pw_istore hX hdp hd hln hF
  | istore_n => exact pw_istore_n hX hdp hd hln hF
  | astore_n => exact pw_astore_n hX hdp hd hln hF
  | lstore => exact pw_lstore hX hdp hd hln hF
  | iinc => exact pw_iinc hX hdp hd hln hF
  | iadd => exact pw_iadd hX hdp hd hln hF
  | isub => exact pw_isub hX hdp hd hln hF
  | imul => exact pw_imul hX hdp hd hln hF
  | ishl => exact pw_ishl hX hdp hd hln hF
  | ishr => exact pw_ishr hX hdp hd hln hF
  | iand => exact pw_iand hX hdp hd hln hF
  | ior => exact pw_ior hX hdp hd hln hF
  | idiv => exact pw_idiv hX hdp hd hln hF
  | irem => exact pw_irem hX hdp hd hln hF
  | ldiv => exact pw_ldiv hX hdp hd hln hF
  | lrem => exact pw_lrem hX hdp hd hln hF
  | i2l => exact pw_i2l hX hdp hd hln hF
  | l2i => exact pw_l2i hX hdp hd hln hF
  | lmul => exact pw_lmul hX hdp hd hln hF
  | lcmp => exact pw_lcmp hX hdp hd hln hF
  | dup => exact pw_dup hX hdp hd hln hF
  | dup2 => exact pw_dup2 hX hdp hd hln hF
  | pop => exact pw_pop hX hdp hd hln hF
  | goto => exact pw_goto hX hdp hd hln hF
  | ifCond => exact pw_ifCond hX hdp hd hln hF
  | if_icmp => exact pw_if_icmp hX hdp hd hln hF
  | tableswitch => exact pw_tableswitch hX hdp hd hln hF
  | getfield => exact pw_getfield hX hdp hd hln hF
  | putfield => exact pw_putfield hX hdp hd hln hF
  | iaload => exact pw_iaload hX hdp hd hln hF
  | baload => exact pw_baload hX hdp hd hln hF
  | iastore => exact pw_iastore hX hdp hd hln hF
  | bastore => exact pw_bastore hX hdp hd hln hF
  | arraylength => exact pw_arraylength hX hdp hd hln hF
  | new => exact pw_new hX hdp hd hln hF
  | newarray => exact pw_newarray hX hdp hd hln hF
  | invokevirtual => exact pw_invokevirtual hX hdp hd hln hF
  | invokestatic => exact pw_invokestatic hX hdp hd hln hF
  | invokespecial => exact pw_invokespecial hX hdp hd hln hF
  | ireturn => exact pw_ireturn hX hdp hd hln hF
  | return_ => exact pw_return hX hdp hd hln hF
  | _ => exact (show False from hF).elim
end PMA
section PMN
variable {ρ σ : Type} (g : ρ → σ)
theorem n_pi (z : ρ) (st : List Value) (f : Int32 → List Value → ρ) : g (pm_pi z st f) = pm_pi (g z) st (fun x r => g (f x r)) := by unfold pm_pi; split <;> rfl
theorem n_pl (z : ρ) (st : List Value) (f : Int64 → List Value → ρ) : g (pm_pl z st f) = pm_pl (g z) st (fun x r => g (f x r)) := by unfold pm_pl; split <;> rfl
theorem n_pr (z : ρ) (st : List Value) (f : Nat → List Value → ρ) : g (pm_pr z st f) = pm_pr (g z) st (fun x r => g (f x r)) := by unfold pm_pr; split <;> rfl
theorem n_p1 (z : ρ) (st : List Value) (f : Value → List Value → ρ) : g (pm_p1 z st f) = pm_p1 (g z) st (fun x r => g (f x r)) := by
  unfold pm_p1; split
  · split <;> rfl
  · rfl
theorem n_vi (z : ρ) (v : Value) (f : Int32 → ρ) : g (pm_vi z v f) = pm_vi (g z) v (fun x => g (f x)) := by unfold pm_vi; split <;> rfl
theorem n_vl (z : ρ) (v : Value) (f : Int64 → ρ) : g (pm_vl z v f) = pm_vl (g z) v (fun x => g (f x)) := by unfold pm_vl; split <;> rfl
theorem n_vr (z : ρ) (v : Value) (f : Nat → ρ) : g (pm_vr z v f) = pm_vr (g z) v (fun x => g (f x)) := by unfold pm_vr; split <;> rfl
theorem n_ld (z : ρ) (L : pmL) (i : Nat) (f : Value → ρ) : g (pm_ld z L i f) = pm_ld (g z) L i (fun x => g (f x)) := by unfold pm_ld; split <;> rfl
theorem n_s1 (z : ρ) (L : pmL) (i : Nat) (v : Value) (f : pmL → ρ) : g (pm_s1 z L i v f) = pm_s1 (g z) L i v (fun x => g (f x)) := by unfold pm_s1; split <;> rfl
theorem n_s2 (z : ρ) (L : pmL) (i : Nat) (v : Value) (f : pmL → ρ) : g (pm_s2 z L i v f) = pm_s2 (g z) L i v (fun x => g (f x)) := by unfold pm_s2; split <;> rfl
theorem n_j (z : ρ) (pc : Nat) (off : Int) (f : Nat → ρ) : g (pm_j z pc off f) = pm_j (g z) pc off (fun x => g (f x)) := by unfold pm_j; split <;> rfl
theorem n_c1 (c : ClassFile.Cond) (x : Int32) (a b : ρ) : g (pm_c1 c x a b) = pm_c1 c x (g a) (g b) := by cases c <;> unfold pm_c1 <;> dsimp only <;> split <;> rfl
theorem n_c2 (c : ClassFile.Cond) (x y : Int32) (a b : ρ) : g (pm_c2 c x y a b) = pm_c2 c x y (g a) (g b) := by cases c <;> unfold pm_c2 <;> dsimp only <;> split <;> rfl
theorem n_sw (z : ρ) (pc : Nat) (x : Int32) (f : Nat → ρ) (d : Int) : ∀ (l : List Int) (i : Nat), g (pm_sw z pc x f d i l) = pm_sw (g z) pc x (fun t => g (f t)) d i l
  | [], i => n_j g z pc d f
  | o :: t, i => by
    unfold pm_sw
    split
    · exact n_j g z pc o f
    · exact n_sw z pc x f d t (i + 1)
theorem n_ar (z : ρ) (sh : List pmS) (t a : Nat) (f : Nat → Nat → ρ) : g (pm_ar z sh t a f) = pm_ar (g z) sh t a (fun x y => g (f x y)) := by
  unfold pm_ar; split
  · rfl
  · split
    · split <;> rfl
    · rfl
theorem n_ob (z : ρ) (sh : List pmS) (t a : Nat) (f : Nat → List (Option (Option Nat)) → ρ) : g (pm_ob z sh t a f) = pm_ob (g z) sh t a (fun x y => g (f x y)) := by
  unfold pm_ob; split
  · rfl
  · split
    · split <;> rfl
    · rfl
theorem n_ix (z : ρ) (i : Int32) (n : Nat) (f : Nat → ρ) : g (pm_ix z i n f) = pm_ix (g z) i n (fun x => g (f x)) := by unfold pm_ix; split <;> rfl
theorem n_o {α : Type} (z : ρ) (o : Option α) (f : α → ρ) : g (pm_o z o f) = pm_o (g z) o (fun x => g (f x)) := by unfold pm_o; split <;> rfl
theorem n_b (z : ρ) (b : Bool) (f : ρ) : g (pm_b z b f) = pm_b (g z) b (g f) := by unfold pm_b; split <;> rfl
theorem n_gf (z : ρ) (o : Option (Option (Option Nat))) (fi : ρ) (fr : Nat → ρ) : g (pm_gf z o fi fr) = pm_gf (g z) o (g fi) (fun x => g (fr x)) := by unfold pm_gf; split <;> rfl
theorem n_gr (z : ρ) (o : Option (Option (Option Nat))) (fr : ρ) : g (pm_gr z o fr) = pm_gr (g z) o (g fr) := by unfold pm_gr; split <;> rfl
theorem n_rt (z : ρ) (ret : Option FieldType) (x : Int32) (f : ρ) : g (pm_rt z ret x f) = pm_rt (g z) ret x (g f) := by
  unfold pm_rt; split
  · rfl
  · split <;> rfl
  · rfl
theorem n_at (z : ρ) (a : ArrayType) (f : Nat → ρ) : g (pm_at z a f) = pm_at (g z) a (fun x => g (f x)) := by unfold pm_at; split <;> rfl
set_option maxHeartbeats 4000000 in
theorem pm_nat (z : ρ) (rt : Option Value → pmW → ρ) (k : Nat → pmL → List Value → pmW → ρ) (cl : Nat → Nat → List Value → pmW → Nat → pmL → List Value → ρ) (sl : Nat) (xs : Nat → Int32) (own : Nat) (ret : Option FieldType) (ini hd : Bool) (op : Instr) (pc : Nat) (L : pmL) (st : List Value) (sh : List pmS) (h : pmH) :
    g (pm_F z rt k cl sl xs own ret ini hd op pc L st sh h) = pm_F (g z) (fun r w => g (rt r w)) (fun a b c d => g (k a b c d)) (fun a b c d e f i => g (cl a b c d e f i)) sl xs own ret ini hd op pc L st sh h := by
  cases op with
  | putfield i =>
    simp only [pm_F, n_o g, n_p1 g, n_pr g, n_ob g]
    congr 1; funext q; congr 1; funext v r; congr 1; funext a r; congr 1; funext c fl
    cases v <;> simp only [n_gf g, n_gr g, n_b g]
  | iaload =>
    simp only [pm_F, n_pi g, n_pr g]
    congr 1; funext i r; congr 1; funext a r
    cases a <;> simp only [n_ix g, n_ar g]
  | arraylength =>
    simp only [pm_F, n_pr g]
    congr 1; funext a r
    cases a <;> simp only [n_ar g]
  | ireturn =>
    simp only [pm_F, n_pi g]
    congr 1; funext x r
    cases r <;> simp only [n_rt g]
  | return_ =>
    unfold pm_F; dsimp only
    cases st with
    | nil => cases ret <;> rfl
    | cons _ _ => rfl
  | invokestatic i =>
    unfold pm_F; dsimp only
    split <;> simp only [n_pi g, n_b g, n_o g]
  | invokespecial i =>
    unfold pm_F; dsimp only
    split <;> simp only [n_pr g, n_b g, n_o g]
  | ifCond c off => simp only [pm_F, n_pi g, n_j g, n_c1 g]
  | if_icmp c off => simp only [pm_F, n_pi g, n_j g, n_c2 g]
  | newarray a =>
    simp only [pm_F, n_at g, n_pi g]
    congr 1; funext t; congr 1; funext n r
    split <;> rfl
  | bastore =>
    simp only [pm_F, n_pi g, n_pr g, n_ar g, n_ix g]
    congr 1; funext x r; congr 1; funext i r; congr 1; funext a r; congr 1; funext c n; congr 1; funext j
    split <;> rfl
  | idiv =>
    simp only [pm_F, n_pi g]
    congr 1; funext y r; congr 1; funext x r
    split <;> rfl
  | irem =>
    simp only [pm_F, n_pi g]
    congr 1; funext y r; congr 1; funext x r
    split <;> rfl
  | ldiv =>
    simp only [pm_F, n_pl g]
    congr 1; funext y r; congr 1; funext x r
    split <;> rfl
  | lrem =>
    simp only [pm_F, n_pl g]
    congr 1; funext y r; congr 1; funext x r
    split <;> rfl
  | _ => first | rfl | simp only [pm_F, n_pi g, n_pl g, n_pr g, n_p1 g, n_vi g, n_vl g, n_vr g, n_ld g, n_s1 g, n_s2 g, n_j g, n_sw g, n_ar g, n_ob g, n_ix g, n_o g, n_b g, n_gf g]
end PMN
/-- a step as data: stuck, an answer, the next state, a call -/
abbrev pmD : Type := Option (pmR ⊕ ((Nat × pmL × List Value × pmW) ⊕ (Nat × Nat × List Value × pmW × Nat × pmL × List Value)))
def pm_in {ρ : Type} (z : ρ) (rt : Option Value → pmW → ρ) (k : Nat → pmL → List Value → pmW → ρ) (cl : Nat → Nat → List Value → pmW → Nat → pmL → List Value → ρ) (x : pmD) : ρ := match x with
  | none => z
  | some (.inl r) => rt r.1 r.2
  | some (.inr (.inl q)) => k q.1 q.2.1 q.2.2.1 q.2.2.2
  | some (.inr (.inr q)) => cl q.1 q.2.1 q.2.2.1 q.2.2.2.1 q.2.2.2.2.1 q.2.2.2.2.2.1 q.2.2.2.2.2.2
def pm_D0 (sl : Nat) (xs : Nat → Int32) (own : Nat) (ret : Option FieldType) (ini hd : Bool) (op : Instr) (pc : Nat) (L : pmL) (st : List Value) (sh : List pmS) (h : pmH) : pmD :=
  pm_F (ρ := pmD) none (fun r w => some (.inl (r, w))) (fun a b c d => some (.inr (.inl (a, b, c, d)))) (fun a b c d e f i => some (.inr (.inr (a, b, c, d, e, f, i)))) sl xs own ret ini hd op pc L st sh h
theorem pm_F_D {ρ : Type} (z : ρ) (rt : Option Value → pmW → ρ) (k : Nat → pmL → List Value → pmW → ρ) (cl : Nat → Nat → List Value → pmW → Nat → pmL → List Value → ρ) (sl : Nat) (xs : Nat → Int32) (own : Nat) (ret : Option FieldType) (ini hd : Bool) (op : Instr) (pc : Nat) (L : pmL) (st : List Value) (sh : List pmS) (h : pmH) :
    pm_F z rt k cl sl xs own ret ini hd op pc L st sh h = pm_in z rt k cl (pm_D0 sl xs own ret ini hd op pc L st sh h) :=
  (pm_nat (pm_in z rt k cl) none (fun r w => some (.inl (r, w))) (fun a b c d => some (.inr (.inl (a, b, c, d)))) (fun a b c d e f i => some (.inr (.inr (a, b, c, d, e, f, i)))) sl xs own ret ini hd op pc L st sh h).symm
end
section
/-! runs of the small machine, and that the machine does them -/
def pm_ri (o : Option pmR) (sh : List pmS) (f : Int32 → pmH → Option pmR) : Option pmR := match o with
  | some (some (.int x), w) => if w.1 = sh then f x w.2 else none
  | _ => none
def pm_rv (o : Option pmR) (sh : List pmS) (f : pmH → Option pmR) : Option pmR := match o with
  | some (none, w) => if w.1 = sh then f w.2 else none
  | _ => none
def pm_rn (o : Option pmR) (sh : List pmS) (f : pmW → Option pmR) : Option pmR := match o with
  | some (none, w) => if sh.length ≤ w.1.length ∧ pm_ss sh ≤ pm_ss w.1 then f w else none
  | _ => none
def pm_cl (cf : Nat → List Value → pmW → Option pmR) (k : Nat → pmL → List Value → pmW → Option pmR) (y rk : Nat) (as : List Value) (w : pmW) (pc : Nat) (L : pmL) (rest : List Value) : Option pmR := match rk with
  | 0 => pm_rv (cf y as w) w.1 fun h => k pc L rest (w.1, h)
  | 1 => pm_ri (cf y as w) w.1 fun x h => k pc L (.int x :: rest) (w.1, h)
  | _ => pm_rn (cf y as w) w.1 fun w2 => k pc L rest w2
def pm_en (n : Nat) (as : List Value) : pmL := as.map some ++ List.replicate (n - as.length) none
def pm_ini (M : pmM) : Bool := decide (M.1.name = "<init>")
def pm_hd : Nat → Bool
  | 0 => false
  | _ + 1 => true
def pm_c11 : List Value → Bool
  | [] => true
  | v :: t => Nat.beq v.category 1 && pm_c11 t
/-- a call, by what runs a method's body at one level less -/
def pm_cf (ex : Nat → Nat → Nat → pmL → List Value → pmW → Option pmR) (d y : Nat) (as : List Value) (w : pmW) : Option pmR := match d with
  | 0 => none
  | d + 1 => pm_o none (pm_mt y) fun M => pm_b none (pm_c11 as && Nat.ble as.length M.2.2.1) (ex d y 0 (pm_en M.2.2.1 as) [] w)
def pm_ex (sl : Nat) (xs : Nat → Int32) : Nat → Nat → Nat → Nat → pmL → List Value → pmW → Option pmR
  | 0 => fun _ _ _ _ _ _ => none
  | n + 1 => fun d y pc L st w => pm_o none (pm_mt y) fun M => pm_o none (pm_lk pc M.2.2.2.2.2.2) fun q =>
    pm_F none (fun r w => some (r, w)) (pm_ex sl xs n d y) (pm_cl (pm_cf (pm_ex sl xs n) d) (pm_ex sl xs n d y)) sl xs M.2.2.2.2.1 M.2.2.2.1 (pm_ini M) (pm_hd d) q.2 pc L st w.1 w.2
theorem pm_o_some {α β : Type} {o : Option α} {f : α → Option β} {r : β} (h : pm_o none o f = some r) : ∃ a, o = some a ∧ f a = some r := by
  unfold pm_o at h; split at h
  · exact ⟨_, rfl, h⟩
  · cases h
theorem pm_b_some {β : Type} {b : Bool} {f : Option β} {r : β} (h : pm_b none b f = some r) : b = true ∧ f = some r := by
  unfold pm_b at h; split at h
  · exact ⟨rfl, h⟩
  · cases h
theorem pm_rv_some {o : Option pmR} {sh : List pmS} {f : pmH → Option pmR} {r : pmR} (h : pm_rv o sh f = some r) : ∃ h2, o = some (none, (sh, h2)) ∧ f h2 = some r := by
  unfold pm_rv at h; split at h
  · next w =>
    split at h
    · next e => exact ⟨w.2, by rw [← e], h⟩
    · cases h
  · cases h
theorem pm_ri_some {o : Option pmR} {sh : List pmS} {f : Int32 → pmH → Option pmR} {r : pmR} (h : pm_ri o sh f = some r) : ∃ x h2, o = some (some (.int x), (sh, h2)) ∧ f x h2 = some r := by
  unfold pm_ri at h; split at h
  · next x w =>
    split at h
    · next e => exact ⟨x, w.2, by rw [← e], h⟩
    · cases h
  · cases h
theorem pm_rn_some {o : Option pmR} {sh : List pmS} {f : pmW → Option pmR} {r : pmR} (h : pm_rn o sh f = some r) : ∃ w, o = some (none, w) ∧ sh.length ≤ w.1.length ∧ pm_ss sh ≤ pm_ss w.1 ∧ f w = some r := by
  unfold pm_rn at h; split at h
  · next w =>
    split at h
    · next e => exact ⟨w, rfl, e.1, e.2, h⟩
    · cases h
  · cases h
/-- a call that went on: the callee's answer, and what came behind -/
theorem pm_cl_some {cf : Nat → List Value → pmW → Option pmR} {k : Nat → pmL → List Value → pmW → Option pmR} {y rk : Nat} {as : List Value} {w : pmW} {pc : Nat} {L : pmL} {rest : List Value} {res : pmR} (h : pm_cl cf k y rk as w pc L rest = some res) :
    ∃ (r : Option Value) (w2 : pmW), cf y as w = some (r, w2) ∧ w.1.length ≤ w2.1.length ∧ pm_ss w.1 ≤ pm_ss w2.1 ∧ k pc L (r.toList ++ rest) w2 = some res := by
  unfold pm_cl at h; split at h
  · obtain ⟨h2, h3, h4⟩ := pm_rv_some h
    exact ⟨none, _, h3, Nat.le_refl _, Nat.le_refl _, h4⟩
  · obtain ⟨x, h2, h3, h4⟩ := pm_ri_some h
    exact ⟨some (.int x), _, h3, Nat.le_refl _, Nat.le_refl _, h4⟩
  · obtain ⟨w2, h3, h4, h5, h6⟩ := pm_rn_some h
    exact ⟨none, _, h3, h4, h5, h6⟩
theorem pm_ck_at {b : ByteArray} {l : List (Nat × Nat × Instr)} (h : pm_ck b l = true) {pc : Nat} {q : Nat × Instr} (hq : pm_lk pc l = some q) : decode b pc = .ok (q.2, q.1) ∧ q.1 = pm_ln q.2 q.1 := by
  have h1 := List.all_eq_true.mp h _ (pm_lk_mem hq)
  simp only [Bool.and_eq_true, decide_eq_true_eq] at h1
  exact h1
section PMEN
variable {ad : Nat → Nat}
theorem pm_c11_cat : ∀ {as : List Value}, pm_c11 as = true → ∀ v ∈ as, v.category = 1
  | [], _, v, h => absurd h List.not_mem_nil
  | a :: t, h, v, hv => by
    unfold pm_c11 at h
    rw [Bool.and_eq_true] at h
    rcases List.mem_cons.mp hv with rfl | hv
    · exact Nat.eq_of_beq_eq_true h.1
    · exact pm_c11_cat h.2 v hv
theorem pm_sl_len : ∀ {vs : List Value}, (∀ v ∈ vs, v.category = 1) → (lg_sl vs).length = vs.length
  | [], _ => rfl
  | a :: t, h => by
    have h1 := h a List.mem_cons_self
    have h2 := pm_sl_len (vs := t) (fun v hv => h v (List.mem_cons_of_mem _ hv))
    simp only [lg_sl, List.flatMap_cons, List.length_append, List.length_cons] at h2 ⊢
    rw [h2, h1]
    simp
    omega
theorem pm_args_mem : ∀ {vs : List Value} {i j : Nat} {v : Value}, (∀ v ∈ vs, v.category = 1) → vs[j]? = some v → (i + j, v) ∈ lv_args i vs
  | [], _, _, _, _, h => by cases h
  | a :: t, i, j, v, hc, h => by
    have h1 := hc a List.mem_cons_self
    unfold lv_args
    cases j with
    | zero => cases h; exact List.mem_cons_self
    | succ j =>
      rw [List.getElem?_cons_succ] at h
      have h2 := pm_args_mem (i := i + 1) (fun v hv => hc v (List.mem_cons_of_mem _ hv)) h
      refine List.mem_cons_of_mem _ ?_
      rw [if_neg (by omega), show i + (j + 1) = i + 1 + j by omega]
      exact h2
theorem pm_entry {n : Nat} {as : List Value} (hc : pm_c11 as = true) (hn : as.length ≤ n) : pm_has ad ((lg_sl (as.map (pm_cv ad)) ++ List.replicate (n - (lg_sl (as.map (pm_cv ad))).length) Slot.unset).toArray) (pm_en n as) := by
  have hc1 := pm_c11_cat hc
  have hc2 : ∀ v ∈ as.map (pm_cv ad), v.category = 1 := by
    intro v hv
    obtain ⟨u, hu, rfl⟩ := List.mem_map.mp hv
    rw [pm_cv_cat]
    exact hc1 u hu
  have hl := lv_entry (as.map (pm_cv ad)) (n := n) (by rw [pm_sl_len hc2, List.length_map]; exact hn)
  refine ⟨?_, hl.2.1, fun i v hv => ?_⟩
  · rw [hl.1]
    unfold pm_en
    rw [List.length_append, List.length_map, List.length_replicate]
    omega
  · unfold pm_en at hv
    rcases Nat.lt_or_ge i as.length with hi | hi
    · rw [List.getElem?_append_left (by rw [List.length_map]; exact hi), List.getElem?_map] at hv
      cases hu : as[i]? with
      | none => rw [hu] at hv; cases hv
      | some u =>
        rw [hu] at hv
        cases hv
        have h1 : (as.map (pm_cv ad))[i]? = some (pm_cv ad v) := by rw [List.getElem?_map, hu]; rfl
        have h2 := pm_args_mem (i := 0) hc2 h1
        rw [Nat.zero_add] at h2
        exact hl.2.2 _ h2
    · rw [List.getElem?_append_right (by rw [List.length_map]; exact hi)] at hv
      have h3 := List.eq_of_mem_replicate (List.mem_of_getElem? hv)
      cases h3
end PMEN
/-- a run that ends, at any place of a method that the machine is in -/
def pm_Snd (sl : Nat) (xs : Nat → Int32) (n : Nat) : Prop := ∀ (d y : Nat) (M : pmM), pm_mt y = some M → pm_ck M.2.1 M.2.2.2.2.2.2 = true →
  ∀ (p : Program) (l : Launch) (e : Env) (R : Room) (s : State) (m : MethodId) (args : Array Value) (below : List Frame) (meth : Method) (c : Code) (Q : State → Prop) (D : va_G) (cI cZ : ClassId) (b base n0 s0 nL : Nat),
  pm_X p s m args meth c M.2.2.2.2.1 M.2.1 M.2.2.2.1 (pm_ini M) D cI cZ b base n0 sl xs nL → d ≤ R.frames → 40 * d ≤ R.locals →
  ∀ (pc : Nat) (L : pmL) (st : List Value) (w : pmW) (r : Option Value) (w2 : pmW), pm_ex sl xs n d y pc L st w = some (r, w2) → pm_T1 p l e R s m args below meth c Q D cI cZ b base n0 s0 M.2.1 M.2.2.2.1 r w2 → pm_K p l e R s m args below meth c Q D cI cZ b base n0 s0 pc L st w
/-- then it is a contract at its method's start -/
theorem pm_con {sl : Nat} {xs : Nat → Int32} {n : Nat} (hS : pm_Snd sl xs n) {l : Launch} {D : va_G} {cI cZ : ClassId} {b base d y : Nat} (hbb : b < base) {as : List Value} {w w2 : pmW} {r : Option Value} (hcf : pm_cf (pm_ex sl xs n) (d + 1) y as w = some (r, w2)) (hg : w.1.length ≤ w2.1.length) (hg2 : pm_ss w.1 ≤ pm_ss w2.1) : pm_Con l D cI cZ b base sl xs d y as w r w2 := by
  intro M hM hok
  obtain ⟨M', hM', h1⟩ := pm_o_some hcf
  cases hM.symm.trans hM'
  obtain ⟨h2, hex⟩ := pm_b_some h1
  rw [Bool.and_eq_true] at h2
  have hle : as.length ≤ M.2.2.1 := Nat.le_of_ble_eq_true h2.2
  refine Met.ofW (cc := M.2.1) (maxL := M.2.2.1) (ret := M.2.2.2.1) hok.1 rfl ?_
  intro p e s m args below meth c s₁ B hml hv
  obtain ⟨rfl, hP, hK, hsz, hXs, hN⟩ := hv
  have hts := atoms_spec (ws := pm_wsM M) B.pre
  have hown : s.vm.findClass (pm_cn M.2.2.2.2.1) = some m.cls := by rw [hok.2.2.2.2.2.2.1]; exact findClass_of_methodNamed B.named
  have hin : pm_ini M = true → meth.name = "<init>" := fun h => by
    rw [(name_of_methodNamed B.named B.method).1]
    exact of_decide_eq_true h
  have hX : pm_X p s m (as.map (pm_cv (pm_ad b base))).toArray meth c M.2.2.2.2.1 M.2.1 M.2.2.2.1 (pm_ini M) D cI cZ b base w.1.length sl xs M.2.2.1 :=
    ⟨B.exec, B.bytes, hml, hown, fun z hz => hts z (List.mem_cons_of_mem _ hz), hK, hXs, hbb, hsz, hin, hN⟩
  have hlocks := B.notSynchronized
  have hr := B.returns
  have hT : pm_T1 p l e (headSpec (pm_wsM M) (pm_rm d (w2.1.length - w.1.length) (pm_ss w2.1 - pm_ss w.1))).room s m (as.map (pm_cv (pm_ad b base))).toArray below meth c (MQ below (pm_Qc D cI cZ b base r w2) (as.map (pm_cv (pm_ad b base))).toArray s (w2.1.length - w.1.length) (pm_ss w2.1 - pm_ss w.1) (fun q => base ≤ q)) D cI cZ b base w.1.length (pm_ss w.1) M.2.1 M.2.2.2.1 r w2 := by
    refine ⟨⟨by show w2.1.length ≤ (w2.1.length - w.1.length) + w.1.length; omega, by show pm_ss w2.1 ≤ (pm_ss w2.1 - pm_ss w.1) + pm_ss w.1; omega⟩, fun pc hret H locs ls cells slots hP2 hS2 hc hs => ?_⟩
    have hc1 : cells = w2.1.length - w.1.length := by omega
    have hs1 : slots = pm_ss w2.1 - pm_ss w.1 := by omega
    subst hc1
    subst hs1
    cases r with
    | none =>
      obtain ⟨hd, hrn⟩ := hret
      exact W.vret B.exec B.bytes (hr.trans hrn) (fun t ht hW => ⟨rfl, by rw [ht]; exact hP2, hS2.F ht⟩) hS2.2.2 hd
    | some v =>
      obtain ⟨x, rfl, hd, hrt⟩ := hret
      rcases hrt with hrt | ⟨hrt, hx01⟩
      · exact W.iret B.exec B.bytes (hr.trans hrt) (fun t ht hW => ⟨rfl, by rw [ht]; exact hP2, hS2.F ht⟩) hS2.2.2 hd
      · exact W.zret B.exec B.bytes (hr.trans hrt) (by rcases hx01 with rfl | rfl <;> rfl) (fun t ht hW => ⟨rfl, by rw [ht]; exact hP2, hS2.F ht⟩) hS2.2.2 hd
  have hKK := hS d y M hM hok.2.2.2.2.2.2.2 p l e _ s m _ below meth c _ D cI cZ b base w.1.length (pm_ss w.1) M.2.2.1 hX (Nat.le_refl _) (Nat.le_refl _) 0 _ [] w r w2 hex hT
  rw [lg_entry_eq]
  refine hKK.2 ?_ s.heap [] _ 0 0 hP va_S.rf (pm_entry h2.1 hle) (Nat.zero_add _) (Nat.zero_add _)
  unfold pm_en
  rw [List.length_append, List.length_map, List.length_replicate, hml]
  omega
set_option maxHeartbeats 4000000 in
theorem pm_sound (sl : Nat) (xs : Nat → Int32) : ∀ n, pm_Snd sl xs n
  | 0 => fun _ _ _ _ _ _ _ _ _ _ _ _ _ _ _ _ _ _ _ _ _ _ _ _ _ _ _ _ _ _ _ _ _ h _ => by cases h
  | n + 1 => by
    intro d y M hM hck p l e R s m args below meth c Q D cI cZ b base n0 s0 nL hX hfr hlo pc L st w r w2 hex hT
    have ih := pm_sound sl xs n
    have hbb : b < base := hX.2.2.2.2.2.2.2.1
    unfold pm_ex at hex
    obtain ⟨M', hM', hex⟩ := pm_o_some hex
    cases hM.symm.trans hM'
    obtain ⟨q, hq, hex⟩ := pm_o_some hex
    obtain ⟨hd, hln⟩ := pm_ck_at hck hq
    have hdp : pm_hd d = true → 1 ≤ R.frames ∧ 40 ≤ R.locals := fun h => by
      cases d with
      | zero => cases h
      | succ d => exact ⟨by omega, by omega⟩
    obtain ⟨sh, h⟩ := w
    refine pm_wp hX hdp hd hln ?_
    dsimp only at hex
    rw [pm_F_D] at hex ⊢
    cases hD : pm_D0 sl xs M.2.2.2.2.1 M.2.2.2.1 (pm_ini M) (pm_hd d) q.2 pc L st sh h with
    | none => rw [hD] at hex; cases hex
    | some x =>
      rw [hD] at hex
      cases x with
      | inl r0 =>
        have he : some (r0.1, r0.2) = some (r, w2) := hex
        injection he with he
        injection he with he1 he2
        show pm_T1 p l e R s m args below meth c Q D cI cZ b base n0 s0 M.2.1 M.2.2.2.1 r0.1 r0.2
        rw [he1, he2]
        exact hT
      | inr x =>
        cases x with
        | inl q1 => exact ih d y M hM hck p l e R s m args below meth c Q D cI cZ b base n0 s0 nL hX hfr hlo q1.1 q1.2.1 q1.2.2.1 q1.2.2.2 r w2 hex hT
        | inr q1 =>
          obtain ⟨r1, w1, h1, h2, h3, h4⟩ := pm_cl_some hex
          cases d with
          | zero => cases h1
          | succ d => exact ⟨r1, w1, d, pm_con ih hbb h1 h2 h3, hfr, hlo, h2, h3, ih (d + 1) y M hM hck p l e R s m args below meth c Q D cI cZ b base n0 s0 nL hX hfr hlo _ _ _ w1 r w2 h4 hT⟩
end
section
/-! what a run answers, without a count of steps -/
theorem pm_cl_mono {cf cf2 : Nat → List Value → pmW → Option pmR} {k k2 : Nat → pmL → List Value → pmW → Option pmR} (hc : ∀ y as w r, cf y as w = some r → cf2 y as w = some r) (hk : ∀ pc L st w r, k pc L st w = some r → k2 pc L st w = some r) {y rk : Nat} {as : List Value} {w : pmW} {pc : Nat} {L : pmL} {rest : List Value} {res : pmR} (h : pm_cl cf k y rk as w pc L rest = some res) : pm_cl cf2 k2 y rk as w pc L rest = some res := by
  unfold pm_cl at h ⊢; split at h
  · obtain ⟨h2, h3, h4⟩ := pm_rv_some h
    rw [hc _ _ _ _ h3]
    unfold pm_rv
    dsimp only
    rw [if_pos rfl]
    exact hk _ _ _ _ _ h4
  · obtain ⟨x, h2, h3, h4⟩ := pm_ri_some h
    rw [hc _ _ _ _ h3]
    unfold pm_ri
    dsimp only
    rw [if_pos rfl]
    exact hk _ _ _ _ _ h4
  · obtain ⟨w2, h3, h4, h5, h6⟩ := pm_rn_some h
    rw [hc _ _ _ _ h3]
    unfold pm_rn
    dsimp only
    rw [if_pos ⟨h4, h5⟩]
    exact hk _ _ _ _ _ h6
theorem pm_cf_mono {ex ex2 : Nat → Nat → Nat → pmL → List Value → pmW → Option pmR} (hx : ∀ d y pc L st w r, ex d y pc L st w = some r → ex2 d y pc L st w = some r) {d y : Nat} {as : List Value} {w : pmW} {r : pmR} (h : pm_cf ex d y as w = some r) : pm_cf ex2 d y as w = some r := by
  cases d with
  | zero => cases h
  | succ d =>
    unfold pm_cf at h ⊢
    dsimp only at h ⊢
    obtain ⟨M, hM, h⟩ := pm_o_some h
    obtain ⟨hb, h⟩ := pm_b_some h
    rw [hM]
    unfold pm_o
    dsimp only
    rw [hb]
    exact hx _ _ _ _ _ _ _ h
theorem pm_in_mono {k k2 : Nat → pmL → List Value → pmW → Option pmR} {cl cl2 : Nat → Nat → List Value → pmW → Nat → pmL → List Value → Option pmR} (hk : ∀ pc L st w r, k pc L st w = some r → k2 pc L st w = some r) (hc : ∀ y rk as w pc L rest r, cl y rk as w pc L rest = some r → cl2 y rk as w pc L rest = some r) {x : pmD} {r : pmR} (h : pm_in none (fun r w => some (r, w)) k cl x = some r) : pm_in none (fun r w => some (r, w)) k2 cl2 x = some r := by
  rcases x with _ | x | x | x
  · cases h
  · exact h
  · exact hk _ _ _ _ _ h
  · exact hc _ _ _ _ _ _ _ _ h
section PMEV
variable {sl : Nat} {xs : Nat → Int32}
theorem pm_ex_step {ex ex2 : Nat → Nat → Nat → pmL → List Value → pmW → Option pmR} (hx : ∀ d y pc L st w r, ex d y pc L st w = some r → ex2 d y pc L st w = some r) {d y pc : Nat} {L : pmL} {st : List Value} {w : pmW} {r : pmR} {own : Nat} {ret : Option FieldType} {ini hd : Bool} {op : Instr}
    (h : pm_F none (fun r w => some (r, w)) (ex d y) (pm_cl (pm_cf ex d) (ex d y)) sl xs own ret ini hd op pc L st w.1 w.2 = some r) : pm_F none (fun r w => some (r, w)) (ex2 d y) (pm_cl (pm_cf ex2 d) (ex2 d y)) sl xs own ret ini hd op pc L st w.1 w.2 = some r := by
  rw [pm_F_D] at h ⊢
  exact pm_in_mono (hx d y) (fun _ _ _ _ _ _ _ _ h9 => pm_cl_mono (fun _ _ _ _ h8 => pm_cf_mono hx h8) (hx d y) h9) h
theorem pm_ex_mono : ∀ (n d y pc : Nat) (L : pmL) (st : List Value) (w : pmW) (r : pmR), pm_ex sl xs n d y pc L st w = some r → pm_ex sl xs (n + 1) d y pc L st w = some r
  | 0, _, _, _, _, _, _, _, h => by cases h
  | n + 1, d, y, pc, L, st, w, r, h => by
    unfold pm_ex at h ⊢
    obtain ⟨M, hM, h⟩ := pm_o_some h
    obtain ⟨q, hq, h⟩ := pm_o_some h
    rw [hM]
    unfold pm_o
    dsimp only
    rw [hq]
    dsimp only
    exact pm_ex_step (pm_ex_mono n) h
theorem pm_ex_le {n m d y pc : Nat} {L : pmL} {st : List Value} {w : pmW} {r : pmR} (hnm : n ≤ m) (h : pm_ex sl xs n d y pc L st w = some r) : pm_ex sl xs m d y pc L st w = some r := by
  induction hnm with
  | refl => exact h
  | step _ ih => exact pm_ex_mono _ _ _ _ _ _ _ _ ih
noncomputable def pm_Ev (sl : Nat) (xs : Nat → Int32) (d y pc : Nat) (L : pmL) (st : List Value) (w : pmW) : Option pmR :=
  haveI := Classical.propDecidable (∃ r n, pm_ex sl xs n d y pc L st w = some r)
  if h : ∃ r n, pm_ex sl xs n d y pc L st w = some r then some (Classical.choose h) else none
theorem pm_Ev_of {n d y pc : Nat} {L : pmL} {st : List Value} {w : pmW} {r : pmR} (h : pm_ex sl xs n d y pc L st w = some r) : pm_Ev sl xs d y pc L st w = some r := by
  unfold pm_Ev
  have he : ∃ r n, pm_ex sl xs n d y pc L st w = some r := ⟨r, n, h⟩
  rw [dif_pos he]
  obtain ⟨n2, h2⟩ := Classical.choose_spec he
  have h3 := pm_ex_le (Nat.le_max_left n n2) h
  have h4 := pm_ex_le (Nat.le_max_right n n2) h2
  rw [h3] at h4
  exact h4.symm
theorem pm_Ev_ex {d y pc : Nat} {L : pmL} {st : List Value} {w : pmW} {r : pmR} (h : pm_Ev sl xs d y pc L st w = some r) : ∃ n, pm_ex sl xs n d y pc L st w = some r := by
  unfold pm_Ev at h
  split at h
  · next he =>
    obtain ⟨n2, h2⟩ := Classical.choose_spec he
    injection h with h
    rw [h] at h2
    exact ⟨n2, h2⟩
  · cases h
theorem pm_cf_Ev {d y : Nat} {as : List Value} {w : pmW} {r : pmR} (h : pm_cf (pm_Ev sl xs) d y as w = some r) : ∃ n, pm_cf (pm_ex sl xs n) d y as w = some r := by
  cases d with
  | zero => cases h
  | succ d =>
    unfold pm_cf at h
    dsimp only at h
    obtain ⟨M, hM, h⟩ := pm_o_some h
    obtain ⟨hb, h⟩ := pm_b_some h
    obtain ⟨n, hn⟩ := pm_Ev_ex h
    refine ⟨n, ?_⟩
    unfold pm_cf
    dsimp only
    rw [hM]
    unfold pm_o
    dsimp only
    rw [hb]
    exact hn
theorem pm_cl_Ev {d y0 y rk : Nat} {as : List Value} {w : pmW} {pc : Nat} {L : pmL} {rest : List Value} {res : pmR} (h : pm_cl (pm_cf (pm_Ev sl xs) d) (pm_Ev sl xs d y0) y rk as w pc L rest = some res) : ∃ n, pm_cl (pm_cf (pm_ex sl xs n) d) (pm_ex sl xs n d y0) y rk as w pc L rest = some res := by
  have key : ∀ {r : pmR} {pc : Nat} {L : pmL} {st : List Value} {w2 : pmW}, pm_cf (pm_Ev sl xs) d y as w = some r → pm_Ev sl xs d y0 pc L st w2 = some res → ∃ n, pm_cf (pm_ex sl xs n) d y as w = some r ∧ pm_ex sl xs n d y0 pc L st w2 = some res := by
    intro r pc L st w2 h1 h2
    obtain ⟨n1, h1⟩ := pm_cf_Ev h1
    obtain ⟨n2, h2⟩ := pm_Ev_ex h2
    exact ⟨max n1 n2, pm_cf_mono (fun _ _ _ _ _ _ _ h9 => pm_ex_le (Nat.le_max_left n1 n2) h9) h1, pm_ex_le (Nat.le_max_right n1 n2) h2⟩
  unfold pm_cl at h ⊢; split at h
  · obtain ⟨h2, h3, h4⟩ := pm_rv_some h
    obtain ⟨n, h5, h6⟩ := key h3 h4
    refine ⟨n, ?_⟩
    rw [h5]
    unfold pm_rv
    dsimp only
    rw [if_pos rfl]
    exact h6
  · obtain ⟨x, h2, h3, h4⟩ := pm_ri_some h
    obtain ⟨n, h5, h6⟩ := key h3 h4
    refine ⟨n, ?_⟩
    rw [h5]
    unfold pm_ri
    dsimp only
    rw [if_pos rfl]
    exact h6
  · next h0 h1 =>
    obtain ⟨w2, h3, h4, h5, h6⟩ := pm_rn_some h
    obtain ⟨n, h7, h8⟩ := key h3 h6
    refine ⟨n, ?_⟩
    rw [h7]
    unfold pm_rn
    dsimp only
    rw [if_pos ⟨h4, h5⟩]
    exact h8
theorem pm_Ev_eq {d y pc : Nat} {L : pmL} {st : List Value} {w : pmW} {M : pmM} {q : Nat × Instr} (hM : pm_mt y = some M) (hq : pm_lk pc M.2.2.2.2.2.2 = some q) :
    pm_Ev sl xs d y pc L st w = pm_F none (fun r w => some (r, w)) (pm_Ev sl xs d y) (pm_cl (pm_cf (pm_Ev sl xs) d) (pm_Ev sl xs d y)) sl xs M.2.2.2.2.1 M.2.2.2.1 (pm_ini M) (pm_hd d) q.2 pc L st w.1 w.2 := by
  have hun : ∀ n, pm_ex sl xs (n + 1) d y pc L st w = pm_F none (fun r w => some (r, w)) (pm_ex sl xs n d y) (pm_cl (pm_cf (pm_ex sl xs n) d) (pm_ex sl xs n d y)) sl xs M.2.2.2.2.1 M.2.2.2.1 (pm_ini M) (pm_hd d) q.2 pc L st w.1 w.2 := by
    intro n
    conv => lhs; unfold pm_ex
    rw [hM]
    unfold pm_o
    dsimp only
    rw [hq]
  apply Option.ext
  intro r
  constructor
  · intro h
    obtain ⟨n, hn⟩ := pm_Ev_ex h
    have hn2 := pm_ex_mono n _ _ _ _ _ _ _ hn
    rw [hun n] at hn2
    exact pm_ex_step (ex := pm_ex sl xs n) (ex2 := pm_Ev sl xs) (fun _ _ _ _ _ _ _ h9 => pm_Ev_of h9) hn2
  · intro h
    rw [pm_F_D] at h
    have fin : ∀ n, pm_in none (fun r w => some (r, w)) (pm_ex sl xs n d y) (pm_cl (pm_cf (pm_ex sl xs n) d) (pm_ex sl xs n d y)) (pm_D0 sl xs M.2.2.2.2.1 M.2.2.2.1 (pm_ini M) (pm_hd d) q.2 pc L st w.1 w.2) = some r → pm_Ev sl xs d y pc L st w = some r := by
      intro n h1
      refine pm_Ev_of (n := n + 1) ?_
      rw [hun n, pm_F_D]
      exact h1
    revert h fin
    generalize pm_D0 sl xs M.2.2.2.2.1 M.2.2.2.1 (pm_ini M) (pm_hd d) q.2 pc L st w.1 w.2 = x
    intro h fin
    rcases x with _ | x | x | x
    · cases h
    · exact fin 0 h
    · obtain ⟨n, hn⟩ := pm_Ev_ex h
      exact fin n hn
    · obtain ⟨n, hn⟩ := pm_cl_Ev h
      exact fin n hn
theorem pm_Ev_none {d y pc : Nat} {L : pmL} {st : List Value} {w : pmW} {M : pmM} (hM : pm_mt y = some M) (hq : pm_lk pc M.2.2.2.2.2.2 = none) : pm_Ev sl xs d y pc L st w = none := by
  cases h : pm_Ev sl xs d y pc L st w with
  | none => rfl
  | some r =>
    obtain ⟨n, hn⟩ := pm_Ev_ex h
    cases n with
    | zero => cases hn
    | succ n =>
      unfold pm_ex at hn
      obtain ⟨M2, hM2, hn⟩ := pm_o_some hn
      cases hM.symm.trans hM2
      obtain ⟨q, hq2, hn⟩ := pm_o_some hn
      rw [hq] at hq2
      cases hq2
end PMEV
def pm_mem (i : Nat) : List Nat → Bool
  | [] => false
  | j :: t => match Nat.beq j i with
    | true => true
    | false => pm_mem i t
/-- some steps done ahead, up to the places 'stops' -/
def pm_un (sl : Nat) (xs : Nat → Int32) (own : Nat) (ret : Option FieldType) (ini hd : Bool) (code : List (Nat × Nat × Instr)) (cf : Nat → List Value → pmW → Option pmR) (k : Nat → pmL → List Value → pmW → Option pmR) (stops : List Nat) : Nat → Nat → pmL → List Value → pmW → Option pmR
  | 0 => k
  | n + 1 => fun pc L st w => pm_o none (pm_lk pc code) fun q =>
    pm_F none (fun r w => some (r, w)) (fun pc L st w => match pm_mem pc stops with
      | true => k pc L st w
      | false => pm_un sl xs own ret ini hd code cf k stops n pc L st w) (pm_cl cf (fun pc L st w => match pm_mem pc stops with
      | true => k pc L st w
      | false => pm_un sl xs own ret ini hd code cf k stops n pc L st w)) sl xs own ret ini hd q.2 pc L st w.1 w.2
theorem pm_un_eq {sl : Nat} {xs : Nat → Int32} {d y : Nat} {M : pmM} (hM : pm_mt y = some M) (stops : List Nat) : ∀ (n : Nat) (pc : Nat) (L : pmL) (st : List Value) (w : pmW), pm_un sl xs M.2.2.2.2.1 M.2.2.2.1 (pm_ini M) (pm_hd d) M.2.2.2.2.2.2 (pm_cf (pm_Ev sl xs) d) (pm_Ev sl xs d y) stops n pc L st w = pm_Ev sl xs d y pc L st w
  | 0, _, _, _, _ => rfl
  | n + 1, pc, L, st, w => by
    have hk : (fun pc L st w => match pm_mem pc stops with
      | true => pm_Ev sl xs d y pc L st w
      | false => pm_un sl xs M.2.2.2.2.1 M.2.2.2.1 (pm_ini M) (pm_hd d) M.2.2.2.2.2.2 (pm_cf (pm_Ev sl xs) d) (pm_Ev sl xs d y) stops n pc L st w) = pm_Ev sl xs d y := by
      funext pc L st w
      split
      · rfl
      · exact pm_un_eq hM stops n pc L st w
    unfold pm_un
    rw [hk]
    cases hq : pm_lk pc M.2.2.2.2.2.2 with
    | none => rw [pm_Ev_none hM hq]; rfl
    | some q => rw [pm_Ev_eq hM hq]; rfl
end
section
/-! THE CLAIM OUT OF ONE WALK OF THE LAW'S BODY. Your part is whole_start (and what it stands on); all else here is the same for every law, but numbers. -/
def R_law : String := "LampFeastLaw"
def lw_P (b : Addr) (xs : List Int32) (args : Array Value) (s : State) : Prop := args = #[.ref b] ∧ s.IntsAt b xs ∧ xs.length ≤ 3584 ∧ (Jvm.Cond.and given_1 narrow_1).before args s = true
def lw_Q (_ : Array Value) (s : State) (o : Outcome) (t : State) : Prop := o = .returned (some (.int 1)) ∧ Framed s o t [] 600000 7302250
def lw_Z (below : List Frame) (a : Array Value) (s : State) : State → Prop := fun t => ∃ o, t.status = .running ∧ Ended t below o ∧ lw_Q a s o t
/-- the law's own end, with 1 on the stack, nothing written that was there before, its room as the claim has it -/
theorem lw_ret {p : Program} {l : Launch} {e : Env} {s : State} {m : MethodId} {below : List Frame} {meth : Method} {c : Code} {b : Nat} (hx : p.tables.exec = Jvm.exec) (hb : c.code = code) (hr : meth.sig.returnType = ret) (hlocks : meth.locks = false) {pc : Nat} {H : Heap} {ls : Array Slot} (hdg : decode code pc = .ok (.ireturn, 1)) : W p l e room_1 s m #[Value.ref b] below meth c H [] 600000 7302250 (lw_Z below #[Value.ref b] s) (F0 m pc ls [.int 1]) := by
  intro T hT X
  obtain ⟨fs, hret, hrun, hended, hW, hframe⟩ := X.leave (v := some (.int 1)) (hlocks := hlocks) (fun h => by rw [hr] at h; cases h)
  have hmeth' : T.vm.method? m = some meth := X.method'
  refine ⟨T.setFrames fs, ?_, .returned (some (.int 1)), hrun, hended, rfl, ⟨_, rfl⟩, hW, hframe⟩
  jvm_step X.here [X.here.top, hx, hb, hdg, hmeth', hr, ret, narrow_b1]
  (try refine ⟨rfl, ?_⟩); (try refine ⟨rfl, ?_⟩)
  first | (intro acts; rw [hret _ acts rfl rfl rfl]) | rw [hret _ _ rfl rfl rfl]
  exact Steps.refl _
/-- what holds at the law's entry: the machine, the code, the tables' words (any of lw_tbl by 'hts w (by decide +kernel)'), the script of L ints xs at the cell b, what the Statement gives of the start (any of its parts by flat_of_before) -/
def lw_At (p : Program) (s : State) (m : MethodId) (meth : Method) (c : Code) (b L : Nat) (xs : Nat → Int32) : Prop :=
  p.tables.exec = Jvm.exec ∧ c.code = code ∧ meth.sig.returnType = ret ∧ c.maxLocals = 4 ∧ s.vm.findClass R_law = some m.cls ∧ (∀ w ∈ lw_tbl, w.before #[Value.ref b] s = true) ∧ va_X b L xs s s.heap ∧ b < s.heap.size ∧ meth.locks = false ∧ (Jvm.Cond.and given_1 narrow_1).before #[Value.ref b] s = true
/-- the law's run in the small machine gives the claim's walk -/
def pm_law (L : Nat) (xs : Nat → Int32) : Prop := ∃ w2 : pmW, pm_Ev L xs 60 152 0 [some (.ref 0), none, none, none] [] ([], fun _ _ => 0) = some (some (.int 1), w2) ∧ w2.1.length ≤ 600000 ∧ pm_ss w2.1 ≤ 7302250
theorem pm_arrT {s : State} {args : Array Value} {ty : FieldType} (h : (Cond.arrayClass ty).before args s = true) : ∃ cA : ClassId, ArrOfT s cA ty ∧ s.vm.findClass ("[" ++ ty.toString) = some cA := by
  obtain ⟨cA, kA, comp, h1, h2, h3⟩ := Cond.arrayClass_spec h
  exact ⟨cA, fun n z => ⟨fun k h => (by cases h), kA, h2, comp, h3⟩, h1⟩
set_option maxHeartbeats 4000000 in
theorem pm_start {p : Program} {e : Env} {s : State} {m : MethodId} {below : List Frame} {meth : Method} {c : Code} (l : Launch) {b L : Nat} {xs : Nat → Int32} (hlaw : pm_law L xs) (C0 : lw_At p s m meth c b L xs) : W p l e room_1 s m #[Value.ref b] below meth c s.heap [] 0 0 (lw_Z below #[Value.ref b] s) (entryFrame m ([Value.ref b] : List Value).toArray 4) := by
  obtain ⟨hx, hb, hr, hml, hown, hts, hX, hbl, hlocks, -⟩ := C0
  obtain ⟨w2, hEv, hw1, hw2⟩ := hlaw
  obtain ⟨n, hex⟩ := pm_Ev_ex hEv
  have hkn : ∀ ci : Nat, ∃ q : ClassId × (Nat → Nat), ci < 9 → u_Kn s (pm_cn ci) (pm_T ci) (pm_N ci) q.1 q.2 := by
    intro ci
    by_cases h : ci < 9
    · obtain ⟨hC1, hC2, hC3, hC4, hC5, hC6, hC7⟩ := pmC_all ci h
      obtain ⟨cC, iS, hK⟩ := u_known hts hC2 (hts _ hC5)
      exact ⟨(cC, iS), fun _ => hK⟩
    · exact ⟨(0, fun _ => 0), fun h2 => absurd h2 h⟩
  obtain ⟨cI, hI1, hI2⟩ := pm_arrT (hts _ pm_arr.1)
  obtain ⟨cZ, hZ1, hZ2⟩ := pm_arrT (hts _ pm_arr.2)
  have hK : va_K (fun ci => (Classical.choose (hkn ci)).1, fun ci => (Classical.choose (hkn ci)).2) vwCl [(cI, .int), (cZ, .boolean)] s := by
    refine ⟨fun ci q hq => ?_, fun k q hq => ?_⟩
    · have h9 : ci < 9 := (List.getElem?_eq_some_iff.mp hq).1
      have h1 := (pmC_all ci h9).1
      rw [h1] at hq
      cases hq
      exact Classical.choose_spec (hkn ci) h9
    · rcases k with _ | _ | k
      · cases hq; exact ⟨hI1, hI2⟩
      · cases hq; exact ⟨hZ1, hZ2⟩
      · cases hq
  have hPX : pm_X p s m #[Value.ref b] meth c 9 code (some .boolean) (pm_ini mt_152) (fun ci => (Classical.choose (hkn ci)).1, fun ci => (Classical.choose (hkn ci)).2) cI cZ b s.heap.size 0 L xs 4 :=
    ⟨hx, hb, hml, hown, fun w hw => hts w (List.mem_filter.mp hw).1, hK, hX, hbl, rfl, fun h => absurd (of_decide_eq_true h) (by decide +kernel), fun a i x g h => va_Nw.of rfl (hts _ h)⟩
  have hT : pm_T1 p l e room_1 s m #[Value.ref b] below meth c (lw_Z below #[Value.ref b] s) (fun ci => (Classical.choose (hkn ci)).1, fun ci => (Classical.choose (hkn ci)).2) cI cZ b s.heap.size 0 0 code (some .boolean) (some (.int 1)) w2 := by
    refine ⟨⟨hw1, hw2⟩, fun pc hret H locs ls cells slots hP2 hS2 hc hs => ?_⟩
    obtain ⟨x, hx1, hd, -⟩ := hret
    refine va_forget (fun q hq => hS2.2.2 q hq) ?_
    refine W.widen (k := 600000) (n := 7302250) (by omega) (by omega) ?_
    exact lw_ret hx hb hr hlocks hd
  have hKK := pm_sound L xs n 60 152 mt_152 rfl ck_152 p l e room_1 s m #[Value.ref b] below meth c (lw_Z below #[Value.ref b] s) _ cI cZ b s.heap.size 0 0 4 hPX (by decide) (by decide) 0 _ [] _ _ w2 hex hT
  rw [lg_entry_eq]
  exact hKK.2 hml.symm s.heap [] _ 0 0 (fun k q hq => by cases hq) va_S.rf (pm_entry (ad := pm_ad b s.heap.size) (n := 4) (as := [.ref 0]) rfl (by decide)) rfl rfl
end
section
/-! rows of equations: a row an instruction, goal first -/
theorem pm_ar_ok {ρ : Type} {z : ρ} {sh : List pmS} {t k n : Nat} {fl : List (Option (Option Nat))} {f : Nat → Nat → ρ} (hs : sh[k]? = some (t, n, fl)) : pm_ar z sh t (k + 1) f = f k n := by
  show (match sh[k]? with
    | some s => (match Nat.beq s.1 t with
      | true => f k s.2.1
      | false => z)
    | none => z) = _
  rw [hs]
  show (match Nat.beq t t with
      | true => f k n
      | false => z) = _
  rw [Nat.beq_refl]
theorem pm_ob_ok {ρ : Type} {z : ρ} {sh : List pmS} {k ci : Nat} {fl : List (Option (Option Nat))} {f : Nat → List (Option (Option Nat)) → ρ} (hs : sh[k]? = some (2, ci, fl)) : pm_ob z sh ci (k + 1) f = f k fl := by
  show (match sh[k]? with
    | some s => (match Nat.beq s.1 2 && Nat.beq s.2.1 ci with
      | true => f k s.2.2
      | false => z)
    | none => z) = _
  rw [hs]
  show (match Nat.beq 2 2 && Nat.beq ci ci with
      | true => f k fl
      | false => z) = _
  rw [Nat.beq_refl, Nat.beq_refl]
  rfl
section PME2
variable {sl : Nat} {xs : Nat → Int32} {d y pc pc2 : Nat} {L L2 : pmL} {st : List Value} {sh : List pmS} {h : pmH} {M : pmM} {A : Option pmR}
theorem e_iconst {n : Int} {v : Int32} (hM : pm_mt y = some M) (hq : pm_lk pc M.2.2.2.2.2.2 = some (1, .iconst n)) (hp : pc + 1 = pc2) (hv : pm_int n = v) (kk : pm_Ev sl xs d y pc2 L (.int v :: st) (sh, h) = A): pm_Ev sl xs d y pc L st (sh, h) = A := by
  subst hp
  rw [pm_Ev_eq hM hq]
  subst hv
  exact kk
theorem e_bipush {n : Int} {v : Int32} (hM : pm_mt y = some M) (hq : pm_lk pc M.2.2.2.2.2.2 = some (2, .bipush n)) (hp : pc + 2 = pc2) (hb : (decide (-128 ≤ n) && decide (n < 128)) = true) (hv : pm_int n = v) (kk : pm_Ev sl xs d y pc2 L (.int v :: st) (sh, h) = A): pm_Ev sl xs d y pc L st (sh, h) = A := by
  subst hp
  rw [pm_Ev_eq hM hq]
  subst hv
  unfold pm_F
  dsimp only
  rw [hb]
  exact kk
theorem e_sipush {n : Int} {v : Int32} (hM : pm_mt y = some M) (hq : pm_lk pc M.2.2.2.2.2.2 = some (3, .sipush n)) (hp : pc + 3 = pc2) (hb : (decide (-32768 ≤ n) && decide (n < 32768)) = true) (hv : pm_int n = v) (kk : pm_Ev sl xs d y pc2 L (.int v :: st) (sh, h) = A): pm_Ev sl xs d y pc L st (sh, h) = A := by
  subst hp
  rw [pm_Ev_eq hM hq]
  subst hv
  unfold pm_F
  dsimp only
  rw [hb]
  exact kk
theorem e_ldc {i : Nat} {v : Int32} (hM : pm_mt y = some M) (hq : pm_lk pc M.2.2.2.2.2.2 = some (2, .ldc i)) (hp : pc + 2 = pc2) (hv : pm_lk i (pm_kcL M.2.2.2.2.1) = some v) (kk : pm_Ev sl xs d y pc2 L (.int v :: st) (sh, h) = A): pm_Ev sl xs d y pc L st (sh, h) = A := by
  subst hp
  rw [pm_Ev_eq hM hq]
  unfold pm_F
  dsimp only
  rw [hv]
  exact kk
theorem e_ldc_w {i : Nat} {v : Int32} (hM : pm_mt y = some M) (hq : pm_lk pc M.2.2.2.2.2.2 = some (3, .ldc_w i)) (hp : pc + 3 = pc2) (hv : pm_lk i (pm_kcL M.2.2.2.2.1) = some v) (kk : pm_Ev sl xs d y pc2 L (.int v :: st) (sh, h) = A): pm_Ev sl xs d y pc L st (sh, h) = A := by
  subst hp
  rw [pm_Ev_eq hM hq]
  unfold pm_F
  dsimp only
  rw [hv]
  exact kk
theorem e_iload {i : Nat} {x : Int32} (hM : pm_mt y = some M) (hq : pm_lk pc M.2.2.2.2.2.2 = some (2, .iload i)) (hp : pc + 2 = pc2) (hl : L[i]? = some (some (.int x))) (kk : pm_Ev sl xs d y pc2 L (.int x :: st) (sh, h) = A): pm_Ev sl xs d y pc L st (sh, h) = A := by
  subst hp
  rw [pm_Ev_eq hM hq]
  unfold pm_F pm_ld
  dsimp only
  rw [hl]
  exact kk
theorem e_iload_n {i : Fin 4} {x : Int32} (hM : pm_mt y = some M) (hq : pm_lk pc M.2.2.2.2.2.2 = some (1, .iload_n i)) (hp : pc + 1 = pc2) (hl : L[i.val]? = some (some (.int x))) (kk : pm_Ev sl xs d y pc2 L (.int x :: st) (sh, h) = A): pm_Ev sl xs d y pc L st (sh, h) = A := by
  subst hp
  rw [pm_Ev_eq hM hq]
  unfold pm_F pm_ld
  dsimp only
  rw [hl]
  exact kk
theorem e_aload_n {i : Fin 4} {x : Nat} (hM : pm_mt y = some M) (hq : pm_lk pc M.2.2.2.2.2.2 = some (1, .aload_n i)) (hp : pc + 1 = pc2) (hl : L[i.val]? = some (some (.ref x))) (kk : pm_Ev sl xs d y pc2 L (.ref x :: st) (sh, h) = A): pm_Ev sl xs d y pc L st (sh, h) = A := by
  subst hp
  rw [pm_Ev_eq hM hq]
  unfold pm_F pm_ld
  dsimp only
  rw [hl]
  exact kk
theorem e_lload {i : Nat} {x : Int64} (hM : pm_mt y = some M) (hq : pm_lk pc M.2.2.2.2.2.2 = some (2, .lload i)) (hp : pc + 2 = pc2) (hl : L[i]? = some (some (.long x))) (kk : pm_Ev sl xs d y pc2 L (.long x :: st) (sh, h) = A): pm_Ev sl xs d y pc L st (sh, h) = A := by
  subst hp
  rw [pm_Ev_eq hM hq]
  unfold pm_F pm_ld
  dsimp only
  rw [hl]
  exact kk
theorem e_istore {i : Nat} {x : Int32} {o : Option Value} (hM : pm_mt y = some M) (hq : pm_lk pc M.2.2.2.2.2.2 = some (2, .istore i)) (hp : pc + 2 = pc2) (hl : L[i]? = some o) (hL : (pm_k2 L i).set i (some (.int x)) = L2) (kk : pm_Ev sl xs d y pc2 L2 st (sh, h) = A): pm_Ev sl xs d y pc L (.int x :: st) (sh, h) = A := by
  subst hp
  rw [pm_Ev_eq hM hq]
  subst hL
  unfold pm_F pm_s1
  dsimp only [pm_pi, pm_pr]
  rw [hl]
  exact kk
theorem e_istore_n {i : Fin 4} {x : Int32} {o : Option Value} (hM : pm_mt y = some M) (hq : pm_lk pc M.2.2.2.2.2.2 = some (1, .istore_n i)) (hp : pc + 1 = pc2) (hl : L[i.val]? = some o) (hL : (pm_k2 L i.val).set i.val (some (.int x)) = L2) (kk : pm_Ev sl xs d y pc2 L2 st (sh, h) = A): pm_Ev sl xs d y pc L (.int x :: st) (sh, h) = A := by
  subst hp
  rw [pm_Ev_eq hM hq]
  subst hL
  unfold pm_F pm_s1
  dsimp only [pm_pi, pm_pr]
  rw [hl]
  exact kk
theorem e_astore_n {i : Fin 4} {x : Nat} {o : Option Value} (hM : pm_mt y = some M) (hq : pm_lk pc M.2.2.2.2.2.2 = some (1, .astore_n i)) (hp : pc + 1 = pc2) (hl : L[i.val]? = some o) (hL : (pm_k2 L i.val).set i.val (some (.ref x)) = L2) (kk : pm_Ev sl xs d y pc2 L2 st (sh, h) = A): pm_Ev sl xs d y pc L (.ref x :: st) (sh, h) = A := by
  subst hp
  rw [pm_Ev_eq hM hq]
  subst hL
  unfold pm_F pm_s1
  dsimp only [pm_pi, pm_pr]
  rw [hl]
  exact kk
theorem e_lstore {i : Nat} {x : Int64} {o : Option Value} (hM : pm_mt y = some M) (hq : pm_lk pc M.2.2.2.2.2.2 = some (2, .lstore i)) (hp : pc + 2 = pc2) (hl : L[i + 1]? = some o) (hL : ((pm_k2 L i).set (i + 1) none).set i (some (.long x)) = L2) (kk : pm_Ev sl xs d y pc2 L2 st (sh, h) = A): pm_Ev sl xs d y pc L (.long x :: st) (sh, h) = A := by
  subst hp
  rw [pm_Ev_eq hM hq]
  subst hL
  unfold pm_F pm_s2
  dsimp only [pm_pl]
  rw [hl]
  exact kk
theorem e_iinc {i : Nat} {n : Int} {x v : Int32} (hM : pm_mt y = some M) (hq : pm_lk pc M.2.2.2.2.2.2 = some (3, .iinc i n)) (hp : pc + 3 = pc2) (hl : L[i]? = some (some (.int x))) (hv : pm_int n = v) (hL : (pm_k2 L i).set i (some (.int (x + v))) = L2) (kk : pm_Ev sl xs d y pc2 L2 st (sh, h) = A): pm_Ev sl xs d y pc L st (sh, h) = A := by
  subst hp
  rw [pm_Ev_eq hM hq]
  subst hL
  subst hv
  unfold pm_F pm_ld pm_s1
  dsimp only
  rw [hl]
  exact kk
theorem e_iadd {x y2 : Int32} (hM : pm_mt y = some M) (hq : pm_lk pc M.2.2.2.2.2.2 = some (1, .iadd)) (hp : pc + 1 = pc2) (kk : pm_Ev sl xs d y pc2 L (.int (x + y2) :: st) (sh, h) = A): pm_Ev sl xs d y pc L (.int y2 :: .int x :: st) (sh, h) = A := by
  subst hp
  rw [pm_Ev_eq hM hq]
  exact kk
theorem e_isub {x y2 : Int32} (hM : pm_mt y = some M) (hq : pm_lk pc M.2.2.2.2.2.2 = some (1, .isub)) (hp : pc + 1 = pc2) (kk : pm_Ev sl xs d y pc2 L (.int (x - y2) :: st) (sh, h) = A): pm_Ev sl xs d y pc L (.int y2 :: .int x :: st) (sh, h) = A := by
  subst hp
  rw [pm_Ev_eq hM hq]
  exact kk
theorem e_imul {x y2 : Int32} (hM : pm_mt y = some M) (hq : pm_lk pc M.2.2.2.2.2.2 = some (1, .imul)) (hp : pc + 1 = pc2) (kk : pm_Ev sl xs d y pc2 L (.int (x * y2) :: st) (sh, h) = A): pm_Ev sl xs d y pc L (.int y2 :: .int x :: st) (sh, h) = A := by
  subst hp
  rw [pm_Ev_eq hM hq]
  exact kk
theorem e_iand {x y2 : Int32} (hM : pm_mt y = some M) (hq : pm_lk pc M.2.2.2.2.2.2 = some (1, .iand)) (hp : pc + 1 = pc2) (kk : pm_Ev sl xs d y pc2 L (.int (x &&& y2) :: st) (sh, h) = A): pm_Ev sl xs d y pc L (.int y2 :: .int x :: st) (sh, h) = A := by
  subst hp
  rw [pm_Ev_eq hM hq]
  exact kk
theorem e_ior {x y2 : Int32} (hM : pm_mt y = some M) (hq : pm_lk pc M.2.2.2.2.2.2 = some (1, .ior)) (hp : pc + 1 = pc2) (kk : pm_Ev sl xs d y pc2 L (.int (x ||| y2) :: st) (sh, h) = A): pm_Ev sl xs d y pc L (.int y2 :: .int x :: st) (sh, h) = A := by
  subst hp
  rw [pm_Ev_eq hM hq]
  exact kk
theorem e_ishl {x y2 : Int32} (hM : pm_mt y = some M) (hq : pm_lk pc M.2.2.2.2.2.2 = some (1, .ishl)) (hp : pc + 1 = pc2) (kk : pm_Ev sl xs d y pc2 L (.int (x <<< (y2 &&& 31)) :: st) (sh, h) = A): pm_Ev sl xs d y pc L (.int y2 :: .int x :: st) (sh, h) = A := by
  subst hp
  rw [pm_Ev_eq hM hq]
  exact kk
theorem e_ishr {x y2 : Int32} (hM : pm_mt y = some M) (hq : pm_lk pc M.2.2.2.2.2.2 = some (1, .ishr)) (hp : pc + 1 = pc2) (kk : pm_Ev sl xs d y pc2 L (.int (x >>> (y2 &&& 31)) :: st) (sh, h) = A): pm_Ev sl xs d y pc L (.int y2 :: .int x :: st) (sh, h) = A := by
  subst hp
  rw [pm_Ev_eq hM hq]
  exact kk
theorem e_lmul {x y2 : Int64} (hM : pm_mt y = some M) (hq : pm_lk pc M.2.2.2.2.2.2 = some (1, .lmul)) (hp : pc + 1 = pc2) (kk : pm_Ev sl xs d y pc2 L (.long (x * y2) :: st) (sh, h) = A): pm_Ev sl xs d y pc L (.long y2 :: .long x :: st) (sh, h) = A := by
  subst hp
  rw [pm_Ev_eq hM hq]
  exact kk
theorem e_lcmp {x y2 : Int64} (hM : pm_mt y = some M) (hq : pm_lk pc M.2.2.2.2.2.2 = some (1, .lcmp)) (hp : pc + 1 = pc2) (kk : pm_Ev sl xs d y pc2 L (.int (lg_cmp x y2) :: st) (sh, h) = A): pm_Ev sl xs d y pc L (.long y2 :: .long x :: st) (sh, h) = A := by
  subst hp
  rw [pm_Ev_eq hM hq]
  exact kk
theorem e_idiv {x y2 : Int32} (hM : pm_mt y = some M) (hq : pm_lk pc M.2.2.2.2.2.2 = some (1, .idiv)) (hp : pc + 1 = pc2) (kk : pm_Ev sl xs d y pc2 L (.int (x / y2) :: st) (sh, h) = A): pm_Ev sl xs d y pc L (.int y2 :: .int x :: st) (sh, h) = if y2 = 0 then none else A := by
  subst hp
  rw [pm_Ev_eq hM hq]
  show (if y2 = 0 then none else _) = _
  rw [← kk]
theorem e_irem {x y2 : Int32} (hM : pm_mt y = some M) (hq : pm_lk pc M.2.2.2.2.2.2 = some (1, .irem)) (hp : pc + 1 = pc2) (kk : pm_Ev sl xs d y pc2 L (.int (x - x / y2 * y2) :: st) (sh, h) = A): pm_Ev sl xs d y pc L (.int y2 :: .int x :: st) (sh, h) = if y2 = 0 then none else A := by
  subst hp
  rw [pm_Ev_eq hM hq]
  show (if y2 = 0 then none else _) = _
  rw [← kk]
theorem e_ldiv {x y2 : Int64} (hM : pm_mt y = some M) (hq : pm_lk pc M.2.2.2.2.2.2 = some (1, .ldiv)) (hp : pc + 1 = pc2) (kk : pm_Ev sl xs d y pc2 L (.long (x / y2) :: st) (sh, h) = A): pm_Ev sl xs d y pc L (.long y2 :: .long x :: st) (sh, h) = if y2 = 0 then none else A := by
  subst hp
  rw [pm_Ev_eq hM hq]
  show (if y2 = 0 then none else _) = _
  rw [← kk]
theorem e_lrem {x y2 : Int64} (hM : pm_mt y = some M) (hq : pm_lk pc M.2.2.2.2.2.2 = some (1, .lrem)) (hp : pc + 1 = pc2) (kk : pm_Ev sl xs d y pc2 L (.long (x - x / y2 * y2) :: st) (sh, h) = A): pm_Ev sl xs d y pc L (.long y2 :: .long x :: st) (sh, h) = if y2 = 0 then none else A := by
  subst hp
  rw [pm_Ev_eq hM hq]
  show (if y2 = 0 then none else _) = _
  rw [← kk]
theorem e_i2l {x : Int32} (hM : pm_mt y = some M) (hq : pm_lk pc M.2.2.2.2.2.2 = some (1, .i2l)) (hp : pc + 1 = pc2) (kk : pm_Ev sl xs d y pc2 L (.long x.toInt64 :: st) (sh, h) = A): pm_Ev sl xs d y pc L (.int x :: st) (sh, h) = A := by
  subst hp
  rw [pm_Ev_eq hM hq]
  exact kk
theorem e_l2i {x : Int64} (hM : pm_mt y = some M) (hq : pm_lk pc M.2.2.2.2.2.2 = some (1, .l2i)) (hp : pc + 1 = pc2) (kk : pm_Ev sl xs d y pc2 L (.int x.toInt32 :: st) (sh, h) = A): pm_Ev sl xs d y pc L (.long x :: st) (sh, h) = A := by
  subst hp
  rw [pm_Ev_eq hM hq]
  exact kk
theorem e_dup {v : Value} (hM : pm_mt y = some M) (hq : pm_lk pc M.2.2.2.2.2.2 = some (1, .dup)) (hp : pc + 1 = pc2) (hv : v.category = 1) (kk : pm_Ev sl xs d y pc2 L (v :: v :: st) (sh, h) = A): pm_Ev sl xs d y pc L (v :: st) (sh, h) = A := by
  subst hp
  rw [pm_Ev_eq hM hq]
  unfold pm_F pm_p1
  dsimp only
  rw [hv]
  exact kk
theorem e_dup2 {v u : Value} (hM : pm_mt y = some M) (hq : pm_lk pc M.2.2.2.2.2.2 = some (1, .dup2)) (hp : pc + 1 = pc2) (hv : v.category = 1) (hu : u.category = 1) (kk : pm_Ev sl xs d y pc2 L (v :: u :: v :: u :: st) (sh, h) = A): pm_Ev sl xs d y pc L (v :: u :: st) (sh, h) = A := by
  subst hp
  rw [pm_Ev_eq hM hq]
  unfold pm_F pm_p1
  dsimp only
  rw [hv, hu]
  exact kk
theorem e_pop {v : Value} (hM : pm_mt y = some M) (hq : pm_lk pc M.2.2.2.2.2.2 = some (1, .pop)) (hp : pc + 1 = pc2) (hv : v.category = 1) (kk : pm_Ev sl xs d y pc2 L st (sh, h) = A): pm_Ev sl xs d y pc L (v :: st) (sh, h) = A := by
  subst hp
  rw [pm_Ev_eq hM hq]
  unfold pm_F pm_p1
  dsimp only
  rw [hv]
  exact kk
theorem e_goto {off : Int} {tgt : Nat} (hM : pm_mt y = some M) (hq : pm_lk pc M.2.2.2.2.2.2 = some (3, .goto off)) (ht : (pc : Int) + off = Int.ofNat tgt) (kk : pm_Ev sl xs d y tgt L st (sh, h) = A): pm_Ev sl xs d y pc L st (sh, h) = A := by
  rw [pm_Ev_eq hM hq]
  unfold pm_F pm_j
  dsimp only
  rw [ht]
  exact kk
theorem e_if_eq {B : Option pmR} {off : Int} {tgt : Nat} {x : Int32} (hM : pm_mt y = some M) (hq : pm_lk pc M.2.2.2.2.2.2 = some (3, .ifCond .eq off)) (hp : pc + 3 = pc2) (ht : (pc : Int) + off = Int.ofNat tgt) (kt : pm_Ev sl xs d y tgt L st (sh, h) = A) (kf : pm_Ev sl xs d y pc2 L st (sh, h) = B): pm_Ev sl xs d y pc L (.int x :: st) (sh, h) = if x = 0 then A else B := by
  subst hp
  rw [pm_Ev_eq hM hq]
  unfold pm_F pm_j
  dsimp only [pm_pi]
  rw [ht]
  show (if x = 0 then _ else _) = _
  rw [← kt, ← kf]
theorem e_icmp_eq {B : Option pmR} {off : Int} {tgt : Nat} {x y2 : Int32} (hM : pm_mt y = some M) (hq : pm_lk pc M.2.2.2.2.2.2 = some (3, .if_icmp .eq off)) (hp : pc + 3 = pc2) (ht : (pc : Int) + off = Int.ofNat tgt) (kt : pm_Ev sl xs d y tgt L st (sh, h) = A) (kf : pm_Ev sl xs d y pc2 L st (sh, h) = B): pm_Ev sl xs d y pc L (.int y2 :: .int x :: st) (sh, h) = if x = y2 then A else B := by
  subst hp
  rw [pm_Ev_eq hM hq]
  unfold pm_F pm_j
  dsimp only [pm_pi]
  rw [ht]
  show (if x = y2 then _ else _) = _
  rw [← kt, ← kf]
theorem e_if_ne {B : Option pmR} {off : Int} {tgt : Nat} {x : Int32} (hM : pm_mt y = some M) (hq : pm_lk pc M.2.2.2.2.2.2 = some (3, .ifCond .ne off)) (hp : pc + 3 = pc2) (ht : (pc : Int) + off = Int.ofNat tgt) (kt : pm_Ev sl xs d y tgt L st (sh, h) = A) (kf : pm_Ev sl xs d y pc2 L st (sh, h) = B): pm_Ev sl xs d y pc L (.int x :: st) (sh, h) = if x = 0 then B else A := by
  subst hp
  rw [pm_Ev_eq hM hq]
  unfold pm_F pm_j
  dsimp only [pm_pi]
  rw [ht]
  show (if x = 0 then _ else _) = _
  rw [← kt, ← kf]
theorem e_icmp_ne {B : Option pmR} {off : Int} {tgt : Nat} {x y2 : Int32} (hM : pm_mt y = some M) (hq : pm_lk pc M.2.2.2.2.2.2 = some (3, .if_icmp .ne off)) (hp : pc + 3 = pc2) (ht : (pc : Int) + off = Int.ofNat tgt) (kt : pm_Ev sl xs d y tgt L st (sh, h) = A) (kf : pm_Ev sl xs d y pc2 L st (sh, h) = B): pm_Ev sl xs d y pc L (.int y2 :: .int x :: st) (sh, h) = if x = y2 then B else A := by
  subst hp
  rw [pm_Ev_eq hM hq]
  unfold pm_F pm_j
  dsimp only [pm_pi]
  rw [ht]
  show (if x = y2 then _ else _) = _
  rw [← kt, ← kf]
theorem e_if_lt {B : Option pmR} {off : Int} {tgt : Nat} {x : Int32} (hM : pm_mt y = some M) (hq : pm_lk pc M.2.2.2.2.2.2 = some (3, .ifCond .lt off)) (hp : pc + 3 = pc2) (ht : (pc : Int) + off = Int.ofNat tgt) (kt : pm_Ev sl xs d y tgt L st (sh, h) = A) (kf : pm_Ev sl xs d y pc2 L st (sh, h) = B): pm_Ev sl xs d y pc L (.int x :: st) (sh, h) = if x < 0 then A else B := by
  subst hp
  rw [pm_Ev_eq hM hq]
  unfold pm_F pm_j
  dsimp only [pm_pi]
  rw [ht]
  show (if x < 0 then _ else _) = _
  rw [← kt, ← kf]
theorem e_icmp_lt {B : Option pmR} {off : Int} {tgt : Nat} {x y2 : Int32} (hM : pm_mt y = some M) (hq : pm_lk pc M.2.2.2.2.2.2 = some (3, .if_icmp .lt off)) (hp : pc + 3 = pc2) (ht : (pc : Int) + off = Int.ofNat tgt) (kt : pm_Ev sl xs d y tgt L st (sh, h) = A) (kf : pm_Ev sl xs d y pc2 L st (sh, h) = B): pm_Ev sl xs d y pc L (.int y2 :: .int x :: st) (sh, h) = if x < y2 then A else B := by
  subst hp
  rw [pm_Ev_eq hM hq]
  unfold pm_F pm_j
  dsimp only [pm_pi]
  rw [ht]
  show (if x < y2 then _ else _) = _
  rw [← kt, ← kf]
theorem e_if_ge {B : Option pmR} {off : Int} {tgt : Nat} {x : Int32} (hM : pm_mt y = some M) (hq : pm_lk pc M.2.2.2.2.2.2 = some (3, .ifCond .ge off)) (hp : pc + 3 = pc2) (ht : (pc : Int) + off = Int.ofNat tgt) (kt : pm_Ev sl xs d y tgt L st (sh, h) = A) (kf : pm_Ev sl xs d y pc2 L st (sh, h) = B): pm_Ev sl xs d y pc L (.int x :: st) (sh, h) = if 0 ≤ x then A else B := by
  subst hp
  rw [pm_Ev_eq hM hq]
  unfold pm_F pm_j
  dsimp only [pm_pi]
  rw [ht]
  show (if 0 ≤ x then _ else _) = _
  rw [← kt, ← kf]
theorem e_icmp_ge {B : Option pmR} {off : Int} {tgt : Nat} {x y2 : Int32} (hM : pm_mt y = some M) (hq : pm_lk pc M.2.2.2.2.2.2 = some (3, .if_icmp .ge off)) (hp : pc + 3 = pc2) (ht : (pc : Int) + off = Int.ofNat tgt) (kt : pm_Ev sl xs d y tgt L st (sh, h) = A) (kf : pm_Ev sl xs d y pc2 L st (sh, h) = B): pm_Ev sl xs d y pc L (.int y2 :: .int x :: st) (sh, h) = if y2 ≤ x then A else B := by
  subst hp
  rw [pm_Ev_eq hM hq]
  unfold pm_F pm_j
  dsimp only [pm_pi]
  rw [ht]
  show (if y2 ≤ x then _ else _) = _
  rw [← kt, ← kf]
theorem e_if_gt {B : Option pmR} {off : Int} {tgt : Nat} {x : Int32} (hM : pm_mt y = some M) (hq : pm_lk pc M.2.2.2.2.2.2 = some (3, .ifCond .gt off)) (hp : pc + 3 = pc2) (ht : (pc : Int) + off = Int.ofNat tgt) (kt : pm_Ev sl xs d y tgt L st (sh, h) = A) (kf : pm_Ev sl xs d y pc2 L st (sh, h) = B): pm_Ev sl xs d y pc L (.int x :: st) (sh, h) = if 0 < x then A else B := by
  subst hp
  rw [pm_Ev_eq hM hq]
  unfold pm_F pm_j
  dsimp only [pm_pi]
  rw [ht]
  show (if 0 < x then _ else _) = _
  rw [← kt, ← kf]
theorem e_icmp_gt {B : Option pmR} {off : Int} {tgt : Nat} {x y2 : Int32} (hM : pm_mt y = some M) (hq : pm_lk pc M.2.2.2.2.2.2 = some (3, .if_icmp .gt off)) (hp : pc + 3 = pc2) (ht : (pc : Int) + off = Int.ofNat tgt) (kt : pm_Ev sl xs d y tgt L st (sh, h) = A) (kf : pm_Ev sl xs d y pc2 L st (sh, h) = B): pm_Ev sl xs d y pc L (.int y2 :: .int x :: st) (sh, h) = if y2 < x then A else B := by
  subst hp
  rw [pm_Ev_eq hM hq]
  unfold pm_F pm_j
  dsimp only [pm_pi]
  rw [ht]
  show (if y2 < x then _ else _) = _
  rw [← kt, ← kf]
theorem e_if_le {B : Option pmR} {off : Int} {tgt : Nat} {x : Int32} (hM : pm_mt y = some M) (hq : pm_lk pc M.2.2.2.2.2.2 = some (3, .ifCond .le off)) (hp : pc + 3 = pc2) (ht : (pc : Int) + off = Int.ofNat tgt) (kt : pm_Ev sl xs d y tgt L st (sh, h) = A) (kf : pm_Ev sl xs d y pc2 L st (sh, h) = B): pm_Ev sl xs d y pc L (.int x :: st) (sh, h) = if x ≤ 0 then A else B := by
  subst hp
  rw [pm_Ev_eq hM hq]
  unfold pm_F pm_j
  dsimp only [pm_pi]
  rw [ht]
  show (if x ≤ 0 then _ else _) = _
  rw [← kt, ← kf]
theorem e_icmp_le {B : Option pmR} {off : Int} {tgt : Nat} {x y2 : Int32} (hM : pm_mt y = some M) (hq : pm_lk pc M.2.2.2.2.2.2 = some (3, .if_icmp .le off)) (hp : pc + 3 = pc2) (ht : (pc : Int) + off = Int.ofNat tgt) (kt : pm_Ev sl xs d y tgt L st (sh, h) = A) (kf : pm_Ev sl xs d y pc2 L st (sh, h) = B): pm_Ev sl xs d y pc L (.int y2 :: .int x :: st) (sh, h) = if x ≤ y2 then A else B := by
  subst hp
  rw [pm_Ev_eq hM hq]
  unfold pm_F pm_j
  dsimp only [pm_pi]
  rw [ht]
  show (if x ≤ y2 then _ else _) = _
  rw [← kt, ← kf]
theorem e_switch {dflt lo hi : Int} {offs : Array Int} {len : Nat} {x : Int32} (hM : pm_mt y = some M) (hq : pm_lk pc M.2.2.2.2.2.2 = some (len, .tableswitch dflt lo hi offs)) (hb : (decide (lo = 0) && decide (hi + 1 = offs.toList.length) && decide (offs.toList.length ≤ 1000)) = true) (kk : pm_sw none pc x (fun t => pm_Ev sl xs d y t L st (sh, h)) dflt 0 offs.toList = A): pm_Ev sl xs d y pc L (.int x :: st) (sh, h) = A := by
  rw [pm_Ev_eq hM hq]
  unfold pm_F
  dsimp only [pm_pi]
  rw [hb]
  exact kk
theorem s_cons {x : Int32} {f : Nat → Option pmR} {dflt off : Int} {tgt i : Nat} {t : List Int} {B : Option pmR} (ht : (pc : Int) + off = Int.ofNat tgt) (kt : f tgt = A) (kf : pm_sw none pc x f dflt (i + 1) t = B): pm_sw none pc x f dflt i (off :: t) = if x = nI i then A else B := by
  rw [← kt, ← kf]
  show (if x = nI i then pm_j none pc off f else _) = _
  unfold pm_j
  rw [ht]
theorem s_nil {x : Int32} {f : Nat → Option pmR} {dflt : Int} {tgt i : Nat} (ht : (pc : Int) + dflt = Int.ofNat tgt) (kt : f tgt = A): pm_sw none pc x f dflt i [] = A := by
  rw [← kt]
  show pm_j none pc dflt f = _
  unfold pm_j
  rw [ht]
theorem e_getfi {i ci j k : Nat} {fl : List (Option (Option Nat))} {v : Int32} (hM : pm_mt y = some M) (hq : pm_lk pc M.2.2.2.2.2.2 = some (3, .getfield i)) (hp : pc + 3 = pc2) (hf : pm_lk i (pm_flL M.2.2.2.2.1) = some (ci, j)) (hs : sh[k]? = some (2, ci, fl)) (hfl : fl[j]? = some none) (hv : h k j = v) (kk : pm_Ev sl xs d y pc2 L (.int v :: st) (sh, h) = A): pm_Ev sl xs d y pc L (.ref (k + 1) :: st) (sh, h) = A := by
  subst hp
  rw [pm_Ev_eq hM hq]
  subst hv
  unfold pm_F pm_ob
  dsimp only [pm_pr]
  rw [hf]
  dsimp only [pm_o]
  rw [hs]
  dsimp only
  rw [show (Nat.beq 2 2 && Nat.beq ci ci) = true by rw [Nat.beq_refl, Nat.beq_refl]; rfl]
  dsimp only
  rw [hfl]
  exact kk
theorem e_getfr {i ci j k : Nat} {fl : List (Option (Option Nat))} {b : Nat} (hM : pm_mt y = some M) (hq : pm_lk pc M.2.2.2.2.2.2 = some (3, .getfield i)) (hp : pc + 3 = pc2) (hf : pm_lk i (pm_flL M.2.2.2.2.1) = some (ci, j)) (hs : sh[k]? = some (2, ci, fl)) (hfl : fl[j]? = some (some (some b))) (kk : pm_Ev sl xs d y pc2 L (.ref b :: st) (sh, h) = A): pm_Ev sl xs d y pc L (.ref (k + 1) :: st) (sh, h) = A := by
  subst hp
  rw [pm_Ev_eq hM hq]
  unfold pm_F pm_ob
  dsimp only [pm_pr]
  rw [hf]
  dsimp only [pm_o]
  rw [hs]
  dsimp only
  rw [show (Nat.beq 2 2 && Nat.beq ci ci) = true by rw [Nat.beq_refl, Nat.beq_refl]; rfl]
  dsimp only
  rw [hfl]
  exact kk
theorem e_putf {i ci j k : Nat} {fl : List (Option (Option Nat))} {x : Int32} (hM : pm_mt y = some M) (hq : pm_lk pc M.2.2.2.2.2.2 = some (3, .putfield i)) (hp : pc + 3 = pc2) (hf : pm_lk i (pm_flL M.2.2.2.2.1) = some (ci, j)) (hs : sh[k]? = some (2, ci, fl)) (hf0 : (pm_f0 ci)[j]? = some none) (hfl : fl[j]? = some none) (kk : pm_Ev sl xs d y pc2 L st (sh, pm_up h k j x) = A): pm_Ev sl xs d y pc L (.int x :: .ref (k + 1) :: st) (sh, h) = A := by
  subst hp
  rw [pm_Ev_eq hM hq]
  unfold pm_F pm_ob pm_p1
  dsimp only [pm_pr]
  rw [hf]
  dsimp only [pm_o]
  rw [hs]
  rw [show Nat.beq (Value.int x).category 1 = true from rfl]
  dsimp only
  rw [show (Nat.beq 2 2 && Nat.beq ci ci) = true by rw [Nat.beq_refl, Nat.beq_refl]; rfl]
  dsimp only
  rw [hf0, hfl]
  exact kk
theorem e_iald {k n : Nat} {fl : List (Option (Option Nat))} {i : Int32} {V : Nat → Int32} {F : Nat → Option pmR} (hM : pm_mt y = some M) (hq : pm_lk pc M.2.2.2.2.2.2 = some (1, .iaload)) (hp : pc + 1 = pc2) (hs : sh[k]? = some (0, n, fl)) (hv : ∀ j, h k j = V j) (kk : ∀ j, pm_Ev sl xs d y pc2 L (.int (V j) :: st) (sh, h) = F j): pm_Ev sl xs d y pc L (.int i :: .ref (k + 1) :: st) (sh, h) = pm_ix none i n F := by
  subst hp
  rw [pm_Ev_eq hM hq]
  show pm_ar none sh 0 (k + 1) (fun c n => pm_ix none i n fun j => pm_Ev sl xs d y (pc + 1) L (.int (h c j) :: st) (sh, h)) = _
  rw [pm_ar_ok hs]
  congr 1
  funext j
  rw [hv]
  exact kk j
theorem e_bald {k n : Nat} {fl : List (Option (Option Nat))} {i : Int32} {V : Nat → Int32} {F : Nat → Option pmR} (hM : pm_mt y = some M) (hq : pm_lk pc M.2.2.2.2.2.2 = some (1, .baload)) (hp : pc + 1 = pc2) (hs : sh[k]? = some (1, n, fl)) (hv : ∀ j, h k j = V j) (kk : ∀ j, pm_Ev sl xs d y pc2 L (.int (V j) :: st) (sh, h) = F j): pm_Ev sl xs d y pc L (.int i :: .ref (k + 1) :: st) (sh, h) = pm_ix none i n F := by
  subst hp
  rw [pm_Ev_eq hM hq]
  show pm_ar none sh 1 (k + 1) (fun c n => pm_ix none i n fun j => pm_Ev sl xs d y (pc + 1) L (.int (h c j) :: st) (sh, h)) = _
  rw [pm_ar_ok hs]
  congr 1
  funext j
  rw [hv]
  exact kk j
theorem e_sld {i : Int32} {F : Nat → Option pmR} (hM : pm_mt y = some M) (hq : pm_lk pc M.2.2.2.2.2.2 = some (1, .iaload)) (hp : pc + 1 = pc2) (kk : ∀ j, pm_Ev sl xs d y pc2 L (.int (xs j) :: st) (sh, h) = F j): pm_Ev sl xs d y pc L (.int i :: .ref 0 :: st) (sh, h) = pm_ix none i sl F := by
  subst hp
  rw [pm_Ev_eq hM hq]
  show pm_ix none i sl (fun j => pm_Ev sl xs d y (pc + 1) L (.int (xs j) :: st) (sh, h)) = _
  congr 1
  funext j
  exact kk j
theorem e_slen (hM : pm_mt y = some M) (hq : pm_lk pc M.2.2.2.2.2.2 = some (1, .arraylength)) (hp : pc + 1 = pc2) (kk : pm_Ev sl xs d y pc2 L (.int (nI sl) :: st) (sh, h) = A): pm_Ev sl xs d y pc L (.ref 0 :: st) (sh, h) = A := by
  subst hp
  rw [pm_Ev_eq hM hq]
  exact kk
theorem e_alen {k n : Nat} {fl : List (Option (Option Nat))} (hM : pm_mt y = some M) (hq : pm_lk pc M.2.2.2.2.2.2 = some (1, .arraylength)) (hp : pc + 1 = pc2) (hs : sh[k]? = some (0, n, fl)) (kk : pm_Ev sl xs d y pc2 L (.int (nI n) :: st) (sh, h) = A): pm_Ev sl xs d y pc L (.ref (k + 1) :: st) (sh, h) = A := by
  subst hp
  rw [pm_Ev_eq hM hq]
  show pm_ar none sh 0 (k + 1) (fun _ n => pm_Ev sl xs d y (pc + 1) L (.int (nI n) :: st) (sh, h)) = _
  rw [pm_ar_ok hs]
  exact kk
theorem e_iast {k n : Nat} {fl : List (Option (Option Nat))} {i x : Int32} {F : Nat → Option pmR} (hM : pm_mt y = some M) (hq : pm_lk pc M.2.2.2.2.2.2 = some (1, .iastore)) (hp : pc + 1 = pc2) (hs : sh[k]? = some (0, n, fl)) (kk : ∀ j, pm_Ev sl xs d y pc2 L st (sh, pm_up h k j x) = F j): pm_Ev sl xs d y pc L (.int x :: .int i :: .ref (k + 1) :: st) (sh, h) = pm_ix none i n F := by
  subst hp
  rw [pm_Ev_eq hM hq]
  show pm_ar none sh 0 (k + 1) (fun c n => pm_ix none i n fun j => pm_Ev sl xs d y (pc + 1) L st (sh, pm_up h c j x)) = _
  rw [pm_ar_ok hs]
  congr 1
  funext j
  exact kk j
theorem e_bast {k n : Nat} {fl : List (Option (Option Nat))} {i x : Int32} {F : Nat → Option pmR} (hM : pm_mt y = some M) (hq : pm_lk pc M.2.2.2.2.2.2 = some (1, .bastore)) (hp : pc + 1 = pc2) (hs : sh[k]? = some (1, n, fl)) (hx : x = 0 ∨ x = 1) (kk : ∀ j, pm_Ev sl xs d y pc2 L st (sh, pm_up h k j x) = F j): pm_Ev sl xs d y pc L (.int x :: .int i :: .ref (k + 1) :: st) (sh, h) = pm_ix none i n F := by
  subst hp
  rw [pm_Ev_eq hM hq]
  show pm_ar none sh 1 (k + 1) (fun c n => pm_ix none i n fun j => if x = 0 ∨ x = 1 then pm_Ev sl xs d y (pc + 1) L st (sh, pm_up h c j x) else none) = _
  rw [pm_ar_ok hs]
  congr 1
  funext j
  rw [if_pos hx]
  exact kk j
theorem e_cvi {i y2 na oc k : Nat} {fl : List (Option (Option Nat))} {S As rest : List Value} {F : Int32 → pmH → Option pmR} (hM : pm_mt y = some M) (hq : pm_lk pc M.2.2.2.2.2.2 = some (3, .invokevirtual i)) (hp : pc + 3 = pc2) (hv : pm_lk i (pm_mvL M.2.2.2.2.1) = some (y2, na, 1, oc)) (hd : S.drop na = .ref (k + 1) :: rest) (hA : .ref (k + 1) :: (S.take na).reverse = As) (hs : sh[k]? = some (2, oc, fl)) (hb : Nat.ble (pm_cs rest) 8 = true) (kk : ∀ x h2, pm_Ev sl xs d y pc2 L (.int x :: rest) (sh, h2) = F x h2): pm_Ev sl xs d y pc L S (sh, h) = pm_ri (pm_cf (pm_Ev sl xs) d y2 As (sh, h)) sh F := by
  subst hp
  rw [pm_Ev_eq hM hq]
  show pm_o none (pm_lk i (pm_mvL M.2.2.2.2.1)) (fun q => pm_pr none (S.drop q.2.1) fun a rest => pm_ob none sh q.2.2.2 a fun _ _ => pm_b none (Nat.ble (pm_cs rest) 8) (pm_cl (pm_cf (pm_Ev sl xs) d) (pm_Ev sl xs d y) q.1 q.2.2.1 (.ref a :: (S.take q.2.1).reverse) (sh, h) (pc + 3) L rest)) = _
  rw [hv]
  show pm_pr none (S.drop na) (fun a rest => pm_ob none sh oc a fun _ _ => pm_b none (Nat.ble (pm_cs rest) 8) (pm_cl (pm_cf (pm_Ev sl xs) d) (pm_Ev sl xs d y) y2 1 (.ref a :: (S.take na).reverse) (sh, h) (pc + 3) L rest)) = _
  rw [hd]
  show pm_ob none sh oc (k + 1) (fun _ _ => pm_b none (Nat.ble (pm_cs rest) 8) (pm_cl (pm_cf (pm_Ev sl xs) d) (pm_Ev sl xs d y) y2 1 (.ref (k + 1) :: (S.take na).reverse) (sh, h) (pc + 3) L rest)) = _
  rw [pm_ob_ok hs, hb, hA]
  show pm_ri (pm_cf (pm_Ev sl xs) d y2 As (sh, h)) sh (fun x h2 => pm_Ev sl xs d y (pc + 3) L (.int x :: rest) (sh, h2)) = _
  congr 1
  funext x h2
  exact kk x h2
theorem e_cvv {i y2 na oc k : Nat} {fl : List (Option (Option Nat))} {S As rest : List Value} {F : pmH → Option pmR} (hM : pm_mt y = some M) (hq : pm_lk pc M.2.2.2.2.2.2 = some (3, .invokevirtual i)) (hp : pc + 3 = pc2) (hv : pm_lk i (pm_mvL M.2.2.2.2.1) = some (y2, na, 0, oc)) (hd : S.drop na = .ref (k + 1) :: rest) (hA : .ref (k + 1) :: (S.take na).reverse = As) (hs : sh[k]? = some (2, oc, fl)) (hb : Nat.ble (pm_cs rest) 8 = true) (kk : ∀ h2, pm_Ev sl xs d y pc2 L rest (sh, h2) = F h2): pm_Ev sl xs d y pc L S (sh, h) = pm_rv (pm_cf (pm_Ev sl xs) d y2 As (sh, h)) sh F := by
  subst hp
  rw [pm_Ev_eq hM hq]
  show pm_o none (pm_lk i (pm_mvL M.2.2.2.2.1)) (fun q => pm_pr none (S.drop q.2.1) fun a rest => pm_ob none sh q.2.2.2 a fun _ _ => pm_b none (Nat.ble (pm_cs rest) 8) (pm_cl (pm_cf (pm_Ev sl xs) d) (pm_Ev sl xs d y) q.1 q.2.2.1 (.ref a :: (S.take q.2.1).reverse) (sh, h) (pc + 3) L rest)) = _
  rw [hv]
  show pm_pr none (S.drop na) (fun a rest => pm_ob none sh oc a fun _ _ => pm_b none (Nat.ble (pm_cs rest) 8) (pm_cl (pm_cf (pm_Ev sl xs) d) (pm_Ev sl xs d y) y2 0 (.ref a :: (S.take na).reverse) (sh, h) (pc + 3) L rest)) = _
  rw [hd]
  show pm_ob none sh oc (k + 1) (fun _ _ => pm_b none (Nat.ble (pm_cs rest) 8) (pm_cl (pm_cf (pm_Ev sl xs) d) (pm_Ev sl xs d y) y2 0 (.ref (k + 1) :: (S.take na).reverse) (sh, h) (pc + 3) L rest)) = _
  rw [pm_ob_ok hs, hb, hA]
  show pm_rv (pm_cf (pm_Ev sl xs) d y2 As (sh, h)) sh (fun h2 => pm_Ev sl xs d y (pc + 3) L rest (sh, h2)) = _
  congr 1
  funext h2
  exact kk h2
theorem e_csi {i y2 na oc k : Nat} {fl : List (Option (Option Nat))} {S As rest : List Value} {F : Int32 → pmH → Option pmR} (hM : pm_mt y = some M) (hq : pm_lk pc M.2.2.2.2.2.2 = some (3, .invokestatic i)) (hp : pc + 3 = pc2) (hn : pm_lk i (pm_mxL M.2.2.2.2.1) = none) (hv : pm_lk i (pm_msL M.2.2.2.2.1 ++ pm_mnL M.2.2.2.2.1) = some (y2, na, 1, oc)) (hd : S.drop na = rest) (hA : (S.take na).reverse = As) (hb : (Nat.ble na S.length && Nat.ble (pm_cs rest) 8) = true) (kk : ∀ x h2, pm_Ev sl xs d y pc2 L (.int x :: rest) (sh, h2) = F x h2): pm_Ev sl xs d y pc L S (sh, h) = pm_ri (pm_cf (pm_Ev sl xs) d y2 As (sh, h)) sh F := by
  subst hp
  rw [pm_Ev_eq hM hq]
  subst hd
  show (match pm_lk i (pm_mxL M.2.2.2.2.1) with
      | some 0 => _
      | some _ => _
      | none => pm_o none (pm_lk i (pm_msL M.2.2.2.2.1 ++ pm_mnL M.2.2.2.2.1)) fun q => pm_b none (Nat.ble q.2.1 S.length && Nat.ble (pm_cs (S.drop q.2.1)) 8) (pm_cl (pm_cf (pm_Ev sl xs) d) (pm_Ev sl xs d y) q.1 q.2.2.1 (S.take q.2.1).reverse (sh, h) (pc + 3) L (S.drop q.2.1))) = _
  rw [hn]
  dsimp only
  rw [hv]
  show pm_b none (Nat.ble na S.length && Nat.ble (pm_cs (S.drop na)) 8) (pm_cl (pm_cf (pm_Ev sl xs) d) (pm_Ev sl xs d y) y2 1 (S.take na).reverse (sh, h) (pc + 3) L (S.drop na)) = _
  rw [hb, hA]
  show pm_ri (pm_cf (pm_Ev sl xs) d y2 As (sh, h)) sh (fun x h2 => pm_Ev sl xs d y (pc + 3) L (.int x :: (S.drop na)) (sh, h2)) = _
  congr 1
  funext x h2
  exact kk x h2
theorem e_csv {i y2 na oc k : Nat} {fl : List (Option (Option Nat))} {S As rest : List Value} {F : pmH → Option pmR} (hM : pm_mt y = some M) (hq : pm_lk pc M.2.2.2.2.2.2 = some (3, .invokestatic i)) (hp : pc + 3 = pc2) (hn : pm_lk i (pm_mxL M.2.2.2.2.1) = none) (hv : pm_lk i (pm_msL M.2.2.2.2.1 ++ pm_mnL M.2.2.2.2.1) = some (y2, na, 0, oc)) (hd : S.drop na = rest) (hA : (S.take na).reverse = As) (hb : (Nat.ble na S.length && Nat.ble (pm_cs rest) 8) = true) (kk : ∀ h2, pm_Ev sl xs d y pc2 L rest (sh, h2) = F h2): pm_Ev sl xs d y pc L S (sh, h) = pm_rv (pm_cf (pm_Ev sl xs) d y2 As (sh, h)) sh F := by
  subst hp
  rw [pm_Ev_eq hM hq]
  subst hd
  show (match pm_lk i (pm_mxL M.2.2.2.2.1) with
      | some 0 => _
      | some _ => _
      | none => pm_o none (pm_lk i (pm_msL M.2.2.2.2.1 ++ pm_mnL M.2.2.2.2.1)) fun q => pm_b none (Nat.ble q.2.1 S.length && Nat.ble (pm_cs (S.drop q.2.1)) 8) (pm_cl (pm_cf (pm_Ev sl xs) d) (pm_Ev sl xs d y) q.1 q.2.2.1 (S.take q.2.1).reverse (sh, h) (pc + 3) L (S.drop q.2.1))) = _
  rw [hn]
  dsimp only
  rw [hv]
  show pm_b none (Nat.ble na S.length && Nat.ble (pm_cs (S.drop na)) 8) (pm_cl (pm_cf (pm_Ev sl xs) d) (pm_Ev sl xs d y) y2 0 (S.take na).reverse (sh, h) (pc + 3) L (S.drop na)) = _
  rw [hb, hA]
  show pm_rv (pm_cf (pm_Ev sl xs) d y2 As (sh, h)) sh (fun h2 => pm_Ev sl xs d y (pc + 3) L (S.drop na) (sh, h2)) = _
  congr 1
  funext h2
  exact kk h2
theorem e_max {i : Nat} {x y2 : Int32} (hM : pm_mt y = some M) (hq : pm_lk pc M.2.2.2.2.2.2 = some (3, .invokestatic i)) (hp : pc + 3 = pc2) (hn : pm_lk i (pm_mxL M.2.2.2.2.1) = some 0) (hb : (pm_hd d && Nat.ble (pm_cs st) 8) = true) (kk : pm_Ev sl xs d y pc2 L (.int (if x < y2 then y2 else x) :: st) (sh, h) = A): pm_Ev sl xs d y pc L (.int y2 :: .int x :: st) (sh, h) = A := by
  subst hp
  rw [pm_Ev_eq hM hq]
  unfold pm_F
  dsimp only
  rw [hn]
  dsimp only [pm_pi]
  rw [hb]
  exact kk
theorem e_min {i : Nat} {x y2 : Int32} (hM : pm_mt y = some M) (hq : pm_lk pc M.2.2.2.2.2.2 = some (3, .invokestatic i)) (hp : pc + 3 = pc2) (hn : pm_lk i (pm_mxL M.2.2.2.2.1) = some 1) (hb : (pm_hd d && Nat.ble (pm_cs st) 8) = true) (kk : pm_Ev sl xs d y pc2 L (.int (if y2 < x then y2 else x) :: st) (sh, h) = A): pm_Ev sl xs d y pc L (.int y2 :: .int x :: st) (sh, h) = A := by
  subst hp
  rw [pm_Ev_eq hM hq]
  unfold pm_F
  dsimp only
  rw [hn]
  dsimp only [pm_pi]
  rw [hb]
  exact kk
theorem e_iret {x : Int32} (hM : pm_mt y = some M) (hq : pm_lk pc M.2.2.2.2.2.2 = some (1, .ireturn)) (hr : M.2.2.2.1 = some .int): pm_Ev sl xs d y pc L [.int x] (sh, h) = some (some (.int x), (sh, h)) := by
  rw [pm_Ev_eq hM hq]
  unfold pm_F pm_rt
  dsimp only [pm_pi]
  rw [hr]
theorem e_zret {x : Int32} (hM : pm_mt y = some M) (hq : pm_lk pc M.2.2.2.2.2.2 = some (1, .ireturn)) (hr : M.2.2.2.1 = some .boolean) (hx : x = 0 ∨ x = 1): pm_Ev sl xs d y pc L [.int x] (sh, h) = some (some (.int x), (sh, h)) := by
  rw [pm_Ev_eq hM hq]
  unfold pm_F pm_rt
  dsimp only [pm_pi]
  rw [hr]
  exact if_pos hx
theorem e_zretX {x : Int32} (hM : pm_mt y = some M) (hq : pm_lk pc M.2.2.2.2.2.2 = some (1, .ireturn)) (hr : M.2.2.2.1 = some .boolean): pm_Ev sl xs d y pc L [.int x] (sh, h) = if x = 0 ∨ x = 1 then some (some (.int x), (sh, h)) else none := by
  rw [pm_Ev_eq hM hq]
  unfold pm_F pm_rt
  dsimp only [pm_pi]
  rw [hr]
theorem e_ret (hM : pm_mt y = some M) (hq : pm_lk pc M.2.2.2.2.2.2 = some (1, .return_)) (hr : M.2.2.2.1 = none): pm_Ev sl xs d y pc L [] (sh, h) = some (none, (sh, h)) := by
  rw [pm_Ev_eq hM hq]
  unfold pm_F
  dsimp only
  rw [hr]
theorem e_call {as : List Value} (hM : pm_mt y = some M) (hc : (pm_c11 as && Nat.ble as.length M.2.2.1) = true) (hL : pm_en M.2.2.1 as = L) (kk : pm_Ev sl xs d y 0 L [] (sh, h) = A): pm_cf (pm_Ev sl xs) (d + 1) y as (sh, h) = A := by
  unfold pm_cf
  dsimp only
  rw [hM]
  dsimp only [pm_o]
  rw [hc, hL]
  exact kk
theorem pm_01a : nI 0 = 0 ∨ nI 0 = 1 := Or.inl rfl
theorem pm_01b : nI 1 = 0 ∨ nI 1 = 1 := Or.inr rfl
end PME2
end
