section
-- ===== PART A: goes FIRST, ahead of the names: the tables' words, and 'selects' of the private methods out of them =====
/-- a private method of a class that the tables say can be made, by its rows of tables_1 -/
def lw_okq (q : MethodName × Nat) : Prop := (q.1.cls ≠ "java/lang/invoke/MethodHandle" ∧ q.1.cls ≠ "java/lang/invoke/VarHandle") ∧ Cond.instantiable q.1.cls q.2 ∈ tables_1 ∧ Cond.privateMethod q.1 ∈ tables_1 ∧ Cond.instanceMethod q.1 ∈ tables_1
theorem lw_p0 : lw_okq (⟨"LampFeast", "finding", "(I)I"⟩, 8) := ⟨⟨by decide +kernel, by decide +kernel⟩, List.mem_of_getElem? (i := 13) (by decide +kernel), List.mem_of_getElem? (i := 283) (by decide +kernel), List.mem_of_getElem? (i := 284) (by decide +kernel)⟩
theorem lw_p1 : lw_okq (⟨"LampFeast", "isUp", "(II)Z"⟩, 8) := ⟨⟨by decide +kernel, by decide +kernel⟩, List.mem_of_getElem? (i := 13) (by decide +kernel), List.mem_of_getElem? (i := 300) (by decide +kernel), List.mem_of_getElem? (i := 301) (by decide +kernel)⟩
theorem lw_p2 : lw_okq (⟨"LampFeast", "darkNow", "(I)Z"⟩, 8) := ⟨⟨by decide +kernel, by decide +kernel⟩, List.mem_of_getElem? (i := 13) (by decide +kernel), List.mem_of_getElem? (i := 349) (by decide +kernel), List.mem_of_getElem? (i := 350) (by decide +kernel)⟩
theorem lw_p3 : lw_okq (⟨"LampFeast$Branches", "surveyDark", "()V"⟩, 7) := ⟨⟨by decide +kernel, by decide +kernel⟩, List.mem_of_getElem? (i := 122) (by decide +kernel), List.mem_of_getElem? (i := 357) (by decide +kernel), List.mem_of_getElem? (i := 358) (by decide +kernel)⟩
theorem lw_p4 : lw_okq (⟨"LampFeast$Branches", "surveyLoads", "()V"⟩, 7) := ⟨⟨by decide +kernel, by decide +kernel⟩, List.mem_of_getElem? (i := 122) (by decide +kernel), List.mem_of_getElem? (i := 361) (by decide +kernel), List.mem_of_getElem? (i := 362) (by decide +kernel)⟩
theorem lw_p5 : lw_okq (⟨"LampFeast$Branches", "surveyFalls", "()V"⟩, 7) := ⟨⟨by decide +kernel, by decide +kernel⟩, List.mem_of_getElem? (i := 122) (by decide +kernel), List.mem_of_getElem? (i := 369) (by decide +kernel), List.mem_of_getElem? (i := 370) (by decide +kernel)⟩
theorem lw_p6 : lw_okq (⟨"LampFeast$Branches", "lastOverloaded", "()I"⟩, 7) := ⟨⟨by decide +kernel, by decide +kernel⟩, List.mem_of_getElem? (i := 122) (by decide +kernel), List.mem_of_getElem? (i := 412) (by decide +kernel), List.mem_of_getElem? (i := 413) (by decide +kernel)⟩
theorem lw_p7 : lw_okq (⟨"LampFeast$FuseSearch", "costWithFuse", "(I)I"⟩, 4) := ⟨⟨by decide +kernel, by decide +kernel⟩, List.mem_of_getElem? (i := 156) (by decide +kernel), List.mem_of_getElem? (i := 427) (by decide +kernel), List.mem_of_getElem? (i := 428) (by decide +kernel)⟩
theorem lw_p8 : lw_okq (⟨"LampFeast$FuseSearch", "joinToUp", "(III)V"⟩, 4) := ⟨⟨by decide +kernel, by decide +kernel⟩, List.mem_of_getElem? (i := 156) (by decide +kernel), List.mem_of_getElem? (i := 439) (by decide +kernel), List.mem_of_getElem? (i := 440) (by decide +kernel)⟩
theorem lw_p9 : lw_okq (⟨"LampFeast$FuseSearch", "costWithout", "(II)I"⟩, 4) := ⟨⟨by decide +kernel, by decide +kernel⟩, List.mem_of_getElem? (i := 156) (by decide +kernel), List.mem_of_getElem? (i := 443) (by decide +kernel), List.mem_of_getElem? (i := 444) (by decide +kernel)⟩
theorem lw_p10 : lw_okq (⟨"LampFeast$Nights", "clearNights", "()V"⟩, 10) := ⟨⟨by decide +kernel, by decide +kernel⟩, List.mem_of_getElem? (i := 176) (by decide +kernel), List.mem_of_getElem? (i := 521) (by decide +kernel), List.mem_of_getElem? (i := 522) (by decide +kernel)⟩
theorem lw_p11 : lw_okq (⟨"LampFeast$Nights", "endWith", "(I)I"⟩, 10) := ⟨⟨by decide +kernel, by decide +kernel⟩, List.mem_of_getElem? (i := 176) (by decide +kernel), List.mem_of_getElem? (i := 525) (by decide +kernel), List.mem_of_getElem? (i := 526) (by decide +kernel)⟩
theorem lw_p12 : lw_okq (⟨"LampFeast$Nights", "freeCrew", "(II)I"⟩, 10) := ⟨⟨by decide +kernel, by decide +kernel⟩, List.mem_of_getElem? (i := 176) (by decide +kernel), List.mem_of_getElem? (i := 534) (by decide +kernel), List.mem_of_getElem? (i := 535) (by decide +kernel)⟩
theorem lw_p13 : lw_okq (⟨"LampFeast$Nights", "tryFrom", "(III)V"⟩, 10) := ⟨⟨by decide +kernel, by decide +kernel⟩, List.mem_of_getElem? (i := 176) (by decide +kernel), List.mem_of_getElem? (i := 554) (by decide +kernel), List.mem_of_getElem? (i := 555) (by decide +kernel)⟩
theorem lw_p14 : lw_okq (⟨"LampFeast$Nights", "keepTrial", "(I)V"⟩, 10) := ⟨⟨by decide +kernel, by decide +kernel⟩, List.mem_of_getElem? (i := 176) (by decide +kernel), List.mem_of_getElem? (i := 558) (by decide +kernel), List.mem_of_getElem? (i := 559) (by decide +kernel)⟩
theorem lw_p15 : lw_okq (⟨"LampFeast$Nights", "takeDown", "(I)V"⟩, 10) := ⟨⟨by decide +kernel, by decide +kernel⟩, List.mem_of_getElem? (i := 176) (by decide +kernel), List.mem_of_getElem? (i := 562) (by decide +kernel), List.mem_of_getElem? (i := 563) (by decide +kernel)⟩
def lw_privs_1 : List (MethodName × Nat) := [(⟨"LampFeast", "finding", "(I)I"⟩, 8), (⟨"LampFeast", "isUp", "(II)Z"⟩, 8), (⟨"LampFeast", "darkNow", "(I)Z"⟩, 8), (⟨"LampFeast$Branches", "surveyDark", "()V"⟩, 7), (⟨"LampFeast$Branches", "surveyLoads", "()V"⟩, 7), (⟨"LampFeast$Branches", "surveyFalls", "()V"⟩, 7), (⟨"LampFeast$Branches", "lastOverloaded", "()I"⟩, 7), (⟨"LampFeast$FuseSearch", "costWithFuse", "(I)I"⟩, 4), (⟨"LampFeast$FuseSearch", "joinToUp", "(III)V"⟩, 4), (⟨"LampFeast$FuseSearch", "costWithout", "(II)I"⟩, 4), (⟨"LampFeast$Nights", "clearNights", "()V"⟩, 10), (⟨"LampFeast$Nights", "endWith", "(I)I"⟩, 10), (⟨"LampFeast$Nights", "freeCrew", "(II)I"⟩, 10), (⟨"LampFeast$Nights", "tryFrom", "(III)V"⟩, 10), (⟨"LampFeast$Nights", "keepTrial", "(I)V"⟩, 10), (⟨"LampFeast$Nights", "takeDown", "(I)V"⟩, 10)]
theorem lw_r1 : ∀ q ∈ lw_privs_1, lw_okq q := List.forall_mem_cons.mpr ⟨lw_p0, List.forall_mem_cons.mpr ⟨lw_p1, List.forall_mem_cons.mpr ⟨lw_p2, List.forall_mem_cons.mpr ⟨lw_p3, List.forall_mem_cons.mpr ⟨lw_p4, List.forall_mem_cons.mpr ⟨lw_p5, List.forall_mem_cons.mpr ⟨lw_p6, List.forall_mem_cons.mpr ⟨lw_p7, List.forall_mem_cons.mpr ⟨lw_p8, List.forall_mem_cons.mpr ⟨lw_p9, List.forall_mem_cons.mpr ⟨lw_p10, List.forall_mem_cons.mpr ⟨lw_p11, List.forall_mem_cons.mpr ⟨lw_p12, List.forall_mem_cons.mpr ⟨lw_p13, List.forall_mem_cons.mpr ⟨lw_p14, List.forall_mem_cons.mpr ⟨lw_p15, fun _ h => absurd h List.not_mem_nil⟩⟩⟩⟩⟩⟩⟩⟩⟩⟩⟩⟩⟩⟩⟩⟩
theorem lw_p16 : lw_okq (⟨"LampFeast$Bills", "allFronts", "()I"⟩, 2) := ⟨⟨by decide +kernel, by decide +kernel⟩, List.mem_of_getElem? (i := 221) (by decide +kernel), List.mem_of_getElem? (i := 583) (by decide +kernel), List.mem_of_getElem? (i := 584) (by decide +kernel)⟩
theorem lw_p17 : lw_okq (⟨"LampFeast", "countDead", "()I"⟩, 8) := ⟨⟨by decide +kernel, by decide +kernel⟩, List.mem_of_getElem? (i := 13) (by decide +kernel), List.mem_of_getElem? (i := 638) (by decide +kernel), List.mem_of_getElem? (i := 639) (by decide +kernel)⟩
theorem lw_p18 : lw_okq (⟨"LampFeast", "countDark", "()I"⟩, 8) := ⟨⟨by decide +kernel, by decide +kernel⟩, List.mem_of_getElem? (i := 13) (by decide +kernel), List.mem_of_getElem? (i := 642) (by decide +kernel), List.mem_of_getElem? (i := 643) (by decide +kernel)⟩
theorem lw_p19 : lw_okq (⟨"LampFeastModel", "finds", "(I)I"⟩, 37) := ⟨⟨by decide +kernel, by decide +kernel⟩, List.mem_of_getElem? (i := 650) (by decide +kernel), List.mem_of_getElem? (i := 775) (by decide +kernel), List.mem_of_getElem? (i := 776) (by decide +kernel)⟩
theorem lw_p20 : lw_okq (⟨"LampFeastModel", "isString", "(I)Z"⟩, 37) := ⟨⟨by decide +kernel, by decide +kernel⟩, List.mem_of_getElem? (i := 650) (by decide +kernel), List.mem_of_getElem? (i := 784) (by decide +kernel), List.mem_of_getElem? (i := 785) (by decide +kernel)⟩
theorem lw_p21 : lw_okq (⟨"LampFeastModel", "lampsLeft", "()I"⟩, 37) := ⟨⟨by decide +kernel, by decide +kernel⟩, List.mem_of_getElem? (i := 650) (by decide +kernel), List.mem_of_getElem? (i := 788) (by decide +kernel), List.mem_of_getElem? (i := 789) (by decide +kernel)⟩
theorem lw_p22 : lw_okq (⟨"LampFeastModel", "taken", "()I"⟩, 37) := ⟨⟨by decide +kernel, by decide +kernel⟩, List.mem_of_getElem? (i := 650) (by decide +kernel), List.mem_of_getElem? (i := 792) (by decide +kernel), List.mem_of_getElem? (i := 793) (by decide +kernel)⟩
theorem lw_p23 : lw_okq (⟨"LampFeastModel", "dies", "(I)V"⟩, 37) := ⟨⟨by decide +kernel, by decide +kernel⟩, List.mem_of_getElem? (i := 650) (by decide +kernel), List.mem_of_getElem? (i := 805) (by decide +kernel), List.mem_of_getElem? (i := 806) (by decide +kernel)⟩
theorem lw_p24 : lw_okq (⟨"LampFeastModel", "isDark", "(I)Z"⟩, 37) := ⟨⟨by decide +kernel, by decide +kernel⟩, List.mem_of_getElem? (i := 650) (by decide +kernel), List.mem_of_getElem? (i := 813) (by decide +kernel), List.mem_of_getElem? (i := 814) (by decide +kernel)⟩
theorem lw_p25 : lw_okq (⟨"LampFeastModel", "loadOf", "(I)I"⟩, 37) := ⟨⟨by decide +kernel, by decide +kernel⟩, List.mem_of_getElem? (i := 650) (by decide +kernel), List.mem_of_getElem? (i := 821) (by decide +kernel), List.mem_of_getElem? (i := 822) (by decide +kernel)⟩
theorem lw_p26 : lw_okq (⟨"LampFeastModel", "flow", "()V"⟩, 37) := ⟨⟨by decide +kernel, by decide +kernel⟩, List.mem_of_getElem? (i := 650) (by decide +kernel), List.mem_of_getElem? (i := 829) (by decide +kernel), List.mem_of_getElem? (i := 830) (by decide +kernel)⟩
theorem lw_p27 : lw_okq (⟨"LampFeastModel", "wrong", "(I)I"⟩, 37) := ⟨⟨by decide +kernel, by decide +kernel⟩, List.mem_of_getElem? (i := 650) (by decide +kernel), List.mem_of_getElem? (i := 833) (by decide +kernel), List.mem_of_getElem? (i := 834) (by decide +kernel)⟩
theorem lw_p28 : lw_okq (⟨"LampFeastModel", "bears", "(I)I"⟩, 37) := ⟨⟨by decide +kernel, by decide +kernel⟩, List.mem_of_getElem? (i := 650) (by decide +kernel), List.mem_of_getElem? (i := 837) (by decide +kernel), List.mem_of_getElem? (i := 838) (by decide +kernel)⟩
theorem lw_p29 : lw_okq (⟨"LampFeastModel", "bestSet", "()I"⟩, 37) := ⟨⟨by decide +kernel, by decide +kernel⟩, List.mem_of_getElem? (i := 650) (by decide +kernel), List.mem_of_getElem? (i := 854) (by decide +kernel), List.mem_of_getElem? (i := 855) (by decide +kernel)⟩
theorem lw_p30 : lw_okq (⟨"LampFeastModel", "few", "()I"⟩, 37) := ⟨⟨by decide +kernel, by decide +kernel⟩, List.mem_of_getElem? (i := 650) (by decide +kernel), List.mem_of_getElem? (i := 858) (by decide +kernel), List.mem_of_getElem? (i := 859) (by decide +kernel)⟩
theorem lw_p31 : lw_okq (⟨"LampFeastModel", "mayHave", "(I)Z"⟩, 37) := ⟨⟨by decide +kernel, by decide +kernel⟩, List.mem_of_getElem? (i := 650) (by decide +kernel), List.mem_of_getElem? (i := 862) (by decide +kernel), List.mem_of_getElem? (i := 863) (by decide +kernel)⟩
def lw_privs_2 : List (MethodName × Nat) := [(⟨"LampFeast$Bills", "allFronts", "()I"⟩, 2), (⟨"LampFeast", "countDead", "()I"⟩, 8), (⟨"LampFeast", "countDark", "()I"⟩, 8), (⟨"LampFeastModel", "finds", "(I)I"⟩, 37), (⟨"LampFeastModel", "isString", "(I)Z"⟩, 37), (⟨"LampFeastModel", "lampsLeft", "()I"⟩, 37), (⟨"LampFeastModel", "taken", "()I"⟩, 37), (⟨"LampFeastModel", "dies", "(I)V"⟩, 37), (⟨"LampFeastModel", "isDark", "(I)Z"⟩, 37), (⟨"LampFeastModel", "loadOf", "(I)I"⟩, 37), (⟨"LampFeastModel", "flow", "()V"⟩, 37), (⟨"LampFeastModel", "wrong", "(I)I"⟩, 37), (⟨"LampFeastModel", "bears", "(I)I"⟩, 37), (⟨"LampFeastModel", "bestSet", "()I"⟩, 37), (⟨"LampFeastModel", "few", "()I"⟩, 37), (⟨"LampFeastModel", "mayHave", "(I)Z"⟩, 37)]
theorem lw_r2 : ∀ q ∈ lw_privs_2, lw_okq q := List.forall_mem_cons.mpr ⟨lw_p16, List.forall_mem_cons.mpr ⟨lw_p17, List.forall_mem_cons.mpr ⟨lw_p18, List.forall_mem_cons.mpr ⟨lw_p19, List.forall_mem_cons.mpr ⟨lw_p20, List.forall_mem_cons.mpr ⟨lw_p21, List.forall_mem_cons.mpr ⟨lw_p22, List.forall_mem_cons.mpr ⟨lw_p23, List.forall_mem_cons.mpr ⟨lw_p24, List.forall_mem_cons.mpr ⟨lw_p25, List.forall_mem_cons.mpr ⟨lw_p26, List.forall_mem_cons.mpr ⟨lw_p27, List.forall_mem_cons.mpr ⟨lw_p28, List.forall_mem_cons.mpr ⟨lw_p29, List.forall_mem_cons.mpr ⟨lw_p30, List.forall_mem_cons.mpr ⟨lw_p31, fun _ h => absurd h List.not_mem_nil⟩⟩⟩⟩⟩⟩⟩⟩⟩⟩⟩⟩⟩⟩⟩⟩
theorem lw_p32 : lw_okq (⟨"LampFeastModel", "mayLack", "(II)Z"⟩, 37) := ⟨⟨by decide +kernel, by decide +kernel⟩, List.mem_of_getElem? (i := 650) (by decide +kernel), List.mem_of_getElem? (i := 866) (by decide +kernel), List.mem_of_getElem? (i := 867) (by decide +kernel)⟩
theorem lw_p33 : lw_okq (⟨"LampFeastModel", "placeOf", "(I)I"⟩, 37) := ⟨⟨by decide +kernel, by decide +kernel⟩, List.mem_of_getElem? (i := 650) (by decide +kernel), List.mem_of_getElem? (i := 908) (by decide +kernel), List.mem_of_getElem? (i := 909) (by decide +kernel)⟩
theorem lw_p34 : lw_okq (⟨"LampFeastModel", "ends", "([I)I"⟩, 37) := ⟨⟨by decide +kernel, by decide +kernel⟩, List.mem_of_getElem? (i := 650) (by decide +kernel), List.mem_of_getElem? (i := 916) (by decide +kernel), List.mem_of_getElem? (i := 917) (by decide +kernel)⟩
theorem lw_p35 : lw_okq (⟨"LampFeastModel", "hangs", "(I)V"⟩, 37) := ⟨⟨by decide +kernel, by decide +kernel⟩, List.mem_of_getElem? (i := 650) (by decide +kernel), List.mem_of_getElem? (i := 920) (by decide +kernel), List.mem_of_getElem? (i := 921) (by decide +kernel)⟩
theorem lw_p36 : lw_okq (⟨"LampFeastModel", "wants", "(I)I"⟩, 37) := ⟨⟨by decide +kernel, by decide +kernel⟩, List.mem_of_getElem? (i := 650) (by decide +kernel), List.mem_of_getElem? (i := 924) (by decide +kernel), List.mem_of_getElem? (i := 925) (by decide +kernel)⟩
theorem lw_p37 : lw_okq (⟨"LampFeastModel", "lay", "(II)V"⟩, 37) := ⟨⟨by decide +kernel, by decide +kernel⟩, List.mem_of_getElem? (i := 650) (by decide +kernel), List.mem_of_getElem? (i := 936) (by decide +kernel), List.mem_of_getElem? (i := 937) (by decide +kernel)⟩
theorem lw_p38 : lw_okq (⟨"LampFeastModel", "isLamp", "(II)Z"⟩, 37) := ⟨⟨by decide +kernel, by decide +kernel⟩, List.mem_of_getElem? (i := 650) (by decide +kernel), List.mem_of_getElem? (i := 957) (by decide +kernel), List.mem_of_getElem? (i := 958) (by decide +kernel)⟩
def lw_privs_3 : List (MethodName × Nat) := [(⟨"LampFeastModel", "mayLack", "(II)Z"⟩, 37), (⟨"LampFeastModel", "placeOf", "(I)I"⟩, 37), (⟨"LampFeastModel", "ends", "([I)I"⟩, 37), (⟨"LampFeastModel", "hangs", "(I)V"⟩, 37), (⟨"LampFeastModel", "wants", "(I)I"⟩, 37), (⟨"LampFeastModel", "lay", "(II)V"⟩, 37), (⟨"LampFeastModel", "isLamp", "(II)Z"⟩, 37)]
theorem lw_r3 : ∀ q ∈ lw_privs_3, lw_okq q := List.forall_mem_cons.mpr ⟨lw_p32, List.forall_mem_cons.mpr ⟨lw_p33, List.forall_mem_cons.mpr ⟨lw_p34, List.forall_mem_cons.mpr ⟨lw_p35, List.forall_mem_cons.mpr ⟨lw_p36, List.forall_mem_cons.mpr ⟨lw_p37, List.forall_mem_cons.mpr ⟨lw_p38, fun _ h => absurd h List.not_mem_nil⟩⟩⟩⟩⟩⟩⟩
def lw_privs : List (MethodName × Nat) := lw_privs_1 ++ (lw_privs_2 ++ (lw_privs_3))
def lw_tbl : List Cond := k2_sels lw_privs ++ tables_1
theorem lw_privs_ok : ∀ q ∈ lw_privs, lw_okq q := by
  show ∀ q ∈ lw_privs_1 ++ (lw_privs_2 ++ (lw_privs_3)), lw_okq q
  exact List.forall_mem_append.mpr ⟨lw_r1, List.forall_mem_append.mpr ⟨lw_r2, lw_r3⟩⟩

-- names of what TURN printed
def pm_cn : Nat → String := fun k => match k with
  | 0 => "LampFeast$Bills"
  | 1 => "LampFeast$Branches"
  | 2 => "LampFeast$Crates"
  | 3 => "LampFeast$FuseSearch"
  | 4 => "LampFeast$Nights"
  | 5 => "LampFeast$Strings"
  | 6 => "LampFeast$Waiting"
  | 7 => "LampFeast"
  | 8 => "LampFeastModel"
  | 9 => "LampFeastLaw"
  | 10 => "java/lang/Math"
  | _ => "java/util/Arrays"
def TX0 : u_T := fun k => match k with
  | 0 => ("LampFeast$Bills", "fronts", "[I", true)
  | _ => ("LampFeast$Bills", "townPart", "I", false)
def tyX0 : Nat → FieldType := fun k => match k with
  | 0 => .array .int
  | _ => .int
def TX1 : u_T := fun k => match k with
  | 0 => ("LampFeast$Branches", "strings", "LLampFeast$Strings;", true)
  | 1 => ("LampFeast$Branches", "mostFall", "I", false)
  | 2 => ("LampFeast$Branches", "dark", "[Z", true)
  | 3 => ("LampFeast$Branches", "current", "[I", true)
  | 4 => ("LampFeast$Branches", "worst", "[I", true)
  | 5 => ("LampFeast$Branches", "fall", "[I", true)
  | _ => ("LampFeast$Branches", "guard", "[I", true)
def tyX1 : Nat → FieldType := fun k => match k with
  | 0 => .object "LampFeast$Strings"
  | 1 => .int
  | 2 => .array .boolean
  | 3 => .array .int
  | 4 => .array .int
  | 5 => .array .int
  | _ => .array .int
def TX2 : u_T := fun k => match k with
  | 0 => ("LampFeast$Crates", "size", "I", false)
  | 1 => ("LampFeast$Crates", "lamps", "[I", true)
  | 2 => ("LampFeast$Crates", "left", "[I", true)
  | 3 => ("LampFeast$Crates", "faulty", "[I", true)
  | _ => ("LampFeast$Crates", "hanging", "[I", true)
def tyX2 : Nat → FieldType := fun k => match k with
  | 0 => .int
  | 1 => .array .int
  | 2 => .array .int
  | 3 => .array .int
  | _ => .array .int
def TX3 : u_T := fun k => match k with
  | 0 => ("LampFeast$FuseSearch", "strings", "LLampFeast$Strings;", true)
  | 1 => ("LampFeast$FuseSearch", "branches", "LLampFeast$Branches;", true)
  | 2 => ("LampFeast$FuseSearch", "below", "[I", true)
  | _ => ("LampFeast$FuseSearch", "cost", "I", false)
def tyX3 : Nat → FieldType := fun k => match k with
  | 0 => .object "LampFeast$Strings"
  | 1 => .object "LampFeast$Branches"
  | 2 => .array .int
  | _ => .int
def TX4 : u_T := fun k => match k with
  | 0 => ("LampFeast$Nights", "strings", "LLampFeast$Strings;", true)
  | 1 => ("LampFeast$Nights", "crews", "I", false)
  | 2 => ("LampFeast$Nights", "hours", "I", false)
  | 3 => ("LampFeast$Nights", "rows", "[I", true)
  | 4 => ("LampFeast$Nights", "places", "[I", true)
  | 5 => ("LampFeast$Nights", "nightOf", "[I", true)
  | 6 => ("LampFeast$Nights", "crewOf", "[I", true)
  | 7 => ("LampFeast$Nights", "hoursLeft", "[I", true)
  | 8 => ("LampFeast$Nights", "trial", "[I", true)
  | _ => ("LampFeast$Nights", "bestEnd", "I", false)
def tyX4 : Nat → FieldType := fun k => match k with
  | 0 => .object "LampFeast$Strings"
  | 1 => .int
  | 2 => .int
  | 3 => .array .int
  | 4 => .array .int
  | 5 => .array .int
  | 6 => .array .int
  | 7 => .array .int
  | 8 => .array .int
  | _ => .int
def TX5 : u_T := fun k => match k with
  | 0 => ("LampFeast$Strings", "size", "I", false)
  | 1 => ("LampFeast$Strings", "kind", "[I", true)
  | 2 => ("LampFeast$Strings", "up", "[I", true)
  | 3 => ("LampFeast$Strings", "street", "[I", true)
  | 4 => ("LampFeast$Strings", "length", "[I", true)
  | 5 => ("LampFeast$Strings", "wire", "[I", true)
  | 6 => ("LampFeast$Strings", "lamps", "[I", true)
  | 7 => ("LampFeast$Strings", "watt", "[I", true)
  | 8 => ("LampFeast$Strings", "fuse", "[I", true)
  | 9 => ("LampFeast$Strings", "dead", "[Z", true)
  | 10 => ("LampFeast$Strings", "first", "[I", true)
  | 11 => ("LampFeast$Strings", "last", "[I", true)
  | _ => ("LampFeast$Strings", "lampCrates", "[I", true)
def tyX5 : Nat → FieldType := fun k => match k with
  | 0 => .int
  | 1 => .array .int
  | 2 => .array .int
  | 3 => .array .int
  | 4 => .array .int
  | 5 => .array .int
  | 6 => .array .int
  | 7 => .array .int
  | 8 => .array .int
  | 9 => .array .boolean
  | 10 => .array .int
  | 11 => .array .int
  | _ => .array .int
def TX6 : u_T := fun k => match k with
  | 0 => ("LampFeast$Waiting", "size", "I", false)
  | _ => ("LampFeast$Waiting", "numbers", "[I", true)
def tyX6 : Nat → FieldType := fun k => match k with
  | 0 => .int
  | _ => .array .int
def TX7 : u_T := fun k => match k with
  | 0 => ("LampFeast", "findings", "[I", true)
  | 1 => ("LampFeast", "crates", "LLampFeast$Crates;", true)
  | 2 => ("LampFeast", "strings", "LLampFeast$Strings;", true)
  | 3 => ("LampFeast", "branches", "LLampFeast$Branches;", true)
  | 4 => ("LampFeast", "fuseSearch", "LLampFeast$FuseSearch;", true)
  | 5 => ("LampFeast", "nights", "LLampFeast$Nights;", true)
  | 6 => ("LampFeast", "bills", "LLampFeast$Bills;", true)
  | _ => ("LampFeast", "waiting", "LLampFeast$Waiting;", true)
def tyX7 : Nat → FieldType := fun k => match k with
  | 0 => .array .int
  | 1 => .object "LampFeast$Crates"
  | 2 => .object "LampFeast$Strings"
  | 3 => .object "LampFeast$Branches"
  | 4 => .object "LampFeast$FuseSearch"
  | 5 => .object "LampFeast$Nights"
  | 6 => .object "LampFeast$Bills"
  | _ => .object "LampFeast$Waiting"
def TX8 : u_T := fun k => match k with
  | 0 => ("LampFeastModel", "crates", "I", false)
  | 1 => ("LampFeastModel", "strings", "I", false)
  | 2 => ("LampFeastModel", "mostFall", "I", false)
  | 3 => ("LampFeastModel", "crewMany", "I", false)
  | 4 => ("LampFeastModel", "crewHours", "I", false)
  | 5 => ("LampFeastModel", "townPart", "I", false)
  | 6 => ("LampFeastModel", "waiting", "I", false)
  | 7 => ("LampFeastModel", "crateLamps", "[I", true)
  | 8 => ("LampFeastModel", "crateLeft", "[I", true)
  | 9 => ("LampFeastModel", "faulty", "[I", true)
  | 10 => ("LampFeastModel", "kind", "[I", true)
  | 11 => ("LampFeastModel", "up", "[I", true)
  | 12 => ("LampFeastModel", "street", "[I", true)
  | 13 => ("LampFeastModel", "length", "[I", true)
  | 14 => ("LampFeastModel", "wire", "[I", true)
  | 15 => ("LampFeastModel", "lamps", "[I", true)
  | 16 => ("LampFeastModel", "watt", "[I", true)
  | 17 => ("LampFeastModel", "fuse", "[I", true)
  | 18 => ("LampFeastModel", "first", "[I", true)
  | 19 => ("LampFeastModel", "last", "[I", true)
  | 20 => ("LampFeastModel", "isDead", "[Z", true)
  | 21 => ("LampFeastModel", "lampCrate", "[I", true)
  | 22 => ("LampFeastModel", "row", "[I", true)
  | 23 => ("LampFeastModel", "fronts", "[I", true)
  | 24 => ("LampFeastModel", "waits", "[I", true)
  | 25 => ("LampFeastModel", "counted", "[I", true)
  | 26 => ("LampFeastModel", "order", "[I", true)
  | 27 => ("LampFeastModel", "current", "[I", true)
  | 28 => ("LampFeastModel", "worst", "[I", true)
  | 29 => ("LampFeastModel", "falls", "[I", true)
  | 30 => ("LampFeastModel", "below", "[I", true)
  | 31 => ("LampFeastModel", "allOf", "I", false)
  | 32 => ("LampFeastModel", "must", "[I", true)
  | 33 => ("LampFeastModel", "night", "[I", true)
  | 34 => ("LampFeastModel", "crew", "[I", true)
  | 35 => ("LampFeastModel", "spent", "[I", true)
  | _ => ("LampFeastModel", "trial", "[I", true)
def tyX8 : Nat → FieldType := fun k => match k with
  | 0 => .int
  | 1 => .int
  | 2 => .int
  | 3 => .int
  | 4 => .int
  | 5 => .int
  | 6 => .int
  | 7 => .array .int
  | 8 => .array .int
  | 9 => .array .int
  | 10 => .array .int
  | 11 => .array .int
  | 12 => .array .int
  | 13 => .array .int
  | 14 => .array .int
  | 15 => .array .int
  | 16 => .array .int
  | 17 => .array .int
  | 18 => .array .int
  | 19 => .array .int
  | 20 => .array .boolean
  | 21 => .array .int
  | 22 => .array .int
  | 23 => .array .int
  | 24 => .array .int
  | 25 => .array .int
  | 26 => .array .int
  | 27 => .array .int
  | 28 => .array .int
  | 29 => .array .int
  | 30 => .array .int
  | 31 => .int
  | 32 => .array .int
  | 33 => .array .int
  | 34 => .array .int
  | 35 => .array .int
  | _ => .array .int
abbrev vwCl : List vw_C := [("LampFeast$Bills", TX0, 2), ("LampFeast$Branches", TX1, 7), ("LampFeast$Crates", TX2, 5), ("LampFeast$FuseSearch", TX3, 4), ("LampFeast$Nights", TX4, 10), ("LampFeast$Strings", TX5, 13), ("LampFeast$Waiting", TX6, 2), ("LampFeast", TX7, 8), ("LampFeastModel", TX8, 37)]
def pm_f0 : Nat → List (Option (Option Nat)) := fun k => match k with
  | 0 => [some none, none]
  | 1 => [some none, none, some none, some none, some none, some none, some none]
  | 2 => [none, some none, some none, some none, some none]
  | 3 => [some none, some none, some none, none]
  | 4 => [some none, none, none, some none, some none, some none, some none, some none, some none, none]
  | 5 => [none, some none, some none, some none, some none, some none, some none, some none, some none, some none, some none, some none, some none]
  | 6 => [none, some none]
  | 7 => [some none, some none, some none, some none, some none, some none, some none, some none]
  | _ => [none, none, none, none, none, none, none, some none, some none, some none, some none, some none, some none, some none, some none, some none, some none, some none, some none, some none, some none, some none, some none, some none, some none, some none, some none, some none, some none, some none, some none, none, some none, some none, some none, some none, some none]
def pm_flL : Nat → List (Nat × Nat × Nat) := fun k => match k with
  | 0 => [(9, 0, 0), (15, 0, 1)]
  | 1 => [(9, 1, 0), (15, 1, 1), (19, 1, 2), (23, 1, 3), (27, 1, 4), (30, 1, 5), (33, 1, 6), (45, 5, 0), (50, 5, 2), (53, 5, 9), (60, 5, 4), (63, 5, 5), (72, 5, 8), (75, 5, 1)]
  | 2 => [(9, 2, 1), (15, 2, 2), (18, 2, 3), (21, 2, 4), (24, 2, 0)]
  | 3 => [(9, 3, 0), (15, 3, 1), (19, 3, 2), (24, 3, 3), (39, 5, 0), (44, 5, 2), (67, 1, 4), (73, 5, 1), (78, 5, 8)]
  | 4 => [(9, 4, 0), (15, 4, 1), (19, 4, 2), (22, 4, 3), (32, 4, 4), (35, 4, 5), (38, 4, 6), (41, 4, 7), (44, 4, 8), (47, 5, 0), (68, 5, 2), (73, 5, 3), (87, 4, 9)]
  | 5 => [(9, 5, 1), (15, 5, 2), (18, 5, 3), (21, 5, 4), (24, 5, 5), (27, 5, 6), (30, 5, 7), (33, 5, 8), (36, 5, 9), (40, 5, 10), (43, 5, 11), (46, 5, 12), (49, 5, 0)]
  | 6 => [(9, 6, 1), (15, 6, 0)]
  | 7 => [(9, 7, 0), (16, 7, 1), (23, 7, 2), (32, 7, 3), (41, 7, 4), (48, 7, 5), (55, 7, 6), (62, 7, 7), (75, 2, 0), (96, 5, 0), (115, 5, 8), (118, 5, 9), (129, 5, 1), (132, 5, 2), (135, 5, 3), (138, 5, 4), (141, 5, 5), (144, 5, 6), (147, 5, 7), (163, 1, 3), (166, 1, 4), (169, 1, 5), (176, 1, 1), (202, 5, 10), (211, 5, 11), (217, 4, 1), (220, 4, 2), (223, 4, 3), (232, 4, 5), (235, 4, 6), (246, 0, 0), (249, 0, 1), (266, 2, 1), (267, 2, 2), (270, 2, 3), (273, 2, 4), (276, 6, 0), (288, 1, 2)]
  | 8 => [(7, 8, 2), (13, 8, 3), (16, 8, 4), (19, 8, 5), (22, 8, 7), (26, 8, 8), (29, 8, 9), (32, 8, 10), (35, 8, 11), (38, 8, 12), (41, 8, 13), (44, 8, 14), (47, 8, 15), (50, 8, 16), (53, 8, 17), (56, 8, 18), (59, 8, 19), (62, 8, 20), (66, 8, 21), (69, 8, 22), (72, 8, 23), (75, 8, 24), (78, 8, 25), (81, 8, 26), (84, 8, 27), (87, 8, 28), (90, 8, 29), (93, 8, 30), (96, 8, 32), (99, 8, 33), (102, 8, 34), (105, 8, 35), (108, 8, 36), (112, 8, 1), (123, 8, 0), (158, 8, 31), (201, 8, 6)]
  | _ => []
def pm_kcL : Nat → List (Nat × Int32) := fun k => match k with
  | 3 => [(23, 536870912), (76, 16777216), (77, 16777215)]
  | 7 => [(70, (-1000000001)), (79, (-1000000004)), (95, (-1000000003)), (114, 60000), (156, (-1000000005)), (175, 100000), (186, (-1000000002)), (252, 1000000), (287, (-1000000000))]
  | 8 => [(111, (-1000000000)), (137, 60000), (157, 100000), (197, 1000000)]
  | _ => []
def pm_nwL : Nat → List (Nat × Nat) := fun k => match k with
  | 7 => [(13, 2), (20, 5), (27, 1), (36, 3), (45, 4), (52, 0), (59, 6)]
  | 9 => [(7, 7), (10, 8)]
  | _ => []
def pm_mvL : Nat → List (Nat × Nat × Nat × Nat × Nat) := fun k => match k with
  | 0 => [(19, 1, 0, 1, 0), (23, 2, 1, 1, 0)]
  | 1 => [(36, 6, 0, 0, 1), (39, 7, 0, 0, 1), (42, 8, 0, 0, 1), (56, 46, 1, 1, 5), (78, 47, 1, 1, 5), (81, 5, 0, 0, 1), (84, 11, 0, 1, 1), (88, 49, 1, 0, 5)]
  | 2 => [(28, 13, 1, 1, 2)]
  | 3 => [(28, 5, 0, 0, 1), (47, 21, 1, 1, 3), (55, 20, 3, 0, 3), (59, 22, 2, 1, 3), (70, 47, 1, 1, 5), (81, 25, 0, 1, 3)]
  | 4 => [(52, 29, 1, 1, 4), (56, 32, 0, 0, 4), (59, 33, 1, 1, 4), (71, 48, 1, 1, 5), (80, 34, 2, 1, 4), (83, 31, 0, 1, 4), (90, 37, 3, 0, 4), (94, 38, 1, 0, 4), (98, 35, 1, 0, 4)]
  | 5 => [(53, 40, 1, 1, 5)]
  | 7 => [(71, 85, 1, 1, 7), (80, 14, 1, 1, 2), (87, 90, 2, 1, 7), (91, 15, 0, 1, 2), (97, 42, 6, 1, 5), (100, 16, 0, 1, 2), (103, 44, 3, 0, 5), (107, 28, 1, 0, 4), (111, 40, 1, 1, 5), (126, 49, 1, 0, 5), (150, 91, 1, 1, 7), (153, 45, 2, 1, 5), (157, 46, 1, 1, 5), (160, 5, 0, 0, 1), (172, 9, 1, 1, 1), (179, 10, 0, 1, 1), (182, 19, 0, 1, 3), (187, 24, 0, 1, 3), (190, 25, 0, 1, 3), (193, 26, 0, 0, 3), (199, 41, 2, 1, 5), (226, 30, 2, 1, 4), (229, 31, 0, 1, 4), (238, 29, 1, 1, 4), (241, 48, 1, 1, 5), (243, 36, 0, 1, 4), (253, 2, 1, 1, 0), (256, 3, 2, 1, 0), (259, 43, 2, 1, 5), (262, 17, 1, 0, 2), (265, 13, 1, 1, 2), (277, 51, 1, 1, 6), (278, 52, 1, 1, 6), (281, 92, 0, 1, 7), (284, 93, 0, 1, 7)]
  | 8 => [(119, 96, 1, 1, 8), (126, 97, 1, 1, 8), (130, 100, 0, 1, 8), (134, 101, 0, 1, 8), (138, 104, 1, 0, 8), (142, 106, 1, 1, 8), (145, 108, 1, 1, 8), (148, 111, 1, 1, 8), (151, 110, 0, 0, 8), (154, 112, 1, 1, 8), (161, 116, 1, 1, 8), (164, 117, 2, 1, 8), (168, 118, 0, 1, 8), (171, 119, 0, 1, 8), (180, 129, 1, 1, 8), (183, 131, 1, 1, 8), (186, 132, 1, 0, 8), (189, 133, 1, 1, 8), (193, 136, 2, 0, 8), (198, 141, 2, 1, 8)]
  | 9 => [(13, 54, 1, 1, 7), (17, 99, 1, 1, 8), (18, 55, 6, 1, 7), (22, 102, 6, 1, 8), (23, 56, 2, 1, 7), (27, 103, 2, 1, 8), (28, 57, 2, 1, 7), (31, 105, 2, 1, 8), (32, 58, 2, 1, 7), (35, 107, 2, 1, 8), (36, 59, 2, 1, 7), (39, 109, 2, 1, 8), (40, 60, 2, 1, 7), (43, 113, 2, 1, 8), (44, 61, 1, 1, 7), (47, 114, 1, 1, 8), (48, 62, 0, 1, 7), (52, 115, 0, 1, 8), (53, 63, 1, 1, 7), (56, 121, 1, 1, 8), (57, 64, 0, 1, 7), (60, 122, 0, 1, 8), (61, 65, 1, 1, 7), (64, 123, 1, 1, 8), (65, 66, 3, 1, 7), (69, 124, 3, 1, 8), (70, 67, 1, 1, 7), (73, 125, 1, 1, 8), (74, 68, 2, 1, 7), (78, 126, 2, 1, 8), (79, 69, 2, 1, 7), (82, 127, 2, 1, 8), (83, 70, 2, 1, 7), (86, 128, 2, 1, 8), (87, 71, 2, 1, 7), (90, 130, 2, 1, 8), (91, 72, 0, 1, 7), (94, 134, 0, 1, 8), (95, 73, 2, 1, 7), (98, 135, 2, 1, 8), (99, 74, 0, 1, 7), (102, 137, 0, 1, 8), (103, 75, 2, 1, 7), (106, 138, 2, 1, 8), (107, 76, 1, 1, 7), (110, 139, 1, 1, 8), (111, 77, 2, 1, 7), (114, 140, 2, 1, 8), (115, 78, 2, 1, 7), (118, 142, 2, 1, 8), (119, 79, 2, 1, 7), (122, 143, 2, 1, 8), (123, 80, 2, 1, 7), (126, 144, 2, 1, 8), (127, 81, 1, 1, 7), (130, 145, 1, 1, 8), (131, 82, 0, 1, 7), (134, 146, 0, 1, 8), (135, 83, 1, 1, 7), (138, 147, 1, 1, 8), (139, 84, 1, 1, 7), (142, 148, 1, 1, 8)]
  | _ => []
def pm_msL : Nat → List (Nat × Nat × Nat × Nat × Nat) := fun k => match k with
  | 1 => [(66, 149, 2, 1, 10)]
  | 3 => [(33, 151, 2, 0, 11), (51, 23, 2, 1, 3), (62, 150, 2, 1, 10)]
  | 4 => [(26, 151, 2, 0, 11), (62, 149, 2, 1, 10)]
  | 7 => [(66, 86, 3, 1, 7), (83, 89, 1, 1, 7), (122, 87, 1, 1, 7), (196, 88, 2, 1, 7), (205, 149, 2, 1, 10), (214, 150, 2, 1, 10)]
  | 8 => [(115, 95, 3, 1, 8), (174, 120, 1, 1, 8), (177, 98, 2, 1, 8)]
  | _ => []
def pm_mnL : Nat → List (Nat × Nat × Nat × Nat × Nat) := fun k => match k with
  | 3 => [(85, 88, 2, 1, 7)]
  | 4 => [(76, 88, 2, 1, 7)]
  | 6 => [(19, 88, 2, 1, 7)]
  | _ => []
def pm_miL : Nat → List (Nat × Nat × Nat × Nat × Nat) := fun k => match k with
  | 7 => [(15, 12, 0, 0, 2), (22, 39, 0, 0, 5), (29, 4, 1, 0, 1), (38, 18, 2, 0, 3), (47, 27, 1, 0, 4), (54, 0, 0, 0, 0), (61, 50, 0, 0, 6)]
  | 9 => [(9, 53, 0, 0, 7), (12, 94, 0, 0, 8)]
  | _ => []
def pm_oiL : Nat → List Nat := fun k => match k with
  | 0 => [3]
  | 1 => [3]
  | 2 => [3]
  | 3 => [3]
  | 4 => [3]
  | 5 => [3]
  | 6 => [3]
  | 7 => [3]
  | 8 => [1]
  | _ => []
end
section
/-! A small machine over pure worlds: cells by number, their shapes, their ints; one step in continuation form, at any result type. -/
/-- a cell's shape: (0, n, _) ints; (1, n, _) booleans; (2, number of its kind, fields: none an int, some a reference) -/
abbrev pmS : Type := Nat × Nat × List (Option (Option Nat))
abbrev pmH : Type := Nat → Nat → Int32
abbrev pmW : Type := List pmS × pmH
abbrev pmL : Type := List (Option Value)
abbrev pmR : Type := Option Value × pmW
/-- a method: name, bytes, locals, answer, owner, arguments, code -/
abbrev pmM : Type := MethodName × ByteArray × Nat × Option FieldType × Nat × Nat × List (Nat × Nat × Instr)
def pm_up (h : pmH) (k j : Nat) (x : Int32) : pmH := fun a => if a = k then upd (h k) j x else h a
def pm_z (h : pmH) (k : Nat) : pmH := fun a => if a = k then (fun _ => 0) else h a
def pm_int : Int → Int32
  | .ofNat n => nI n
  | .negSucc n => - nI (n + 1)
def pm_lk {α : Type} (i : Nat) : List (Nat × α) → Option α
  | [] => none
  | (j, a) :: t => match Nat.beq j i with
    | true => some a
    | false => pm_lk i t
def pm_cs : List Value → Nat
  | [] => 0
  | v :: t => v.category + pm_cs t
section PMF
variable {ρ : Type}
def pm_pi (z : ρ) (st : List Value) (f : Int32 → List Value → ρ) : ρ := match st with
  | .int x :: r => f x r
  | _ => z
def pm_pl (z : ρ) (st : List Value) (f : Int64 → List Value → ρ) : ρ := match st with
  | .long x :: r => f x r
  | _ => z
def pm_pr (z : ρ) (st : List Value) (f : Nat → List Value → ρ) : ρ := match st with
  | .ref x :: r => f x r
  | _ => z
def pm_p1 (z : ρ) (st : List Value) (f : Value → List Value → ρ) : ρ := match st with
  | v :: r => (match Nat.beq v.category 1 with
    | true => f v r
    | false => z)
  | _ => z
def pm_vi (z : ρ) (v : Value) (f : Int32 → ρ) : ρ := match v with
  | .int x => f x
  | _ => z
def pm_vl (z : ρ) (v : Value) (f : Int64 → ρ) : ρ := match v with
  | .long x => f x
  | _ => z
def pm_vr (z : ρ) (v : Value) (f : Nat → ρ) : ρ := match v with
  | .ref x => f x
  | _ => z
def pm_ld (z : ρ) (L : pmL) (i : Nat) (f : Value → ρ) : ρ := match L[i]? with
  | some (some v) => f v
  | _ => z
def pm_k2 (L : pmL) : Nat → pmL
  | 0 => L
  | i + 1 => match L[i]? with
    | some (some v) => (match Nat.beq v.category 2 with
      | true => L.set i none
      | false => L)
    | _ => L
def pm_s1 (z : ρ) (L : pmL) (i : Nat) (v : Value) (f : pmL → ρ) : ρ := match L[i]? with
  | some _ => f ((pm_k2 L i).set i (some v))
  | none => z
def pm_s2 (z : ρ) (L : pmL) (i : Nat) (v : Value) (f : pmL → ρ) : ρ := match L[i + 1]? with
  | some _ => f (((pm_k2 L i).set (i + 1) none).set i (some v))
  | none => z
def pm_j (z : ρ) (pc : Nat) (off : Int) (f : Nat → ρ) : ρ := match (pc : Int) + off with
  | .ofNat t => f t
  | .negSucc _ => z
def pm_c1 (c : ClassFile.Cond) (x : Int32) (a b : ρ) : ρ := match c with
  | .eq => if x = 0 then a else b
  | .ne => if x = 0 then b else a
  | .lt => if x < 0 then a else b
  | .ge => if 0 ≤ x then a else b
  | .gt => if 0 < x then a else b
  | .le => if x ≤ 0 then a else b
def pm_c2 (c : ClassFile.Cond) (x y : Int32) (a b : ρ) : ρ := match c with
  | .eq => if x = y then a else b
  | .ne => if x = y then b else a
  | .lt => if x < y then a else b
  | .ge => if y ≤ x then a else b
  | .gt => if y < x then a else b
  | .le => if x ≤ y then a else b
def pm_sw (z : ρ) (pc : Nat) (x : Int32) (f : Nat → ρ) (d : Int) : Nat → List Int → ρ
  | _, [] => pm_j z pc d f
  | i, o :: t => if x = nI i then pm_j z pc o f else pm_sw z pc x f d (i + 1) t
/-- an array's place: its length and what it holds; number 0 is the script -/
def pm_ar (z : ρ) (sh : List pmS) (t : Nat) (a : Nat) (f : Nat → Nat → ρ) : ρ := match a with
  | 0 => z
  | k + 1 => match sh[k]? with
    | some s => (match Nat.beq s.1 t with
      | true => f k s.2.1
      | false => z)
    | none => z
def pm_ob (z : ρ) (sh : List pmS) (ci : Nat) (a : Nat) (f : Nat → List (Option (Option Nat)) → ρ) : ρ := match a with
  | 0 => z
  | k + 1 => match sh[k]? with
    | some s => (match Nat.beq s.1 2 && Nat.beq s.2.1 ci with
      | true => f k s.2.2
      | false => z)
    | none => z
def pm_ix (z : ρ) (i : Int32) (n : Nat) (f : Nat → ρ) : ρ := if i < 0 ∨ n ≤ i.toNatClampNeg then z else f i.toNatClampNeg
def pm_o {α : Type} (z : ρ) (o : Option α) (f : α → ρ) : ρ := match o with
  | some a => f a
  | none => z
def pm_b (z : ρ) (b : Bool) (f : ρ) : ρ := match b with
  | true => f
  | false => z
def pm_gf (z : ρ) (o : Option (Option (Option Nat))) (fi : ρ) (fr : Nat → ρ) : ρ := match o with
  | some none => fi
  | some (some (some b)) => fr b
  | _ => z
def pm_gr (z : ρ) (o : Option (Option (Option Nat))) (fr : ρ) : ρ := match o with
  | some (some _) => fr
  | _ => z
def pm_rt (z : ρ) (ret : Option FieldType) (x : Int32) (f : ρ) : ρ := match ret with
  | some .int => f
  | some .boolean => if x = 0 ∨ x = 1 then f else z
  | _ => z
def pm_at (z : ρ) (a : ArrayType) (f : Nat → ρ) : ρ := match a with
  | .int => f 0
  | .boolean => f 1
  | _ => z
/-- one instruction -/
def pm_F (z : ρ) (rt : Option Value → pmW → ρ) (k : Nat → pmL → List Value → pmW → ρ) (cl : Nat → Nat → List Value → pmW → Nat → pmL → List Value → ρ)
    (sl : Nat) (xs : Nat → Int32) (own : Nat) (ret : Option FieldType) (ini : Bool) (len : Nat) (op : Instr) (pc : Nat) (L : pmL) (st : List Value) (sh : List pmS) (h : pmH) : ρ :=
  match op with
  | .iconst n => k (pc + 1) L (.int (pm_int n) :: st) (sh, h)
  | .bipush n => pm_b z (decide (-128 ≤ n) && decide (n < 128)) (k (pc + 2) L (.int (pm_int n) :: st) (sh, h))
  | .sipush n => pm_b z (decide (-32768 ≤ n) && decide (n < 32768)) (k (pc + 3) L (.int (pm_int n) :: st) (sh, h))
  | .ldc i => pm_o z (pm_lk i (pm_kcL own)) fun v => k (pc + 2) L (.int v :: st) (sh, h)
  | .ldc_w i => pm_o z (pm_lk i (pm_kcL own)) fun v => k (pc + 3) L (.int v :: st) (sh, h)
  | .iload i => pm_ld z L i fun v => pm_vi z v fun x => k (pc + 2) L (.int x :: st) (sh, h)
  | .iload_n i => pm_ld z L i.val fun v => pm_vi z v fun x => k (pc + 1) L (.int x :: st) (sh, h)
  | .aload_n i => pm_ld z L i.val fun v => pm_vr z v fun x => k (pc + 1) L (.ref x :: st) (sh, h)
  | .lload i => pm_ld z L i fun v => pm_vl z v fun x => k (pc + 2) L (.long x :: st) (sh, h)
  | .istore i => pm_pi z st fun x r => pm_s1 z L i (.int x) fun L' => k (pc + 2) L' r (sh, h)
  | .istore_n i => pm_pi z st fun x r => pm_s1 z L i.val (.int x) fun L' => k (pc + 1) L' r (sh, h)
  | .astore_n i => pm_pr z st fun x r => pm_s1 z L i.val (.ref x) fun L' => k (pc + 1) L' r (sh, h)
  | .lstore i => pm_pl z st fun x r => pm_s2 z L i (.long x) fun L' => k (pc + 2) L' r (sh, h)
  | .iinc i n => pm_ld z L i fun v => pm_vi z v fun x => pm_s1 z L i (.int (x + pm_int n)) fun L' => k (pc + 3) L' st (sh, h)
  | .iadd => pm_pi z st fun y r => pm_pi z r fun x r => k (pc + 1) L (.int (x + y) :: r) (sh, h)
  | .isub => pm_pi z st fun y r => pm_pi z r fun x r => k (pc + 1) L (.int (x - y) :: r) (sh, h)
  | .imul => pm_pi z st fun y r => pm_pi z r fun x r => k (pc + 1) L (.int (x * y) :: r) (sh, h)
  | .idiv => pm_pi z st fun y r => pm_pi z r fun x r => if y = 0 then z else k (pc + 1) L (.int (x / y) :: r) (sh, h)
  | .irem => pm_pi z st fun y r => pm_pi z r fun x r => if y = 0 then z else k (pc + 1) L (.int (x - x / y * y) :: r) (sh, h)
  | .ishl => pm_pi z st fun y r => pm_pi z r fun x r => k (pc + 1) L (.int (x <<< (y &&& 31)) :: r) (sh, h)
  | .ishr => pm_pi z st fun y r => pm_pi z r fun x r => k (pc + 1) L (.int (x >>> (y &&& 31)) :: r) (sh, h)
  | .iand => pm_pi z st fun y r => pm_pi z r fun x r => k (pc + 1) L (.int (x &&& y) :: r) (sh, h)
  | .ior => pm_pi z st fun y r => pm_pi z r fun x r => k (pc + 1) L (.int (x ||| y) :: r) (sh, h)
  | .i2l => pm_pi z st fun x r => k (pc + 1) L (.long x.toInt64 :: r) (sh, h)
  | .l2i => pm_pl z st fun x r => k (pc + 1) L (.int x.toInt32 :: r) (sh, h)
  | .lmul => pm_pl z st fun y r => pm_pl z r fun x r => k (pc + 1) L (.long (x * y) :: r) (sh, h)
  | .ldiv => pm_pl z st fun y r => pm_pl z r fun x r => if y = 0 then z else k (pc + 1) L (.long (x / y) :: r) (sh, h)
  | .lrem => pm_pl z st fun y r => pm_pl z r fun x r => if y = 0 then z else k (pc + 1) L (.long (x - x / y * y) :: r) (sh, h)
  | .lcmp => pm_pl z st fun y r => pm_pl z r fun x r => k (pc + 1) L (.int (lg_cmp x y) :: r) (sh, h)
  | .dup => pm_p1 z st fun v r => k (pc + 1) L (v :: v :: r) (sh, h)
  | .dup2 => pm_p1 z st fun v r => pm_p1 z r fun u r => k (pc + 1) L (v :: u :: v :: u :: r) (sh, h)
  | .pop => pm_p1 z st fun _ r => k (pc + 1) L r (sh, h)
  | .goto off => pm_j z pc off fun t => k t L st (sh, h)
  | .ifCond c off => pm_pi z st fun x r => pm_j z pc off fun t => pm_c1 c x (k t L r (sh, h)) (k (pc + 3) L r (sh, h))
  | .if_icmp c off => pm_pi z st fun y r => pm_pi z r fun x r => pm_j z pc off fun t => pm_c2 c x y (k t L r (sh, h)) (k (pc + 3) L r (sh, h))
  | .tableswitch d lo hi offs => pm_pi z st fun x r => pm_b z (decide (lo = 0) && decide (hi + 1 = offs.toList.length) && decide (offs.toList.length ≤ 1000)) (pm_sw z pc x (fun t => k t L r (sh, h)) d 0 offs.toList)
  | .getfield i => pm_o z (pm_lk i (pm_flL own)) fun q => pm_pr z st fun a r => pm_ob z sh q.1 a fun c fl => pm_gf z fl[q.2]? (k (pc + 3) L (.int (h c q.2) :: r) (sh, h)) fun b => k (pc + 3) L (.ref b :: r) (sh, h)
  | .putfield i => pm_o z (pm_lk i (pm_flL own)) fun q => pm_p1 z st fun v r => pm_pr z r fun a r => pm_ob z sh q.1 a fun c fl => match v with
    | .int x => pm_gf z fl[q.2]? (k (pc + 3) L r (sh, pm_up h c q.2 x)) fun _ => z
    | .ref b => pm_gr z fl[q.2]? (pm_b z (ini && Nat.beq q.1 own) (k (pc + 3) L r (sh.set c (2, q.1, fl.set q.2 (some (some b))), h)))
    | _ => z
  | .iaload => pm_pi z st fun i r => pm_pr z r fun a r => match a with
    | 0 => pm_ix z i sl fun j => k (pc + 1) L (.int (xs j) :: r) (sh, h)
    | a => pm_ar z sh 0 a fun c n => pm_ix z i n fun j => k (pc + 1) L (.int (h c j) :: r) (sh, h)
  | .baload => pm_pi z st fun i r => pm_pr z r fun a r => pm_ar z sh 1 a fun c n => pm_ix z i n fun j => k (pc + 1) L (.int (h c j) :: r) (sh, h)
  | .iastore => pm_pi z st fun x r => pm_pi z r fun i r => pm_pr z r fun a r => pm_ar z sh 0 a fun c n => pm_ix z i n fun j => k (pc + 1) L r (sh, pm_up h c j x)
  | .bastore => pm_pi z st fun x r => pm_pi z r fun i r => pm_pr z r fun a r => pm_ar z sh 1 a fun c n => pm_ix z i n fun j => if x = 0 ∨ x = 1 then k (pc + 1) L r (sh, pm_up h c j x) else z
  | .arraylength => pm_pr z st fun a r => match a with
    | 0 => k (pc + 1) L (.int (nI sl) :: r) (sh, h)
    | a => pm_ar z sh 0 a fun _ n => k (pc + 1) L (.int (nI n) :: r) (sh, h)
  | .new i => pm_o z (pm_lk i (pm_nwL own)) fun ci => k (pc + 3) L (.ref (sh.length + 1) :: st) (sh ++ [(2, ci, pm_f0 ci)], pm_z h sh.length)
  | .newarray a => pm_at z a fun t => pm_pi z st fun n r => if n < 0 ∨ 100000 < n.toNatClampNeg then z else k (pc + 2) L (.ref (sh.length + 1) :: r) (sh ++ [(t, n.toNatClampNeg, [])], pm_z h sh.length)
  | .invokevirtual i => pm_o z (pm_lk i (pm_mvL own)) fun q => pm_pr z (st.drop q.2.1) fun a rest => pm_ob z sh q.2.2.2 a fun _ _ => pm_b z (Nat.ble (pm_cs rest) 8) (cl q.1 q.2.2.1 (.ref a :: (st.take q.2.1).reverse) (sh, h) (pc + 3) L rest)
  | .invokestatic i => pm_o z (pm_lk i (pm_msL own ++ pm_mnL own)) fun q => pm_b z (Nat.ble q.2.1 st.length && Nat.ble (pm_cs (st.drop q.2.1)) 8) (cl q.1 q.2.2.1 (st.take q.2.1).reverse (sh, h) (pc + 3) L (st.drop q.2.1))
  | .invokespecial i => match (pm_oiL own).contains i with
    | true => pm_pr z st fun _ r => pm_b z (Nat.ble (pm_cs r) 8) (cl 9999 0 [] (sh, h) (pc + 3) L r)
    | false => pm_o z (pm_lk i (pm_miL own)) fun q => pm_pr z (st.drop q.2.1) fun a rest => pm_b z (Nat.ble (pm_cs rest) 8) (cl q.1 2 (.ref a :: (st.take q.2.1).reverse) (sh, h) (pc + 3) L rest)
  | .ireturn => pm_pi z st fun x r => match r with
    | [] => pm_rt z ret x (rt (some (.int x)) (sh, h))
    | _ => z
  | .return_ => match st with
    | [] => (match ret with
      | none => rt none (sh, h)
      | _ => z)
    | _ => z
  | _ => z
end PMF
end
