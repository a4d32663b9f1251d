-- ===== PART A: goes FIRST, ahead of the names: the tables' words, and 'selects' of the private methods out of them =====
/-- a private method of a class that the tables say can be made, by its rows of tables_1 -/
def lw_okq (q : MethodName × Nat) : Prop := (q.1.cls ≠ "java/lang/invoke/MethodHandle" ∧ q.1.cls ≠ "java/lang/invoke/VarHandle") ∧ Cond.instantiable q.1.cls q.2 ∈ tables_1 ∧ Cond.privateMethod q.1 ∈ tables_1 ∧ Cond.instanceMethod q.1 ∈ tables_1
theorem lw_p0 : lw_okq (⟨"LampFeast", "finding", "(I)I"⟩, 8) := ⟨⟨by decide +kernel, by decide +kernel⟩, List.mem_of_getElem? (i := 13) (by decide +kernel), List.mem_of_getElem? (i := 283) (by decide +kernel), List.mem_of_getElem? (i := 284) (by decide +kernel)⟩
theorem lw_p1 : lw_okq (⟨"LampFeast", "isUp", "(II)Z"⟩, 8) := ⟨⟨by decide +kernel, by decide +kernel⟩, List.mem_of_getElem? (i := 13) (by decide +kernel), List.mem_of_getElem? (i := 300) (by decide +kernel), List.mem_of_getElem? (i := 301) (by decide +kernel)⟩
theorem lw_p2 : lw_okq (⟨"LampFeast", "darkNow", "(I)Z"⟩, 8) := ⟨⟨by decide +kernel, by decide +kernel⟩, List.mem_of_getElem? (i := 13) (by decide +kernel), List.mem_of_getElem? (i := 349) (by decide +kernel), List.mem_of_getElem? (i := 350) (by decide +kernel)⟩
theorem lw_p3 : lw_okq (⟨"LampFeast$Branches", "surveyDark", "()V"⟩, 7) := ⟨⟨by decide +kernel, by decide +kernel⟩, List.mem_of_getElem? (i := 122) (by decide +kernel), List.mem_of_getElem? (i := 357) (by decide +kernel), List.mem_of_getElem? (i := 358) (by decide +kernel)⟩
theorem lw_p4 : lw_okq (⟨"LampFeast$Branches", "surveyLoads", "()V"⟩, 7) := ⟨⟨by decide +kernel, by decide +kernel⟩, List.mem_of_getElem? (i := 122) (by decide +kernel), List.mem_of_getElem? (i := 361) (by decide +kernel), List.mem_of_getElem? (i := 362) (by decide +kernel)⟩
theorem lw_p5 : lw_okq (⟨"LampFeast$Branches", "surveyFalls", "()V"⟩, 7) := ⟨⟨by decide +kernel, by decide +kernel⟩, List.mem_of_getElem? (i := 122) (by decide +kernel), List.mem_of_getElem? (i := 369) (by decide +kernel), List.mem_of_getElem? (i := 370) (by decide +kernel)⟩
theorem lw_p6 : lw_okq (⟨"LampFeast$Branches", "lastOverloaded", "()I"⟩, 7) := ⟨⟨by decide +kernel, by decide +kernel⟩, List.mem_of_getElem? (i := 122) (by decide +kernel), List.mem_of_getElem? (i := 412) (by decide +kernel), List.mem_of_getElem? (i := 413) (by decide +kernel)⟩
theorem lw_p7 : lw_okq (⟨"LampFeast$FuseSearch", "costWithFuse", "(I)I"⟩, 4) := ⟨⟨by decide +kernel, by decide +kernel⟩, List.mem_of_getElem? (i := 156) (by decide +kernel), List.mem_of_getElem? (i := 427) (by decide +kernel), List.mem_of_getElem? (i := 428) (by decide +kernel)⟩
theorem lw_p8 : lw_okq (⟨"LampFeast$FuseSearch", "joinToUp", "(III)V"⟩, 4) := ⟨⟨by decide +kernel, by decide +kernel⟩, List.mem_of_getElem? (i := 156) (by decide +kernel), List.mem_of_getElem? (i := 439) (by decide +kernel), List.mem_of_getElem? (i := 440) (by decide +kernel)⟩
theorem lw_p9 : lw_okq (⟨"LampFeast$FuseSearch", "costWithout", "(II)I"⟩, 4) := ⟨⟨by decide +kernel, by decide +kernel⟩, List.mem_of_getElem? (i := 156) (by decide +kernel), List.mem_of_getElem? (i := 443) (by decide +kernel), List.mem_of_getElem? (i := 444) (by decide +kernel)⟩
theorem lw_p10 : lw_okq (⟨"LampFeast$Nights", "clearNights", "()V"⟩, 10) := ⟨⟨by decide +kernel, by decide +kernel⟩, List.mem_of_getElem? (i := 176) (by decide +kernel), List.mem_of_getElem? (i := 521) (by decide +kernel), List.mem_of_getElem? (i := 522) (by decide +kernel)⟩
theorem lw_p11 : lw_okq (⟨"LampFeast$Nights", "endWith", "(I)I"⟩, 10) := ⟨⟨by decide +kernel, by decide +kernel⟩, List.mem_of_getElem? (i := 176) (by decide +kernel), List.mem_of_getElem? (i := 525) (by decide +kernel), List.mem_of_getElem? (i := 526) (by decide +kernel)⟩
theorem lw_p12 : lw_okq (⟨"LampFeast$Nights", "freeCrew", "(II)I"⟩, 10) := ⟨⟨by decide +kernel, by decide +kernel⟩, List.mem_of_getElem? (i := 176) (by decide +kernel), List.mem_of_getElem? (i := 534) (by decide +kernel), List.mem_of_getElem? (i := 535) (by decide +kernel)⟩
theorem lw_p13 : lw_okq (⟨"LampFeast$Nights", "tryFrom", "(III)V"⟩, 10) := ⟨⟨by decide +kernel, by decide +kernel⟩, List.mem_of_getElem? (i := 176) (by decide +kernel), List.mem_of_getElem? (i := 554) (by decide +kernel), List.mem_of_getElem? (i := 555) (by decide +kernel)⟩
theorem lw_p14 : lw_okq (⟨"LampFeast$Nights", "keepTrial", "(I)V"⟩, 10) := ⟨⟨by decide +kernel, by decide +kernel⟩, List.mem_of_getElem? (i := 176) (by decide +kernel), List.mem_of_getElem? (i := 558) (by decide +kernel), List.mem_of_getElem? (i := 559) (by decide +kernel)⟩
theorem lw_p15 : lw_okq (⟨"LampFeast$Nights", "takeDown", "(I)V"⟩, 10) := ⟨⟨by decide +kernel, by decide +kernel⟩, List.mem_of_getElem? (i := 176) (by decide +kernel), List.mem_of_getElem? (i := 562) (by decide +kernel), List.mem_of_getElem? (i := 563) (by decide +kernel)⟩
def lw_privs_1 : List (MethodName × Nat) := [(⟨"LampFeast", "finding", "(I)I"⟩, 8), (⟨"LampFeast", "isUp", "(II)Z"⟩, 8), (⟨"LampFeast", "darkNow", "(I)Z"⟩, 8), (⟨"LampFeast$Branches", "surveyDark", "()V"⟩, 7), (⟨"LampFeast$Branches", "surveyLoads", "()V"⟩, 7), (⟨"LampFeast$Branches", "surveyFalls", "()V"⟩, 7), (⟨"LampFeast$Branches", "lastOverloaded", "()I"⟩, 7), (⟨"LampFeast$FuseSearch", "costWithFuse", "(I)I"⟩, 4), (⟨"LampFeast$FuseSearch", "joinToUp", "(III)V"⟩, 4), (⟨"LampFeast$FuseSearch", "costWithout", "(II)I"⟩, 4), (⟨"LampFeast$Nights", "clearNights", "()V"⟩, 10), (⟨"LampFeast$Nights", "endWith", "(I)I"⟩, 10), (⟨"LampFeast$Nights", "freeCrew", "(II)I"⟩, 10), (⟨"LampFeast$Nights", "tryFrom", "(III)V"⟩, 10), (⟨"LampFeast$Nights", "keepTrial", "(I)V"⟩, 10), (⟨"LampFeast$Nights", "takeDown", "(I)V"⟩, 10)]
theorem lw_r1 : ∀ q ∈ lw_privs_1, lw_okq q := List.forall_mem_cons.mpr ⟨lw_p0, List.forall_mem_cons.mpr ⟨lw_p1, List.forall_mem_cons.mpr ⟨lw_p2, List.forall_mem_cons.mpr ⟨lw_p3, List.forall_mem_cons.mpr ⟨lw_p4, List.forall_mem_cons.mpr ⟨lw_p5, List.forall_mem_cons.mpr ⟨lw_p6, List.forall_mem_cons.mpr ⟨lw_p7, List.forall_mem_cons.mpr ⟨lw_p8, List.forall_mem_cons.mpr ⟨lw_p9, List.forall_mem_cons.mpr ⟨lw_p10, List.forall_mem_cons.mpr ⟨lw_p11, List.forall_mem_cons.mpr ⟨lw_p12, List.forall_mem_cons.mpr ⟨lw_p13, List.forall_mem_cons.mpr ⟨lw_p14, List.forall_mem_cons.mpr ⟨lw_p15, fun _ h => absurd h List.not_mem_nil⟩⟩⟩⟩⟩⟩⟩⟩⟩⟩⟩⟩⟩⟩⟩⟩
theorem lw_p16 : lw_okq (⟨"LampFeast$Bills", "allFronts", "()I"⟩, 2) := ⟨⟨by decide +kernel, by decide +kernel⟩, List.mem_of_getElem? (i := 221) (by decide +kernel), List.mem_of_getElem? (i := 583) (by decide +kernel), List.mem_of_getElem? (i := 584) (by decide +kernel)⟩
theorem lw_p17 : lw_okq (⟨"LampFeast", "countDead", "()I"⟩, 8) := ⟨⟨by decide +kernel, by decide +kernel⟩, List.mem_of_getElem? (i := 13) (by decide +kernel), List.mem_of_getElem? (i := 638) (by decide +kernel), List.mem_of_getElem? (i := 639) (by decide +kernel)⟩
theorem lw_p18 : lw_okq (⟨"LampFeast", "countDark", "()I"⟩, 8) := ⟨⟨by decide +kernel, by decide +kernel⟩, List.mem_of_getElem? (i := 13) (by decide +kernel), List.mem_of_getElem? (i := 642) (by decide +kernel), List.mem_of_getElem? (i := 643) (by decide +kernel)⟩
theorem lw_p19 : lw_okq (⟨"LampFeastModel", "finds", "(I)I"⟩, 37) := ⟨⟨by decide +kernel, by decide +kernel⟩, List.mem_of_getElem? (i := 650) (by decide +kernel), List.mem_of_getElem? (i := 775) (by decide +kernel), List.mem_of_getElem? (i := 776) (by decide +kernel)⟩
theorem lw_p20 : lw_okq (⟨"LampFeastModel", "isString", "(I)Z"⟩, 37) := ⟨⟨by decide +kernel, by decide +kernel⟩, List.mem_of_getElem? (i := 650) (by decide +kernel), List.mem_of_getElem? (i := 784) (by decide +kernel), List.mem_of_getElem? (i := 785) (by decide +kernel)⟩
theorem lw_p21 : lw_okq (⟨"LampFeastModel", "lampsLeft", "()I"⟩, 37) := ⟨⟨by decide +kernel, by decide +kernel⟩, List.mem_of_getElem? (i := 650) (by decide +kernel), List.mem_of_getElem? (i := 788) (by decide +kernel), List.mem_of_getElem? (i := 789) (by decide +kernel)⟩
theorem lw_p22 : lw_okq (⟨"LampFeastModel", "taken", "()I"⟩, 37) := ⟨⟨by decide +kernel, by decide +kernel⟩, List.mem_of_getElem? (i := 650) (by decide +kernel), List.mem_of_getElem? (i := 792) (by decide +kernel), List.mem_of_getElem? (i := 793) (by decide +kernel)⟩
theorem lw_p23 : lw_okq (⟨"LampFeastModel", "dies", "(I)V"⟩, 37) := ⟨⟨by decide +kernel, by decide +kernel⟩, List.mem_of_getElem? (i := 650) (by decide +kernel), List.mem_of_getElem? (i := 805) (by decide +kernel), List.mem_of_getElem? (i := 806) (by decide +kernel)⟩
theorem lw_p24 : lw_okq (⟨"LampFeastModel", "isDark", "(I)Z"⟩, 37) := ⟨⟨by decide +kernel, by decide +kernel⟩, List.mem_of_getElem? (i := 650) (by decide +kernel), List.mem_of_getElem? (i := 813) (by decide +kernel), List.mem_of_getElem? (i := 814) (by decide +kernel)⟩
theorem lw_p25 : lw_okq (⟨"LampFeastModel", "loadOf", "(I)I"⟩, 37) := ⟨⟨by decide +kernel, by decide +kernel⟩, List.mem_of_getElem? (i := 650) (by decide +kernel), List.mem_of_getElem? (i := 821) (by decide +kernel), List.mem_of_getElem? (i := 822) (by decide +kernel)⟩
theorem lw_p26 : lw_okq (⟨"LampFeastModel", "flow", "()V"⟩, 37) := ⟨⟨by decide +kernel, by decide +kernel⟩, List.mem_of_getElem? (i := 650) (by decide +kernel), List.mem_of_getElem? (i := 829) (by decide +kernel), List.mem_of_getElem? (i := 830) (by decide +kernel)⟩
theorem lw_p27 : lw_okq (⟨"LampFeastModel", "wrong", "(I)I"⟩, 37) := ⟨⟨by decide +kernel, by decide +kernel⟩, List.mem_of_getElem? (i := 650) (by decide +kernel), List.mem_of_getElem? (i := 833) (by decide +kernel), List.mem_of_getElem? (i := 834) (by decide +kernel)⟩
theorem lw_p28 : lw_okq (⟨"LampFeastModel", "bears", "(I)I"⟩, 37) := ⟨⟨by decide +kernel, by decide +kernel⟩, List.mem_of_getElem? (i := 650) (by decide +kernel), List.mem_of_getElem? (i := 837) (by decide +kernel), List.mem_of_getElem? (i := 838) (by decide +kernel)⟩
theorem lw_p29 : lw_okq (⟨"LampFeastModel", "bestSet", "()I"⟩, 37) := ⟨⟨by decide +kernel, by decide +kernel⟩, List.mem_of_getElem? (i := 650) (by decide +kernel), List.mem_of_getElem? (i := 854) (by decide +kernel), List.mem_of_getElem? (i := 855) (by decide +kernel)⟩
theorem lw_p30 : lw_okq (⟨"LampFeastModel", "few", "()I"⟩, 37) := ⟨⟨by decide +kernel, by decide +kernel⟩, List.mem_of_getElem? (i := 650) (by decide +kernel), List.mem_of_getElem? (i := 858) (by decide +kernel), List.mem_of_getElem? (i := 859) (by decide +kernel)⟩
theorem lw_p31 : lw_okq (⟨"LampFeastModel", "mayHave", "(I)Z"⟩, 37) := ⟨⟨by decide +kernel, by decide +kernel⟩, List.mem_of_getElem? (i := 650) (by decide +kernel), List.mem_of_getElem? (i := 862) (by decide +kernel), List.mem_of_getElem? (i := 863) (by decide +kernel)⟩
def lw_privs_2 : List (MethodName × Nat) := [(⟨"LampFeast$Bills", "allFronts", "()I"⟩, 2), (⟨"LampFeast", "countDead", "()I"⟩, 8), (⟨"LampFeast", "countDark", "()I"⟩, 8), (⟨"LampFeastModel", "finds", "(I)I"⟩, 37), (⟨"LampFeastModel", "isString", "(I)Z"⟩, 37), (⟨"LampFeastModel", "lampsLeft", "()I"⟩, 37), (⟨"LampFeastModel", "taken", "()I"⟩, 37), (⟨"LampFeastModel", "dies", "(I)V"⟩, 37), (⟨"LampFeastModel", "isDark", "(I)Z"⟩, 37), (⟨"LampFeastModel", "loadOf", "(I)I"⟩, 37), (⟨"LampFeastModel", "flow", "()V"⟩, 37), (⟨"LampFeastModel", "wrong", "(I)I"⟩, 37), (⟨"LampFeastModel", "bears", "(I)I"⟩, 37), (⟨"LampFeastModel", "bestSet", "()I"⟩, 37), (⟨"LampFeastModel", "few", "()I"⟩, 37), (⟨"LampFeastModel", "mayHave", "(I)Z"⟩, 37)]
theorem lw_r2 : ∀ q ∈ lw_privs_2, lw_okq q := List.forall_mem_cons.mpr ⟨lw_p16, List.forall_mem_cons.mpr ⟨lw_p17, List.forall_mem_cons.mpr ⟨lw_p18, List.forall_mem_cons.mpr ⟨lw_p19, List.forall_mem_cons.mpr ⟨lw_p20, List.forall_mem_cons.mpr ⟨lw_p21, List.forall_mem_cons.mpr ⟨lw_p22, List.forall_mem_cons.mpr ⟨lw_p23, List.forall_mem_cons.mpr ⟨lw_p24, List.forall_mem_cons.mpr ⟨lw_p25, List.forall_mem_cons.mpr ⟨lw_p26, List.forall_mem_cons.mpr ⟨lw_p27, List.forall_mem_cons.mpr ⟨lw_p28, List.forall_mem_cons.mpr ⟨lw_p29, List.forall_mem_cons.mpr ⟨lw_p30, List.forall_mem_cons.mpr ⟨lw_p31, fun _ h => absurd h List.not_mem_nil⟩⟩⟩⟩⟩⟩⟩⟩⟩⟩⟩⟩⟩⟩⟩⟩
theorem lw_p32 : lw_okq (⟨"LampFeastModel", "mayLack", "(II)Z"⟩, 37) := ⟨⟨by decide +kernel, by decide +kernel⟩, List.mem_of_getElem? (i := 650) (by decide +kernel), List.mem_of_getElem? (i := 866) (by decide +kernel), List.mem_of_getElem? (i := 867) (by decide +kernel)⟩
theorem lw_p33 : lw_okq (⟨"LampFeastModel", "placeOf", "(I)I"⟩, 37) := ⟨⟨by decide +kernel, by decide +kernel⟩, List.mem_of_getElem? (i := 650) (by decide +kernel), List.mem_of_getElem? (i := 908) (by decide +kernel), List.mem_of_getElem? (i := 909) (by decide +kernel)⟩
theorem lw_p34 : lw_okq (⟨"LampFeastModel", "ends", "([I)I"⟩, 37) := ⟨⟨by decide +kernel, by decide +kernel⟩, List.mem_of_getElem? (i := 650) (by decide +kernel), List.mem_of_getElem? (i := 916) (by decide +kernel), List.mem_of_getElem? (i := 917) (by decide +kernel)⟩
theorem lw_p35 : lw_okq (⟨"LampFeastModel", "hangs", "(I)V"⟩, 37) := ⟨⟨by decide +kernel, by decide +kernel⟩, List.mem_of_getElem? (i := 650) (by decide +kernel), List.mem_of_getElem? (i := 920) (by decide +kernel), List.mem_of_getElem? (i := 921) (by decide +kernel)⟩
theorem lw_p36 : lw_okq (⟨"LampFeastModel", "wants", "(I)I"⟩, 37) := ⟨⟨by decide +kernel, by decide +kernel⟩, List.mem_of_getElem? (i := 650) (by decide +kernel), List.mem_of_getElem? (i := 924) (by decide +kernel), List.mem_of_getElem? (i := 925) (by decide +kernel)⟩
theorem lw_p37 : lw_okq (⟨"LampFeastModel", "lay", "(II)V"⟩, 37) := ⟨⟨by decide +kernel, by decide +kernel⟩, List.mem_of_getElem? (i := 650) (by decide +kernel), List.mem_of_getElem? (i := 936) (by decide +kernel), List.mem_of_getElem? (i := 937) (by decide +kernel)⟩
theorem lw_p38 : lw_okq (⟨"LampFeastModel", "isLamp", "(II)Z"⟩, 37) := ⟨⟨by decide +kernel, by decide +kernel⟩, List.mem_of_getElem? (i := 650) (by decide +kernel), List.mem_of_getElem? (i := 957) (by decide +kernel), List.mem_of_getElem? (i := 958) (by decide +kernel)⟩
def lw_privs_3 : List (MethodName × Nat) := [(⟨"LampFeastModel", "mayLack", "(II)Z"⟩, 37), (⟨"LampFeastModel", "placeOf", "(I)I"⟩, 37), (⟨"LampFeastModel", "ends", "([I)I"⟩, 37), (⟨"LampFeastModel", "hangs", "(I)V"⟩, 37), (⟨"LampFeastModel", "wants", "(I)I"⟩, 37), (⟨"LampFeastModel", "lay", "(II)V"⟩, 37), (⟨"LampFeastModel", "isLamp", "(II)Z"⟩, 37)]
theorem lw_r3 : ∀ q ∈ lw_privs_3, lw_okq q := List.forall_mem_cons.mpr ⟨lw_p32, List.forall_mem_cons.mpr ⟨lw_p33, List.forall_mem_cons.mpr ⟨lw_p34, List.forall_mem_cons.mpr ⟨lw_p35, List.forall_mem_cons.mpr ⟨lw_p36, List.forall_mem_cons.mpr ⟨lw_p37, List.forall_mem_cons.mpr ⟨lw_p38, fun _ h => absurd h List.not_mem_nil⟩⟩⟩⟩⟩⟩⟩
def lw_privs : List (MethodName × Nat) := lw_privs_1 ++ (lw_privs_2 ++ (lw_privs_3))
def lw_tbl : List Cond := k2_sels lw_privs ++ tables_1
theorem lw_privs_ok : ∀ q ∈ lw_privs, lw_okq q := by
  show ∀ q ∈ lw_privs_1 ++ (lw_privs_2 ++ (lw_privs_3)), lw_okq q
  exact List.forall_mem_append.mpr ⟨lw_r1, List.forall_mem_append.mpr ⟨lw_r2, lw_r3⟩⟩

-- names of what TURN printed
def pm_cn : Nat → String := fun k => match k with
  | 0 => "LampFeast$Bills"
  | 1 => "LampFeast$Branches"
  | 2 => "LampFeast$Crates"
  | 3 => "LampFeast$FuseSearch"
  | 4 => "LampFeast$Nights"
  | 5 => "LampFeast$Strings"
  | 6 => "LampFeast$Waiting"
  | 7 => "LampFeast"
  | 8 => "LampFeastModel"
  | 9 => "LampFeastLaw"
  | 10 => "java/lang/Math"
  | _ => "java/util/Arrays"
def TX0 : u_T := fun k => match k with
  | 0 => ("LampFeast$Bills", "fronts", "[I", true)
  | _ => ("LampFeast$Bills", "townPart", "I", false)
def tyX0 : Nat → FieldType := fun k => match k with
  | 0 => .array .int
  | _ => .int
def TX1 : u_T := fun k => match k with
  | 0 => ("LampFeast$Branches", "strings", "LLampFeast$Strings;", true)
  | 1 => ("LampFeast$Branches", "mostFall", "I", false)
  | 2 => ("LampFeast$Branches", "dark", "[Z", true)
  | 3 => ("LampFeast$Branches", "current", "[I", true)
  | 4 => ("LampFeast$Branches", "worst", "[I", true)
  | 5 => ("LampFeast$Branches", "fall", "[I", true)
  | _ => ("LampFeast$Branches", "guard", "[I", true)
def tyX1 : Nat → FieldType := fun k => match k with
  | 0 => .object "LampFeast$Strings"
  | 1 => .int
  | 2 => .array .boolean
  | 3 => .array .int
  | 4 => .array .int
  | 5 => .array .int
  | _ => .array .int
def TX2 : u_T := fun k => match k with
  | 0 => ("LampFeast$Crates", "size", "I", false)
  | 1 => ("LampFeast$Crates", "lamps", "[I", true)
  | 2 => ("LampFeast$Crates", "left", "[I", true)
  | 3 => ("LampFeast$Crates", "faulty", "[I", true)
  | _ => ("LampFeast$Crates", "hanging", "[I", true)
def tyX2 : Nat → FieldType := fun k => match k with
  | 0 => .int
  | 1 => .array .int
  | 2 => .array .int
  | 3 => .array .int
  | _ => .array .int
def TX3 : u_T := fun k => match k with
  | 0 => ("LampFeast$FuseSearch", "strings", "LLampFeast$Strings;", true)
  | 1 => ("LampFeast$FuseSearch", "branches", "LLampFeast$Branches;", true)
  | 2 => ("LampFeast$FuseSearch", "below", "[I", true)
  | _ => ("LampFeast$FuseSearch", "cost", "I", false)
def tyX3 : Nat → FieldType := fun k => match k with
  | 0 => .object "LampFeast$Strings"
  | 1 => .object "LampFeast$Branches"
  | 2 => .array .int
  | _ => .int
def TX4 : u_T := fun k => match k with
  | 0 => ("LampFeast$Nights", "strings", "LLampFeast$Strings;", true)
  | 1 => ("LampFeast$Nights", "crews", "I", false)
  | 2 => ("LampFeast$Nights", "hours", "I", false)
  | 3 => ("LampFeast$Nights", "rows", "[I", true)
  | 4 => ("LampFeast$Nights", "places", "[I", true)
  | 5 => ("LampFeast$Nights", "nightOf", "[I", true)
  | 6 => ("LampFeast$Nights", "crewOf", "[I", true)
  | 7 => ("LampFeast$Nights", "hoursLeft", "[I", true)
  | 8 => ("LampFeast$Nights", "trial", "[I", true)
  | _ => ("LampFeast$Nights", "bestEnd", "I", false)
def tyX4 : Nat → FieldType := fun k => match k with
  | 0 => .object "LampFeast$Strings"
  | 1 => .int
  | 2 => .int
  | 3 => .array .int
  | 4 => .array .int
  | 5 => .array .int
  | 6 => .array .int
  | 7 => .array .int
  | 8 => .array .int
  | _ => .int
def TX5 : u_T := fun k => match k with
  | 0 => ("LampFeast$Strings", "size", "I", false)
  | 1 => ("LampFeast$Strings", "kind", "[I", true)
  | 2 => ("LampFeast$Strings", "up", "[I", true)
  | 3 => ("LampFeast$Strings", "street", "[I", true)
  | 4 => ("LampFeast$Strings", "length", "[I", true)
  | 5 => ("LampFeast$Strings", "wire", "[I", true)
  | 6 => ("LampFeast$Strings", "lamps", "[I", true)
  | 7 => ("LampFeast$Strings", "watt", "[I", true)
  | 8 => ("LampFeast$Strings", "fuse", "[I", true)
  | 9 => ("LampFeast$Strings", "dead", "[Z", true)
  | 10 => ("LampFeast$Strings", "first", "[I", true)
  | 11 => ("LampFeast$Strings", "last", "[I", true)
  | _ => ("LampFeast$Strings", "lampCrates", "[I", true)
def tyX5 : Nat → FieldType := fun k => match k with
  | 0 => .int
  | 1 => .array .int
  | 2 => .array .int
  | 3 => .array .int
  | 4 => .array .int
  | 5 => .array .int
  | 6 => .array .int
  | 7 => .array .int
  | 8 => .array .int
  | 9 => .array .boolean
  | 10 => .array .int
  | 11 => .array .int
  | _ => .array .int
def TX6 : u_T := fun k => match k with
  | 0 => ("LampFeast$Waiting", "size", "I", false)
  | _ => ("LampFeast$Waiting", "numbers", "[I", true)
def tyX6 : Nat → FieldType := fun k => match k with
  | 0 => .int
  | _ => .array .int
def TX7 : u_T := fun k => match k with
  | 0 => ("LampFeast", "findings", "[I", true)
  | 1 => ("LampFeast", "crates", "LLampFeast$Crates;", true)
  | 2 => ("LampFeast", "strings", "LLampFeast$Strings;", true)
  | 3 => ("LampFeast", "branches", "LLampFeast$Branches;", true)
  | 4 => ("LampFeast", "fuseSearch", "LLampFeast$FuseSearch;", true)
  | 5 => ("LampFeast", "nights", "LLampFeast$Nights;", true)
  | 6 => ("LampFeast", "bills", "LLampFeast$Bills;", true)
  | _ => ("LampFeast", "waiting", "LLampFeast$Waiting;", true)
def tyX7 : Nat → FieldType := fun k => match k with
  | 0 => .array .int
  | 1 => .object "LampFeast$Crates"
  | 2 => .object "LampFeast$Strings"
  | 3 => .object "LampFeast$Branches"
  | 4 => .object "LampFeast$FuseSearch"
  | 5 => .object "LampFeast$Nights"
  | 6 => .object "LampFeast$Bills"
  | _ => .object "LampFeast$Waiting"
def TX8 : u_T := fun k => match k with
  | 0 => ("LampFeastModel", "crates", "I", false)
  | 1 => ("LampFeastModel", "strings", "I", false)
  | 2 => ("LampFeastModel", "mostFall", "I", false)
  | 3 => ("LampFeastModel", "crewMany", "I", false)
  | 4 => ("LampFeastModel", "crewHours", "I", false)
  | 5 => ("LampFeastModel", "townPart", "I", false)
  | 6 => ("LampFeastModel", "waiting", "I", false)
  | 7 => ("LampFeastModel", "crateLamps", "[I", true)
  | 8 => ("LampFeastModel", "crateLeft", "[I", true)
  | 9 => ("LampFeastModel", "faulty", "[I", true)
  | 10 => ("LampFeastModel", "kind", "[I", true)
  | 11 => ("LampFeastModel", "up", "[I", true)
  | 12 => ("LampFeastModel", "street", "[I", true)
  | 13 => ("LampFeastModel", "length", "[I", true)
  | 14 => ("LampFeastModel", "wire", "[I", true)
  | 15 => ("LampFeastModel", "lamps", "[I", true)
  | 16 => ("LampFeastModel", "watt", "[I", true)
  | 17 => ("LampFeastModel", "fuse", "[I", true)
  | 18 => ("LampFeastModel", "first", "[I", true)
  | 19 => ("LampFeastModel", "last", "[I", true)
  | 20 => ("LampFeastModel", "isDead", "[Z", true)
  | 21 => ("LampFeastModel", "lampCrate", "[I", true)
  | 22 => ("LampFeastModel", "row", "[I", true)
  | 23 => ("LampFeastModel", "fronts", "[I", true)
  | 24 => ("LampFeastModel", "waits", "[I", true)
  | 25 => ("LampFeastModel", "counted", "[I", true)
  | 26 => ("LampFeastModel", "order", "[I", true)
  | 27 => ("LampFeastModel", "current", "[I", true)
  | 28 => ("LampFeastModel", "worst", "[I", true)
  | 29 => ("LampFeastModel", "falls", "[I", true)
  | 30 => ("LampFeastModel", "below", "[I", true)
  | 31 => ("LampFeastModel", "allOf", "I", false)
  | 32 => ("LampFeastModel", "must", "[I", true)
  | 33 => ("LampFeastModel", "night", "[I", true)
  | 34 => ("LampFeastModel", "crew", "[I", true)
  | 35 => ("LampFeastModel", "spent", "[I", true)
  | _ => ("LampFeastModel", "trial", "[I", true)
def tyX8 : Nat → FieldType := fun k => match k with
  | 0 => .int
  | 1 => .int
  | 2 => .int
  | 3 => .int
  | 4 => .int
  | 5 => .int
  | 6 => .int
  | 7 => .array .int
  | 8 => .array .int
  | 9 => .array .int
  | 10 => .array .int
  | 11 => .array .int
  | 12 => .array .int
  | 13 => .array .int
  | 14 => .array .int
  | 15 => .array .int
  | 16 => .array .int
  | 17 => .array .int
  | 18 => .array .int
  | 19 => .array .int
  | 20 => .array .boolean
  | 21 => .array .int
  | 22 => .array .int
  | 23 => .array .int
  | 24 => .array .int
  | 25 => .array .int
  | 26 => .array .int
  | 27 => .array .int
  | 28 => .array .int
  | 29 => .array .int
  | 30 => .array .int
  | 31 => .int
  | 32 => .array .int
  | 33 => .array .int
  | 34 => .array .int
  | 35 => .array .int
  | _ => .array .int
abbrev vwCl : List vw_C := [("LampFeast$Bills", TX0, 2), ("LampFeast$Branches", TX1, 7), ("LampFeast$Crates", TX2, 5), ("LampFeast$FuseSearch", TX3, 4), ("LampFeast$Nights", TX4, 10), ("LampFeast$Strings", TX5, 13), ("LampFeast$Waiting", TX6, 2), ("LampFeast", TX7, 8), ("LampFeastModel", TX8, 37)]
def pm_f0 : Nat → List (Option (Option Nat)) := fun k => match k with
  | 0 => [some none, none]
  | 1 => [some none, none, some none, some none, some none, some none, some none]
  | 2 => [none, some none, some none, some none, some none]
  | 3 => [some none, some none, some none, none]
  | 4 => [some none, none, none, some none, some none, some none, some none, some none, some none, none]
  | 5 => [none, some none, some none, some none, some none, some none, some none, some none, some none, some none, some none, some none, some none]
  | 6 => [none, some none]
  | 7 => [some none, some none, some none, some none, some none, some none, some none, some none]
  | _ => [none, none, none, none, none, none, none, some none, some none, some none, some none, some none, some none, some none, some none, some none, some none, some none, some none, some none, some none, some none, some none, some none, some none, some none, some none, some none, some none, some none, some none, none, some none, some none, some none, some none, some none]
def pm_flL : Nat → List (Nat × Nat × Nat) := fun k => match k with
  | 0 => [(9, 0, 0), (15, 0, 1)]
  | 1 => [(9, 1, 0), (15, 1, 1), (19, 1, 2), (23, 1, 3), (27, 1, 4), (30, 1, 5), (33, 1, 6), (45, 5, 0), (50, 5, 2), (53, 5, 9), (60, 5, 4), (63, 5, 5), (72, 5, 8), (75, 5, 1)]
  | 2 => [(9, 2, 1), (15, 2, 2), (18, 2, 3), (21, 2, 4), (24, 2, 0)]
  | 3 => [(9, 3, 0), (15, 3, 1), (19, 3, 2), (24, 3, 3), (39, 5, 0), (44, 5, 2), (67, 1, 4), (73, 5, 1), (78, 5, 8)]
  | 4 => [(9, 4, 0), (15, 4, 1), (19, 4, 2), (22, 4, 3), (32, 4, 4), (35, 4, 5), (38, 4, 6), (41, 4, 7), (44, 4, 8), (47, 5, 0), (68, 5, 2), (73, 5, 3), (87, 4, 9)]
  | 5 => [(9, 5, 1), (15, 5, 2), (18, 5, 3), (21, 5, 4), (24, 5, 5), (27, 5, 6), (30, 5, 7), (33, 5, 8), (36, 5, 9), (40, 5, 10), (43, 5, 11), (46, 5, 12), (49, 5, 0)]
  | 6 => [(9, 6, 1), (15, 6, 0)]
  | 7 => [(9, 7, 0), (16, 7, 1), (23, 7, 2), (32, 7, 3), (41, 7, 4), (48, 7, 5), (55, 7, 6), (62, 7, 7), (75, 2, 0), (96, 5, 0), (115, 5, 8), (118, 5, 9), (129, 5, 1), (132, 5, 2), (135, 5, 3), (138, 5, 4), (141, 5, 5), (144, 5, 6), (147, 5, 7), (163, 1, 3), (166, 1, 4), (169, 1, 5), (176, 1, 1), (202, 5, 10), (211, 5, 11), (217, 4, 1), (220, 4, 2), (223, 4, 3), (232, 4, 5), (235, 4, 6), (246, 0, 0), (249, 0, 1), (266, 2, 1), (267, 2, 2), (270, 2, 3), (273, 2, 4), (276, 6, 0), (288, 1, 2)]
  | 8 => [(7, 8, 2), (13, 8, 3), (16, 8, 4), (19, 8, 5), (22, 8, 7), (26, 8, 8), (29, 8, 9), (32, 8, 10), (35, 8, 11), (38, 8, 12), (41, 8, 13), (44, 8, 14), (47, 8, 15), (50, 8, 16), (53, 8, 17), (56, 8, 18), (59, 8, 19), (62, 8, 20), (66, 8, 21), (69, 8, 22), (72, 8, 23), (75, 8, 24), (78, 8, 25), (81, 8, 26), (84, 8, 27), (87, 8, 28), (90, 8, 29), (93, 8, 30), (96, 8, 32), (99, 8, 33), (102, 8, 34), (105, 8, 35), (108, 8, 36), (112, 8, 1), (123, 8, 0), (158, 8, 31), (201, 8, 6)]
  | _ => []
def pm_kcL : Nat → List (Nat × Int32) := fun k => match k with
  | 3 => [(23, 536870912), (76, 16777216), (77, 16777215)]
  | 7 => [(70, (-1000000001)), (79, (-1000000004)), (95, (-1000000003)), (114, 60000), (156, (-1000000005)), (175, 100000), (186, (-1000000002)), (252, 1000000), (287, (-1000000000))]
  | 8 => [(111, (-1000000000)), (137, 60000), (157, 100000), (197, 1000000)]
  | _ => []
def pm_nwL : Nat → List (Nat × Nat) := fun k => match k with
  | 7 => [(13, 2), (20, 5), (27, 1), (36, 3), (45, 4), (52, 0), (59, 6)]
  | 9 => [(7, 7), (10, 8)]
  | _ => []
def pm_mvL : Nat → List (Nat × Nat × Nat × Nat × Nat) := fun k => match k with
  | 0 => [(19, 1, 0, 1, 0), (23, 2, 1, 1, 0)]
  | 1 => [(36, 6, 0, 0, 1), (39, 7, 0, 0, 1), (42, 8, 0, 0, 1), (56, 46, 1, 1, 5), (78, 47, 1, 1, 5), (81, 5, 0, 0, 1), (84, 11, 0, 1, 1), (88, 49, 1, 0, 5)]
  | 2 => [(28, 13, 1, 1, 2)]
  | 3 => [(28, 5, 0, 0, 1), (47, 21, 1, 1, 3), (55, 20, 3, 0, 3), (59, 22, 2, 1, 3), (70, 47, 1, 1, 5), (81, 25, 0, 1, 3)]
  | 4 => [(52, 29, 1, 1, 4), (56, 32, 0, 0, 4), (59, 33, 1, 1, 4), (71, 48, 1, 1, 5), (80, 34, 2, 1, 4), (83, 31, 0, 1, 4), (90, 37, 3, 0, 4), (94, 38, 1, 0, 4), (98, 35, 1, 0, 4)]
  | 5 => [(53, 40, 1, 1, 5)]
  | 7 => [(71, 85, 1, 1, 7), (80, 14, 1, 1, 2), (87, 90, 2, 1, 7), (91, 15, 0, 1, 2), (97, 42, 6, 1, 5), (100, 16, 0, 1, 2), (103, 44, 3, 0, 5), (107, 28, 1, 0, 4), (111, 40, 1, 1, 5), (126, 49, 1, 0, 5), (150, 91, 1, 1, 7), (153, 45, 2, 1, 5), (157, 46, 1, 1, 5), (160, 5, 0, 0, 1), (172, 9, 1, 1, 1), (179, 10, 0, 1, 1), (182, 19, 0, 1, 3), (187, 24, 0, 1, 3), (190, 25, 0, 1, 3), (193, 26, 0, 0, 3), (199, 41, 2, 1, 5), (226, 30, 2, 1, 4), (229, 31, 0, 1, 4), (238, 29, 1, 1, 4), (241, 48, 1, 1, 5), (243, 36, 0, 1, 4), (253, 2, 1, 1, 0), (256, 3, 2, 1, 0), (259, 43, 2, 1, 5), (262, 17, 1, 0, 2), (265, 13, 1, 1, 2), (277, 51, 1, 1, 6), (278, 52, 1, 1, 6), (281, 92, 0, 1, 7), (284, 93, 0, 1, 7)]
  | 8 => [(119, 96, 1, 1, 8), (126, 97, 1, 1, 8), (130, 100, 0, 1, 8), (134, 101, 0, 1, 8), (138, 104, 1, 0, 8), (142, 106, 1, 1, 8), (145, 108, 1, 1, 8), (148, 111, 1, 1, 8), (151, 110, 0, 0, 8), (154, 112, 1, 1, 8), (161, 116, 1, 1, 8), (164, 117, 2, 1, 8), (168, 118, 0, 1, 8), (171, 119, 0, 1, 8), (180, 129, 1, 1, 8), (183, 131, 1, 1, 8), (186, 132, 1, 0, 8), (189, 133, 1, 1, 8), (193, 136, 2, 0, 8), (198, 141, 2, 1, 8)]
  | 9 => [(13, 54, 1, 1, 7), (17, 99, 1, 1, 8), (18, 55, 6, 1, 7), (22, 102, 6, 1, 8), (23, 56, 2, 1, 7), (27, 103, 2, 1, 8), (28, 57, 2, 1, 7), (31, 105, 2, 1, 8), (32, 58, 2, 1, 7), (35, 107, 2, 1, 8), (36, 59, 2, 1, 7), (39, 109, 2, 1, 8), (40, 60, 2, 1, 7), (43, 113, 2, 1, 8), (44, 61, 1, 1, 7), (47, 114, 1, 1, 8), (48, 62, 0, 1, 7), (52, 115, 0, 1, 8), (53, 63, 1, 1, 7), (56, 121, 1, 1, 8), (57, 64, 0, 1, 7), (60, 122, 0, 1, 8), (61, 65, 1, 1, 7), (64, 123, 1, 1, 8), (65, 66, 3, 1, 7), (69, 124, 3, 1, 8), (70, 67, 1, 1, 7), (73, 125, 1, 1, 8), (74, 68, 2, 1, 7), (78, 126, 2, 1, 8), (79, 69, 2, 1, 7), (82, 127, 2, 1, 8), (83, 70, 2, 1, 7), (86, 128, 2, 1, 8), (87, 71, 2, 1, 7), (90, 130, 2, 1, 8), (91, 72, 0, 1, 7), (94, 134, 0, 1, 8), (95, 73, 2, 1, 7), (98, 135, 2, 1, 8), (99, 74, 0, 1, 7), (102, 137, 0, 1, 8), (103, 75, 2, 1, 7), (106, 138, 2, 1, 8), (107, 76, 1, 1, 7), (110, 139, 1, 1, 8), (111, 77, 2, 1, 7), (114, 140, 2, 1, 8), (115, 78, 2, 1, 7), (118, 142, 2, 1, 8), (119, 79, 2, 1, 7), (122, 143, 2, 1, 8), (123, 80, 2, 1, 7), (126, 144, 2, 1, 8), (127, 81, 1, 1, 7), (130, 145, 1, 1, 8), (131, 82, 0, 1, 7), (134, 146, 0, 1, 8), (135, 83, 1, 1, 7), (138, 147, 1, 1, 8), (139, 84, 1, 1, 7), (142, 148, 1, 1, 8)]
  | _ => []
def pm_msL : Nat → List (Nat × Nat × Nat × Nat × Nat) := fun k => match k with
  | 3 => [(33, 151, 2, 0, 11), (51, 23, 2, 1, 3)]
  | 4 => [(26, 151, 2, 0, 11)]
  | 7 => [(66, 86, 3, 1, 7), (83, 89, 1, 1, 7), (122, 87, 1, 1, 7), (196, 88, 2, 1, 7)]
  | 8 => [(115, 95, 3, 1, 8), (174, 120, 1, 1, 8), (177, 98, 2, 1, 8)]
  | _ => []
def pm_mnL : Nat → List (Nat × Nat × Nat × Nat × Nat) := fun k => match k with
  | 3 => [(85, 88, 2, 1, 7)]
  | 4 => [(76, 88, 2, 1, 7)]
  | 6 => [(19, 88, 2, 1, 7)]
  | _ => []
def pm_miL : Nat → List (Nat × Nat × Nat × Nat × Nat) := fun k => match k with
  | 7 => [(15, 12, 0, 0, 2), (22, 39, 0, 0, 5), (29, 4, 1, 0, 1), (38, 18, 2, 0, 3), (47, 27, 1, 0, 4), (54, 0, 0, 0, 0), (61, 50, 0, 0, 6)]
  | 9 => [(9, 53, 0, 0, 7), (12, 94, 0, 0, 8)]
  | _ => []
def pm_oiL : Nat → List Nat := fun k => match k with
  | 0 => [3]
  | 1 => [3]
  | 2 => [3]
  | 3 => [3]
  | 4 => [3]
  | 5 => [3]
  | 6 => [3]
  | 7 => [3]
  | 8 => [1]
  | _ => []
def pm_mxL : Nat → List (Nat × Nat) := fun k => match k with
  | 1 => [(66, 0)]
  | 3 => [(62, 1)]
  | 4 => [(62, 0)]
  | 7 => [(205, 0), (214, 1)]
  | _ => []
