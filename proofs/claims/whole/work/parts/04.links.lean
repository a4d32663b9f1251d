/-! what the words say of methods, links, kinds -/
def pm_okM (M : pmM) : Prop := plainName M.1.cls = true ∧ (M.1.cls ≠ "java/lang/invoke/MethodHandle" ∧ M.1.cls ≠ "java/lang/invoke/VarHandle") ∧ (parseMethodDescriptor M.1.desc).map (fun d => d.parameters.length) = some M.2.2.2.2.2.1 ∧ M.2.2.1 ≤ 21 ∧ Cond.code M.1 M.2.1 M.2.2.1 M.2.2.2.1 ∈ lw_tbl ∧ Cond.initialized M.1.cls ∈ lw_tbl ∧ pm_cn M.2.2.2.2.1 = M.1.cls ∧ pm_ck M.2.1 M.2.2.2.2.2.2 = true
def pm_okV (own : Nat) (e : Nat × Nat × Nat × Nat × Nat) : Prop := ∃ M, pm_mt e.2.1 = some M ∧ pm_okM M ∧ M.2.2.2.2.2.1 = e.2.2.1 ∧ M.2.2.2.2.1 = e.2.2.2.2 ∧ Cond.methodLink (pm_cn own) e.1 M.1 ∈ lw_tbl ∧ Cond.instanceMethod M.1 ∈ lw_tbl ∧ Cond.selects M.1.cls M.1 M.1 ∈ lw_tbl
def pm_okS (own : Nat) (e : Nat × Nat × Nat × Nat × Nat) : Prop := ∃ M, pm_mt e.2.1 = some M ∧ pm_okM M ∧ M.2.2.2.2.2.1 = e.2.2.1 ∧ (Cond.methodLink (pm_cn own) e.1 M.1 ∈ lw_tbl ∨ ∃ host, Cond.methodLinkNest (pm_cn own) e.1 M.1 host ∈ lw_tbl) ∧ Cond.static M.1 ∈ lw_tbl
def pm_okI (own : Nat) (e : Nat × Nat × Nat × Nat × Nat) : Prop := ∃ M, pm_mt e.2.1 = some M ∧ pm_okM M ∧ M.2.2.2.2.2.1 = e.2.2.1 ∧ Cond.methodLink (pm_cn own) e.1 M.1 ∈ lw_tbl ∧ Cond.instanceMethod M.1 ∈ lw_tbl ∧ M.1.name = "<init>" ∧ M.2.2.2.1 = none
set_option maxRecDepth 50000 in
theorem ok_0 : pm_okM mt_0 := ⟨by decide +kernel, ⟨by decide +kernel, by decide +kernel⟩, by decide +kernel, by decide, List.mem_of_getElem? (i := 263) rfl, List.mem_of_getElem? (i := 47) (by decide +kernel), by decide +kernel, ck_0⟩
set_option maxRecDepth 50000 in
theorem ok_1 : pm_okM mt_1 := ⟨by decide +kernel, ⟨by decide +kernel, by decide +kernel⟩, by decide +kernel, by decide, List.mem_of_getElem? (i := 624) rfl, List.mem_of_getElem? (i := 47) (by decide +kernel), by decide +kernel, ck_1⟩
set_option maxRecDepth 50000 in
theorem ok_2 : pm_okM mt_2 := ⟨by decide +kernel, ⟨by decide +kernel, by decide +kernel⟩, by decide +kernel, by decide, List.mem_of_getElem? (i := 620) rfl, List.mem_of_getElem? (i := 47) (by decide +kernel), by decide +kernel, ck_2⟩
set_option maxRecDepth 50000 in
theorem ok_3 : pm_okM mt_3 := ⟨by decide +kernel, ⟨by decide +kernel, by decide +kernel⟩, by decide +kernel, by decide, List.mem_of_getElem? (i := 628) rfl, List.mem_of_getElem? (i := 47) (by decide +kernel), by decide +kernel, ck_3⟩
set_option maxRecDepth 50000 in
theorem ok_4 : pm_okM mt_4 := ⟨by decide +kernel, ⟨by decide +kernel, by decide +kernel⟩, by decide +kernel, by decide, List.mem_of_getElem? (i := 164) rfl, List.mem_of_getElem? (i := 43) (by decide +kernel), by decide +kernel, ck_4⟩
set_option maxRecDepth 50000 in
theorem ok_5 : pm_okM mt_5 := ⟨by decide +kernel, ⟨by decide +kernel, by decide +kernel⟩, by decide +kernel, by decide, List.mem_of_getElem? (i := 394) rfl, List.mem_of_getElem? (i := 43) (by decide +kernel), by decide +kernel, ck_5⟩
set_option maxRecDepth 50000 in
theorem ok_6 : pm_okM mt_6 := ⟨by decide +kernel, ⟨by decide +kernel, by decide +kernel⟩, by decide +kernel, by decide, List.mem_of_getElem? (i := 398) rfl, List.mem_of_getElem? (i := 43) (by decide +kernel), by decide +kernel, ck_6⟩
set_option maxRecDepth 50000 in
theorem ok_7 : pm_okM mt_7 := ⟨by decide +kernel, ⟨by decide +kernel, by decide +kernel⟩, by decide +kernel, by decide, List.mem_of_getElem? (i := 402) rfl, List.mem_of_getElem? (i := 43) (by decide +kernel), by decide +kernel, ck_7⟩
set_option maxRecDepth 50000 in
theorem ok_8 : pm_okM mt_8 := ⟨by decide +kernel, ⟨by decide +kernel, by decide +kernel⟩, by decide +kernel, by decide, List.mem_of_getElem? (i := 410) rfl, List.mem_of_getElem? (i := 43) (by decide +kernel), by decide +kernel, ck_8⟩
set_option maxRecDepth 50000 in
theorem ok_9 : pm_okM mt_9 := ⟨by decide +kernel, ⟨by decide +kernel, by decide +kernel⟩, by decide +kernel, by decide, List.mem_of_getElem? (i := 431) rfl, List.mem_of_getElem? (i := 43) (by decide +kernel), by decide +kernel, ck_9⟩
set_option maxRecDepth 50000 in
theorem ok_10 : pm_okM mt_10 := ⟨by decide +kernel, ⟨by decide +kernel, by decide +kernel⟩, by decide +kernel, by decide, List.mem_of_getElem? (i := 448) rfl, List.mem_of_getElem? (i := 43) (by decide +kernel), by decide +kernel, ck_10⟩
set_option maxRecDepth 50000 in
theorem ok_11 : pm_okM mt_11 := ⟨by decide +kernel, ⟨by decide +kernel, by decide +kernel⟩, by decide +kernel, by decide, List.mem_of_getElem? (i := 453) rfl, List.mem_of_getElem? (i := 43) (by decide +kernel), by decide +kernel, ck_11⟩
set_option maxRecDepth 50000 in
theorem ok_12 : pm_okM mt_12 := ⟨by decide +kernel, ⟨by decide +kernel, by decide +kernel⟩, by decide +kernel, by decide, List.mem_of_getElem? (i := 63) rfl, List.mem_of_getElem? (i := 41) (by decide +kernel), by decide +kernel, ck_12⟩
set_option maxRecDepth 50000 in
theorem ok_13 : pm_okM mt_13 := ⟨by decide +kernel, ⟨by decide +kernel, by decide +kernel⟩, by decide +kernel, by decide, List.mem_of_getElem? (i := 649) rfl, List.mem_of_getElem? (i := 41) (by decide +kernel), by decide +kernel, ck_13⟩
set_option maxRecDepth 50000 in
theorem ok_14 : pm_okM mt_14 := ⟨by decide +kernel, ⟨by decide +kernel, by decide +kernel⟩, by decide +kernel, by decide, List.mem_of_getElem? (i := 330) rfl, List.mem_of_getElem? (i := 41) (by decide +kernel), by decide +kernel, ck_14⟩
set_option maxRecDepth 50000 in
theorem ok_15 : pm_okM mt_15 := ⟨by decide +kernel, ⟨by decide +kernel, by decide +kernel⟩, by decide +kernel, by decide, List.mem_of_getElem? (i := 349) rfl, List.mem_of_getElem? (i := 41) (by decide +kernel), by decide +kernel, ck_15⟩
set_option maxRecDepth 50000 in
theorem ok_16 : pm_okM mt_16 := ⟨by decide +kernel, ⟨by decide +kernel, by decide +kernel⟩, by decide +kernel, by decide, List.mem_of_getElem? (i := 358) rfl, List.mem_of_getElem? (i := 41) (by decide +kernel), by decide +kernel, ck_16⟩
set_option maxRecDepth 50000 in
theorem ok_17 : pm_okM mt_17 := ⟨by decide +kernel, ⟨by decide +kernel, by decide +kernel⟩, by decide +kernel, by decide, List.mem_of_getElem? (i := 645) rfl, List.mem_of_getElem? (i := 41) (by decide +kernel), by decide +kernel, ck_17⟩
set_option maxRecDepth 50000 in
theorem ok_18 : pm_okM mt_18 := ⟨by decide +kernel, ⟨by decide +kernel, by decide +kernel⟩, by decide +kernel, by decide, List.mem_of_getElem? (i := 198) rfl, List.mem_of_getElem? (i := 44) (by decide +kernel), by decide +kernel, ck_18⟩
set_option maxRecDepth 50000 in
theorem ok_19 : pm_okM mt_19 := ⟨by decide +kernel, ⟨by decide +kernel, by decide +kernel⟩, by decide +kernel, by decide, List.mem_of_getElem? (i := 462) rfl, List.mem_of_getElem? (i := 44) (by decide +kernel), by decide +kernel, ck_19⟩
set_option maxRecDepth 50000 in
theorem ok_20 : pm_okM mt_20 := ⟨by decide +kernel, ⟨by decide +kernel, by decide +kernel⟩, by decide +kernel, by decide, List.mem_of_getElem? (i := 480) rfl, List.mem_of_getElem? (i := 44) (by decide +kernel), by decide +kernel, ck_20⟩
set_option maxRecDepth 50000 in
theorem ok_21 : pm_okM mt_21 := ⟨by decide +kernel, ⟨by decide +kernel, by decide +kernel⟩, by decide +kernel, by decide, List.mem_of_getElem? (i := 468) rfl, List.mem_of_getElem? (i := 44) (by decide +kernel), by decide +kernel, ck_21⟩
set_option maxRecDepth 50000 in
theorem ok_22 : pm_okM mt_22 := ⟨by decide +kernel, ⟨by decide +kernel, by decide +kernel⟩, by decide +kernel, by decide, List.mem_of_getElem? (i := 484) rfl, List.mem_of_getElem? (i := 44) (by decide +kernel), by decide +kernel, ck_22⟩
set_option maxRecDepth 50000 in
theorem ok_23 : pm_okM mt_23 := ⟨by decide +kernel, ⟨by decide +kernel, by decide +kernel⟩, by decide +kernel, by decide, List.mem_of_getElem? (i := 473) rfl, List.mem_of_getElem? (i := 44) (by decide +kernel), by decide +kernel, ck_23⟩
set_option maxRecDepth 50000 in
theorem ok_24 : pm_okM mt_24 := ⟨by decide +kernel, ⟨by decide +kernel, by decide +kernel⟩, by decide +kernel, by decide, List.mem_of_getElem? (i := 489) rfl, List.mem_of_getElem? (i := 44) (by decide +kernel), by decide +kernel, ck_24⟩
set_option maxRecDepth 50000 in
theorem ok_25 : pm_okM mt_25 := ⟨by decide +kernel, ⟨by decide +kernel, by decide +kernel⟩, by decide +kernel, by decide, List.mem_of_getElem? (i := 493) rfl, List.mem_of_getElem? (i := 44) (by decide +kernel), by decide +kernel, ck_25⟩
set_option maxRecDepth 50000 in
theorem ok_26 : pm_okM mt_26 := ⟨by decide +kernel, ⟨by decide +kernel, by decide +kernel⟩, by decide +kernel, by decide, List.mem_of_getElem? (i := 502) rfl, List.mem_of_getElem? (i := 44) (by decide +kernel), by decide +kernel, ck_26⟩
set_option maxRecDepth 50000 in
theorem ok_27 : pm_okM mt_27 := ⟨by decide +kernel, ⟨by decide +kernel, by decide +kernel⟩, by decide +kernel, by decide, List.mem_of_getElem? (i := 218) rfl, List.mem_of_getElem? (i := 45) (by decide +kernel), by decide +kernel, ck_27⟩
set_option maxRecDepth 50000 in
theorem ok_28 : pm_okM mt_28 := ⟨by decide +kernel, ⟨by decide +kernel, by decide +kernel⟩, by decide +kernel, by decide, List.mem_of_getElem? (i := 366) rfl, List.mem_of_getElem? (i := 45) (by decide +kernel), by decide +kernel, ck_28⟩
set_option maxRecDepth 50000 in
theorem ok_29 : pm_okM mt_29 := ⟨by decide +kernel, ⟨by decide +kernel, by decide +kernel⟩, by decide +kernel, by decide, List.mem_of_getElem? (i := 550) rfl, List.mem_of_getElem? (i := 45) (by decide +kernel), by decide +kernel, ck_29⟩
set_option maxRecDepth 50000 in
theorem ok_30 : pm_okM mt_30 := ⟨by decide +kernel, ⟨by decide +kernel, by decide +kernel⟩, by decide +kernel, by decide, List.mem_of_getElem? (i := 546) rfl, List.mem_of_getElem? (i := 45) (by decide +kernel), by decide +kernel, ck_30⟩
set_option maxRecDepth 50000 in
theorem ok_31 : pm_okM mt_31 := ⟨by decide +kernel, ⟨by decide +kernel, by decide +kernel⟩, by decide +kernel, by decide, List.mem_of_getElem? (i := 558) rfl, List.mem_of_getElem? (i := 45) (by decide +kernel), by decide +kernel, ck_31⟩
set_option maxRecDepth 50000 in
theorem ok_32 : pm_okM mt_32 := ⟨by decide +kernel, ⟨by decide +kernel, by decide +kernel⟩, by decide +kernel, by decide, List.mem_of_getElem? (i := 562) rfl, List.mem_of_getElem? (i := 45) (by decide +kernel), by decide +kernel, ck_32⟩
set_option maxRecDepth 50000 in
theorem ok_33 : pm_okM mt_33 := ⟨by decide +kernel, ⟨by decide +kernel, by decide +kernel⟩, by decide +kernel, by decide, List.mem_of_getElem? (i := 566) rfl, List.mem_of_getElem? (i := 45) (by decide +kernel), by decide +kernel, ck_33⟩
set_option maxRecDepth 50000 in
theorem ok_34 : pm_okM mt_34 := ⟨by decide +kernel, ⟨by decide +kernel, by decide +kernel⟩, by decide +kernel, by decide, List.mem_of_getElem? (i := 575) rfl, List.mem_of_getElem? (i := 45) (by decide +kernel), by decide +kernel, ck_34⟩
set_option maxRecDepth 50000 in
theorem ok_35 : pm_okM mt_35 := ⟨by decide +kernel, ⟨by decide +kernel, by decide +kernel⟩, by decide +kernel, by decide, List.mem_of_getElem? (i := 603) rfl, List.mem_of_getElem? (i := 45) (by decide +kernel), by decide +kernel, ck_35⟩
set_option maxRecDepth 50000 in
theorem ok_36 : pm_okM mt_36 := ⟨by decide +kernel, ⟨by decide +kernel, by decide +kernel⟩, by decide +kernel, by decide, List.mem_of_getElem? (i := 590) rfl, List.mem_of_getElem? (i := 45) (by decide +kernel), by decide +kernel, ck_36⟩
set_option maxRecDepth 50000 in
theorem ok_37 : pm_okM mt_37 := ⟨by decide +kernel, ⟨by decide +kernel, by decide +kernel⟩, by decide +kernel, by decide, List.mem_of_getElem? (i := 595) rfl, List.mem_of_getElem? (i := 45) (by decide +kernel), by decide +kernel, ck_37⟩
set_option maxRecDepth 50000 in
theorem ok_38 : pm_okM mt_38 := ⟨by decide +kernel, ⟨by decide +kernel, by decide +kernel⟩, by decide +kernel, by decide, List.mem_of_getElem? (i := 599) rfl, List.mem_of_getElem? (i := 45) (by decide +kernel), by decide +kernel, ck_38⟩
set_option maxRecDepth 50000 in
theorem ok_39 : pm_okM mt_39 := ⟨by decide +kernel, ⟨by decide +kernel, by decide +kernel⟩, by decide +kernel, by decide, List.mem_of_getElem? (i := 91) rfl, List.mem_of_getElem? (i := 42) (by decide +kernel), by decide +kernel, ck_39⟩
set_option maxRecDepth 50000 in
theorem ok_40 : pm_okM mt_40 := ⟨by decide +kernel, ⟨by decide +kernel, by decide +kernel⟩, by decide +kernel, by decide, List.mem_of_getElem? (i := 345) rfl, List.mem_of_getElem? (i := 42) (by decide +kernel), by decide +kernel, ck_40⟩
set_option maxRecDepth 50000 in
theorem ok_41 : pm_okM mt_41 := ⟨by decide +kernel, ⟨by decide +kernel, by decide +kernel⟩, by decide +kernel, by decide, List.mem_of_getElem? (i := 519) rfl, List.mem_of_getElem? (i := 42) (by decide +kernel), by decide +kernel, ck_41⟩
set_option maxRecDepth 50000 in
theorem ok_42 : pm_okM mt_42 := ⟨by decide +kernel, ⟨by decide +kernel, by decide +kernel⟩, by decide +kernel, by decide, List.mem_of_getElem? (i := 354) rfl, List.mem_of_getElem? (i := 42) (by decide +kernel), by decide +kernel, ck_42⟩
set_option maxRecDepth 50000 in
theorem ok_43 : pm_okM mt_43 := ⟨by decide +kernel, ⟨by decide +kernel, by decide +kernel⟩, by decide +kernel, by decide, List.mem_of_getElem? (i := 637) rfl, List.mem_of_getElem? (i := 42) (by decide +kernel), by decide +kernel, ck_43⟩
set_option maxRecDepth 50000 in
theorem ok_44 : pm_okM mt_44 := ⟨by decide +kernel, ⟨by decide +kernel, by decide +kernel⟩, by decide +kernel, by decide, List.mem_of_getElem? (i := 362) rfl, List.mem_of_getElem? (i := 42) (by decide +kernel), by decide +kernel, ck_44⟩
set_option maxRecDepth 50000 in
theorem ok_45 : pm_okM mt_45 := ⟨by decide +kernel, ⟨by decide +kernel, by decide +kernel⟩, by decide +kernel, by decide, List.mem_of_getElem? (i := 421) rfl, List.mem_of_getElem? (i := 42) (by decide +kernel), by decide +kernel, ck_45⟩
set_option maxRecDepth 50000 in
theorem ok_46 : pm_okM mt_46 := ⟨by decide +kernel, ⟨by decide +kernel, by decide +kernel⟩, by decide +kernel, by decide, List.mem_of_getElem? (i := 406) rfl, List.mem_of_getElem? (i := 42) (by decide +kernel), by decide +kernel, ck_46⟩
set_option maxRecDepth 50000 in
theorem ok_47 : pm_okM mt_47 := ⟨by decide +kernel, ⟨by decide +kernel, by decide +kernel⟩, by decide +kernel, by decide, List.mem_of_getElem? (i := 435) rfl, List.mem_of_getElem? (i := 42) (by decide +kernel), by decide +kernel, ck_47⟩
set_option maxRecDepth 50000 in
theorem ok_48 : pm_okM mt_48 := ⟨by decide +kernel, ⟨by decide +kernel, by decide +kernel⟩, by decide +kernel, by decide, List.mem_of_getElem? (i := 570) rfl, List.mem_of_getElem? (i := 42) (by decide +kernel), by decide +kernel, ck_48⟩
set_option maxRecDepth 50000 in
theorem ok_49 : pm_okM mt_49 := ⟨by decide +kernel, ⟨by decide +kernel, by decide +kernel⟩, by decide +kernel, by decide, List.mem_of_getElem? (i := 382) rfl, List.mem_of_getElem? (i := 42) (by decide +kernel), by decide +kernel, ck_49⟩
set_option maxRecDepth 50000 in
theorem ok_50 : pm_okM mt_50 := ⟨by decide +kernel, ⟨by decide +kernel, by decide +kernel⟩, by decide +kernel, by decide, List.mem_of_getElem? (i := 278) rfl, List.mem_of_getElem? (i := 48) (by decide +kernel), by decide +kernel, ck_50⟩
set_option maxRecDepth 50000 in
theorem ok_51 : pm_okM mt_51 := ⟨by decide +kernel, ⟨by decide +kernel, by decide +kernel⟩, by decide +kernel, by decide, List.mem_of_getElem? (i := 662) rfl, List.mem_of_getElem? (i := 48) (by decide +kernel), by decide +kernel, ck_51⟩
set_option maxRecDepth 50000 in
theorem ok_52 : pm_okM mt_52 := ⟨by decide +kernel, ⟨by decide +kernel, by decide +kernel⟩, by decide +kernel, by decide, List.mem_of_getElem? (i := 670) rfl, List.mem_of_getElem? (i := 48) (by decide +kernel), by decide +kernel, ck_52⟩
set_option maxRecDepth 50000 in
theorem ok_53 : pm_okM mt_53 := ⟨by decide +kernel, ⟨by decide +kernel, by decide +kernel⟩, by decide +kernel, by decide, List.mem_of_getElem? (i := 55) rfl, List.mem_of_getElem? (i := 40) (by decide +kernel), by decide +kernel, ck_53⟩
set_option maxRecDepth 50000 in
theorem ok_54 : pm_okM mt_54 := ⟨by decide +kernel, ⟨by decide +kernel, by decide +kernel⟩, by decide +kernel, by decide, List.mem_of_getElem? (i := 316) rfl, List.mem_of_getElem? (i := 40) (by decide +kernel), by decide +kernel, ck_54⟩
set_option maxRecDepth 50000 in
theorem ok_55 : pm_okM mt_55 := ⟨by decide +kernel, ⟨by decide +kernel, by decide +kernel⟩, by decide +kernel, by decide, List.mem_of_getElem? (i := 334) rfl, List.mem_of_getElem? (i := 40) (by decide +kernel), by decide +kernel, ck_55⟩
set_option maxRecDepth 50000 in
theorem ok_56 : pm_okM mt_56 := ⟨by decide +kernel, ⟨by decide +kernel, by decide +kernel⟩, by decide +kernel, by decide, List.mem_of_getElem? (i := 370) rfl, List.mem_of_getElem? (i := 40) (by decide +kernel), by decide +kernel, ck_56⟩
set_option maxRecDepth 50000 in
theorem ok_57 : pm_okM mt_57 := ⟨by decide +kernel, ⟨by decide +kernel, by decide +kernel⟩, by decide +kernel, by decide, List.mem_of_getElem? (i := 375) rfl, List.mem_of_getElem? (i := 40) (by decide +kernel), by decide +kernel, ck_57⟩
set_option maxRecDepth 50000 in
theorem ok_58 : pm_okM mt_58 := ⟨by decide +kernel, ⟨by decide +kernel, by decide +kernel⟩, by decide +kernel, by decide, List.mem_of_getElem? (i := 386) rfl, List.mem_of_getElem? (i := 40) (by decide +kernel), by decide +kernel, ck_58⟩
set_option maxRecDepth 50000 in
theorem ok_59 : pm_okM mt_59 := ⟨by decide +kernel, ⟨by decide +kernel, by decide +kernel⟩, by decide +kernel, by decide, List.mem_of_getElem? (i := 417) rfl, List.mem_of_getElem? (i := 40) (by decide +kernel), by decide +kernel, ck_59⟩
set_option maxRecDepth 50000 in
theorem ok_60 : pm_okM mt_60 := ⟨by decide +kernel, ⟨by decide +kernel, by decide +kernel⟩, by decide +kernel, by decide, List.mem_of_getElem? (i := 427) rfl, List.mem_of_getElem? (i := 40) (by decide +kernel), by decide +kernel, ck_60⟩
set_option maxRecDepth 50000 in
theorem ok_61 : pm_okM mt_61 := ⟨by decide +kernel, ⟨by decide +kernel, by decide +kernel⟩, by decide +kernel, by decide, List.mem_of_getElem? (i := 439) rfl, List.mem_of_getElem? (i := 40) (by decide +kernel), by decide +kernel, ck_61⟩
set_option maxRecDepth 50000 in
theorem ok_62 : pm_okM mt_62 := ⟨by decide +kernel, ⟨by decide +kernel, by decide +kernel⟩, by decide +kernel, by decide, List.mem_of_getElem? (i := 444) rfl, List.mem_of_getElem? (i := 40) (by decide +kernel), by decide +kernel, ck_62⟩
set_option maxRecDepth 50000 in
theorem ok_63 : pm_okM mt_63 := ⟨by decide +kernel, ⟨by decide +kernel, by decide +kernel⟩, by decide +kernel, by decide, List.mem_of_getElem? (i := 458) rfl, List.mem_of_getElem? (i := 40) (by decide +kernel), by decide +kernel, ck_63⟩
set_option maxRecDepth 50000 in
theorem ok_64 : pm_okM mt_64 := ⟨by decide +kernel, ⟨by decide +kernel, by decide +kernel⟩, by decide +kernel, by decide, List.mem_of_getElem? (i := 498) rfl, List.mem_of_getElem? (i := 40) (by decide +kernel), by decide +kernel, ck_64⟩
set_option maxRecDepth 50000 in
theorem ok_65 : pm_okM mt_65 := ⟨by decide +kernel, ⟨by decide +kernel, by decide +kernel⟩, by decide +kernel, by decide, List.mem_of_getElem? (i := 510) rfl, List.mem_of_getElem? (i := 40) (by decide +kernel), by decide +kernel, ck_65⟩
set_option maxRecDepth 50000 in
theorem ok_66 : pm_okM mt_66 := ⟨by decide +kernel, ⟨by decide +kernel, by decide +kernel⟩, by decide +kernel, by decide, List.mem_of_getElem? (i := 515) rfl, List.mem_of_getElem? (i := 40) (by decide +kernel), by decide +kernel, ck_66⟩
set_option maxRecDepth 50000 in
theorem ok_67 : pm_okM mt_67 := ⟨by decide +kernel, ⟨by decide +kernel, by decide +kernel⟩, by decide +kernel, by decide, List.mem_of_getElem? (i := 526) rfl, List.mem_of_getElem? (i := 40) (by decide +kernel), by decide +kernel, ck_67⟩
set_option maxRecDepth 50000 in
theorem ok_68 : pm_okM mt_68 := ⟨by decide +kernel, ⟨by decide +kernel, by decide +kernel⟩, by decide +kernel, by decide, List.mem_of_getElem? (i := 530) rfl, List.mem_of_getElem? (i := 40) (by decide +kernel), by decide +kernel, ck_68⟩
set_option maxRecDepth 50000 in
theorem ok_69 : pm_okM mt_69 := ⟨by decide +kernel, ⟨by decide +kernel, by decide +kernel⟩, by decide +kernel, by decide, List.mem_of_getElem? (i := 534) rfl, List.mem_of_getElem? (i := 40) (by decide +kernel), by decide +kernel, ck_69⟩
set_option maxRecDepth 50000 in
theorem ok_70 : pm_okM mt_70 := ⟨by decide +kernel, ⟨by decide +kernel, by decide +kernel⟩, by decide +kernel, by decide, List.mem_of_getElem? (i := 538) rfl, List.mem_of_getElem? (i := 40) (by decide +kernel), by decide +kernel, ck_70⟩
set_option maxRecDepth 50000 in
theorem ok_71 : pm_okM mt_71 := ⟨by decide +kernel, ⟨by decide +kernel, by decide +kernel⟩, by decide +kernel, by decide, List.mem_of_getElem? (i := 542) rfl, List.mem_of_getElem? (i := 40) (by decide +kernel), by decide +kernel, ck_71⟩
set_option maxRecDepth 50000 in
theorem ok_72 : pm_okM mt_72 := ⟨by decide +kernel, ⟨by decide +kernel, by decide +kernel⟩, by decide +kernel, by decide, List.mem_of_getElem? (i := 554) rfl, List.mem_of_getElem? (i := 40) (by decide +kernel), by decide +kernel, ck_72⟩
set_option maxRecDepth 50000 in
theorem ok_73 : pm_okM mt_73 := ⟨by decide +kernel, ⟨by decide +kernel, by decide +kernel⟩, by decide +kernel, by decide, List.mem_of_getElem? (i := 580) rfl, List.mem_of_getElem? (i := 40) (by decide +kernel), by decide +kernel, ck_73⟩
set_option maxRecDepth 50000 in
theorem ok_74 : pm_okM mt_74 := ⟨by decide +kernel, ⟨by decide +kernel, by decide +kernel⟩, by decide +kernel, by decide, List.mem_of_getElem? (i := 586) rfl, List.mem_of_getElem? (i := 40) (by decide +kernel), by decide +kernel, ck_74⟩
set_option maxRecDepth 50000 in
theorem ok_75 : pm_okM mt_75 := ⟨by decide +kernel, ⟨by decide +kernel, by decide +kernel⟩, by decide +kernel, by decide, List.mem_of_getElem? (i := 607) rfl, List.mem_of_getElem? (i := 40) (by decide +kernel), by decide +kernel, ck_75⟩
set_option maxRecDepth 50000 in
theorem ok_76 : pm_okM mt_76 := ⟨by decide +kernel, ⟨by decide +kernel, by decide +kernel⟩, by decide +kernel, by decide, List.mem_of_getElem? (i := 611) rfl, List.mem_of_getElem? (i := 40) (by decide +kernel), by decide +kernel, ck_76⟩
set_option maxRecDepth 50000 in
theorem ok_77 : pm_okM mt_77 := ⟨by decide +kernel, ⟨by decide +kernel, by decide +kernel⟩, by decide +kernel, by decide, List.mem_of_getElem? (i := 615) rfl, List.mem_of_getElem? (i := 40) (by decide +kernel), by decide +kernel, ck_77⟩
set_option maxRecDepth 50000 in
theorem ok_78 : pm_okM mt_78 := ⟨by decide +kernel, ⟨by decide +kernel, by decide +kernel⟩, by decide +kernel, by decide, List.mem_of_getElem? (i := 633) rfl, List.mem_of_getElem? (i := 40) (by decide +kernel), by decide +kernel, ck_78⟩
set_option maxRecDepth 50000 in
theorem ok_79 : pm_okM mt_79 := ⟨by decide +kernel, ⟨by decide +kernel, by decide +kernel⟩, by decide +kernel, by decide, List.mem_of_getElem? (i := 641) rfl, List.mem_of_getElem? (i := 40) (by decide +kernel), by decide +kernel, ck_79⟩
set_option maxRecDepth 50000 in
theorem ok_80 : pm_okM mt_80 := ⟨by decide +kernel, ⟨by decide +kernel, by decide +kernel⟩, by decide +kernel, by decide, List.mem_of_getElem? (i := 653) rfl, List.mem_of_getElem? (i := 40) (by decide +kernel), by decide +kernel, ck_80⟩
set_option maxRecDepth 50000 in
theorem ok_81 : pm_okM mt_81 := ⟨by decide +kernel, ⟨by decide +kernel, by decide +kernel⟩, by decide +kernel, by decide, List.mem_of_getElem? (i := 658) rfl, List.mem_of_getElem? (i := 40) (by decide +kernel), by decide +kernel, ck_81⟩
set_option maxRecDepth 50000 in
theorem ok_82 : pm_okM mt_82 := ⟨by decide +kernel, ⟨by decide +kernel, by decide +kernel⟩, by decide +kernel, by decide, List.mem_of_getElem? (i := 666) rfl, List.mem_of_getElem? (i := 40) (by decide +kernel), by decide +kernel, ck_82⟩
set_option maxRecDepth 50000 in
theorem ok_83 : pm_okM mt_83 := ⟨by decide +kernel, ⟨by decide +kernel, by decide +kernel⟩, by decide +kernel, by decide, List.mem_of_getElem? (i := 675) rfl, List.mem_of_getElem? (i := 40) (by decide +kernel), by decide +kernel, ck_83⟩
set_option maxRecDepth 50000 in
theorem ok_84 : pm_okM mt_84 := ⟨by decide +kernel, ⟨by decide +kernel, by decide +kernel⟩, by decide +kernel, by decide, List.mem_of_getElem? (i := 687) rfl, List.mem_of_getElem? (i := 40) (by decide +kernel), by decide +kernel, ck_84⟩
set_option maxRecDepth 50000 in
theorem ok_85 : pm_okM mt_85 := ⟨by decide +kernel, ⟨by decide +kernel, by decide +kernel⟩, by decide +kernel, by decide, List.mem_of_getElem? (i := 324) rfl, List.mem_of_getElem? (i := 40) (by decide +kernel), by decide +kernel, ck_85⟩
set_option maxRecDepth 50000 in
theorem ok_86 : pm_okM mt_86 := ⟨by decide +kernel, ⟨by decide +kernel, by decide +kernel⟩, by decide +kernel, by decide, List.mem_of_getElem? (i := 319) rfl, List.mem_of_getElem? (i := 40) (by decide +kernel), by decide +kernel, ck_86⟩
set_option maxRecDepth 50000 in
theorem ok_87 : pm_okM mt_87 := ⟨by decide +kernel, ⟨by decide +kernel, by decide +kernel⟩, by decide +kernel, by decide, List.mem_of_getElem? (i := 378) rfl, List.mem_of_getElem? (i := 40) (by decide +kernel), by decide +kernel, ck_87⟩
set_option maxRecDepth 50000 in
theorem ok_88 : pm_okM mt_88 := ⟨by decide +kernel, ⟨by decide +kernel, by decide +kernel⟩, by decide +kernel, by decide, List.mem_of_getElem? (i := 506) rfl, List.mem_of_getElem? (i := 40) (by decide +kernel), by decide +kernel, ck_88⟩
set_option maxRecDepth 50000 in
theorem ok_89 : pm_okM mt_89 := ⟨by decide +kernel, ⟨by decide +kernel, by decide +kernel⟩, by decide +kernel, by decide, List.mem_of_getElem? (i := 337) rfl, List.mem_of_getElem? (i := 40) (by decide +kernel), by decide +kernel, ck_89⟩
set_option maxRecDepth 50000 in
theorem ok_90 : pm_okM mt_90 := ⟨by decide +kernel, ⟨by decide +kernel, by decide +kernel⟩, by decide +kernel, by decide, List.mem_of_getElem? (i := 341) rfl, List.mem_of_getElem? (i := 40) (by decide +kernel), by decide +kernel, ck_90⟩
set_option maxRecDepth 50000 in
theorem ok_91 : pm_okM mt_91 := ⟨by decide +kernel, ⟨by decide +kernel, by decide +kernel⟩, by decide +kernel, by decide, List.mem_of_getElem? (i := 390) rfl, List.mem_of_getElem? (i := 40) (by decide +kernel), by decide +kernel, ck_91⟩
set_option maxRecDepth 50000 in
theorem ok_92 : pm_okM mt_92 := ⟨by decide +kernel, ⟨by decide +kernel, by decide +kernel⟩, by decide +kernel, by decide, List.mem_of_getElem? (i := 679) rfl, List.mem_of_getElem? (i := 40) (by decide +kernel), by decide +kernel, ck_92⟩
set_option maxRecDepth 50000 in
theorem ok_93 : pm_okM mt_93 := ⟨by decide +kernel, ⟨by decide +kernel, by decide +kernel⟩, by decide +kernel, by decide, List.mem_of_getElem? (i := 683) rfl, List.mem_of_getElem? (i := 40) (by decide +kernel), by decide +kernel, ck_93⟩
set_option maxRecDepth 50000 in
theorem ok_94 : pm_okM mt_94 := ⟨by decide +kernel, ⟨by decide +kernel, by decide +kernel⟩, by decide +kernel, by decide, List.mem_of_getElem? (i := 692) rfl, List.mem_of_getElem? (i := 49) (by decide +kernel), by decide +kernel, ck_94⟩
set_option maxRecDepth 50000 in
theorem ok_95 : pm_okM mt_95 := ⟨by decide +kernel, ⟨by decide +kernel, by decide +kernel⟩, by decide +kernel, by decide, List.mem_of_getElem? (i := 812) rfl, List.mem_of_getElem? (i := 49) (by decide +kernel), by decide +kernel, ck_95⟩
set_option maxRecDepth 50000 in
theorem ok_96 : pm_okM mt_96 := ⟨by decide +kernel, ⟨by decide +kernel, by decide +kernel⟩, by decide +kernel, by decide, List.mem_of_getElem? (i := 816) rfl, List.mem_of_getElem? (i := 49) (by decide +kernel), by decide +kernel, ck_96⟩
set_option maxRecDepth 50000 in
theorem ok_97 : pm_okM mt_97 := ⟨by decide +kernel, ⟨by decide +kernel, by decide +kernel⟩, by decide +kernel, by decide, List.mem_of_getElem? (i := 825) rfl, List.mem_of_getElem? (i := 49) (by decide +kernel), by decide +kernel, ck_97⟩
set_option maxRecDepth 50000 in
theorem ok_98 : pm_okM mt_98 := ⟨by decide +kernel, ⟨by decide +kernel, by decide +kernel⟩, by decide +kernel, by decide, List.mem_of_getElem? (i := 917) rfl, List.mem_of_getElem? (i := 49) (by decide +kernel), by decide +kernel, ck_98⟩
set_option maxRecDepth 50000 in
theorem ok_99 : pm_okM mt_99 := ⟨by decide +kernel, ⟨by decide +kernel, by decide +kernel⟩, by decide +kernel, by decide, List.mem_of_getElem? (i := 809) rfl, List.mem_of_getElem? (i := 49) (by decide +kernel), by decide +kernel, ck_99⟩
set_option maxRecDepth 50000 in
theorem ok_100 : pm_okM mt_100 := ⟨by decide +kernel, ⟨by decide +kernel, by decide +kernel⟩, by decide +kernel, by decide, List.mem_of_getElem? (i := 829) rfl, List.mem_of_getElem? (i := 49) (by decide +kernel), by decide +kernel, ck_100⟩
set_option maxRecDepth 50000 in
theorem ok_101 : pm_okM mt_101 := ⟨by decide +kernel, ⟨by decide +kernel, by decide +kernel⟩, by decide +kernel, by decide, List.mem_of_getElem? (i := 833) rfl, List.mem_of_getElem? (i := 49) (by decide +kernel), by decide +kernel, ck_101⟩
set_option maxRecDepth 50000 in
theorem ok_102 : pm_okM mt_102 := ⟨by decide +kernel, ⟨by decide +kernel, by decide +kernel⟩, by decide +kernel, by decide, List.mem_of_getElem? (i := 821) rfl, List.mem_of_getElem? (i := 49) (by decide +kernel), by decide +kernel, ck_102⟩
set_option maxRecDepth 50000 in
theorem ok_103 : pm_okM mt_103 := ⟨by decide +kernel, ⟨by decide +kernel, by decide +kernel⟩, by decide +kernel, by decide, List.mem_of_getElem? (i := 837) rfl, List.mem_of_getElem? (i := 49) (by decide +kernel), by decide +kernel, ck_103⟩
set_option maxRecDepth 50000 in
theorem ok_104 : pm_okM mt_104 := ⟨by decide +kernel, ⟨by decide +kernel, by decide +kernel⟩, by decide +kernel, by decide, List.mem_of_getElem? (i := 846) rfl, List.mem_of_getElem? (i := 49) (by decide +kernel), by decide +kernel, ck_104⟩
set_option maxRecDepth 50000 in
theorem ok_105 : pm_okM mt_105 := ⟨by decide +kernel, ⟨by decide +kernel, by decide +kernel⟩, by decide +kernel, by decide, List.mem_of_getElem? (i := 842) rfl, List.mem_of_getElem? (i := 49) (by decide +kernel), by decide +kernel, ck_105⟩
set_option maxRecDepth 50000 in
theorem ok_106 : pm_okM mt_106 := ⟨by decide +kernel, ⟨by decide +kernel, by decide +kernel⟩, by decide +kernel, by decide, List.mem_of_getElem? (i := 854) rfl, List.mem_of_getElem? (i := 49) (by decide +kernel), by decide +kernel, ck_106⟩
set_option maxRecDepth 50000 in
theorem ok_107 : pm_okM mt_107 := ⟨by decide +kernel, ⟨by decide +kernel, by decide +kernel⟩, by decide +kernel, by decide, List.mem_of_getElem? (i := 850) rfl, List.mem_of_getElem? (i := 49) (by decide +kernel), by decide +kernel, ck_107⟩
set_option maxRecDepth 50000 in
theorem ok_108 : pm_okM mt_108 := ⟨by decide +kernel, ⟨by decide +kernel, by decide +kernel⟩, by decide +kernel, by decide, List.mem_of_getElem? (i := 862) rfl, List.mem_of_getElem? (i := 49) (by decide +kernel), by decide +kernel, ck_108⟩
set_option maxRecDepth 50000 in
theorem ok_109 : pm_okM mt_109 := ⟨by decide +kernel, ⟨by decide +kernel, by decide +kernel⟩, by decide +kernel, by decide, List.mem_of_getElem? (i := 858) rfl, List.mem_of_getElem? (i := 49) (by decide +kernel), by decide +kernel, ck_109⟩
set_option maxRecDepth 50000 in
theorem ok_110 : pm_okM mt_110 := ⟨by decide +kernel, ⟨by decide +kernel, by decide +kernel⟩, by decide +kernel, by decide, List.mem_of_getElem? (i := 870) rfl, List.mem_of_getElem? (i := 49) (by decide +kernel), by decide +kernel, ck_110⟩
set_option maxRecDepth 50000 in
theorem ok_111 : pm_okM mt_111 := ⟨by decide +kernel, ⟨by decide +kernel, by decide +kernel⟩, by decide +kernel, by decide, List.mem_of_getElem? (i := 878) rfl, List.mem_of_getElem? (i := 49) (by decide +kernel), by decide +kernel, ck_111⟩
set_option maxRecDepth 50000 in
theorem ok_112 : pm_okM mt_112 := ⟨by decide +kernel, ⟨by decide +kernel, by decide +kernel⟩, by decide +kernel, by decide, List.mem_of_getElem? (i := 874) rfl, List.mem_of_getElem? (i := 49) (by decide +kernel), by decide +kernel, ck_112⟩
set_option maxRecDepth 50000 in
theorem ok_113 : pm_okM mt_113 := ⟨by decide +kernel, ⟨by decide +kernel, by decide +kernel⟩, by decide +kernel, by decide, List.mem_of_getElem? (i := 866) rfl, List.mem_of_getElem? (i := 49) (by decide +kernel), by decide +kernel, ck_113⟩
set_option maxRecDepth 50000 in
theorem ok_114 : pm_okM mt_114 := ⟨by decide +kernel, ⟨by decide +kernel, by decide +kernel⟩, by decide +kernel, by decide, List.mem_of_getElem? (i := 882) rfl, List.mem_of_getElem? (i := 49) (by decide +kernel), by decide +kernel, ck_114⟩
set_option maxRecDepth 50000 in
theorem ok_115 : pm_okM mt_115 := ⟨by decide +kernel, ⟨by decide +kernel, by decide +kernel⟩, by decide +kernel, by decide, List.mem_of_getElem? (i := 887) rfl, List.mem_of_getElem? (i := 49) (by decide +kernel), by decide +kernel, ck_115⟩
set_option maxRecDepth 50000 in
theorem ok_116 : pm_okM mt_116 := ⟨by decide +kernel, ⟨by decide +kernel, by decide +kernel⟩, by decide +kernel, by decide, List.mem_of_getElem? (i := 903) rfl, List.mem_of_getElem? (i := 49) (by decide +kernel), by decide +kernel, ck_116⟩
set_option maxRecDepth 50000 in
theorem ok_117 : pm_okM mt_117 := ⟨by decide +kernel, ⟨by decide +kernel, by decide +kernel⟩, by decide +kernel, by decide, List.mem_of_getElem? (i := 907) rfl, List.mem_of_getElem? (i := 49) (by decide +kernel), by decide +kernel, ck_117⟩
set_option maxRecDepth 50000 in
theorem ok_118 : pm_okM mt_118 := ⟨by decide +kernel, ⟨by decide +kernel, by decide +kernel⟩, by decide +kernel, by decide, List.mem_of_getElem? (i := 899) rfl, List.mem_of_getElem? (i := 49) (by decide +kernel), by decide +kernel, ck_118⟩
set_option maxRecDepth 50000 in
theorem ok_119 : pm_okM mt_119 := ⟨by decide +kernel, ⟨by decide +kernel, by decide +kernel⟩, by decide +kernel, by decide, List.mem_of_getElem? (i := 895) rfl, List.mem_of_getElem? (i := 49) (by decide +kernel), by decide +kernel, ck_119⟩
set_option maxRecDepth 50000 in
theorem ok_120 : pm_okM mt_120 := ⟨by decide +kernel, ⟨by decide +kernel, by decide +kernel⟩, by decide +kernel, by decide, List.mem_of_getElem? (i := 910) rfl, List.mem_of_getElem? (i := 49) (by decide +kernel), by decide +kernel, ck_120⟩
set_option maxRecDepth 50000 in
theorem ok_121 : pm_okM mt_121 := ⟨by decide +kernel, ⟨by decide +kernel, by decide +kernel⟩, by decide +kernel, by decide, List.mem_of_getElem? (i := 891) rfl, List.mem_of_getElem? (i := 49) (by decide +kernel), by decide +kernel, ck_121⟩
set_option maxRecDepth 50000 in
theorem ok_122 : pm_okM mt_122 := ⟨by decide +kernel, ⟨by decide +kernel, by decide +kernel⟩, by decide +kernel, by decide, List.mem_of_getElem? (i := 914) rfl, List.mem_of_getElem? (i := 49) (by decide +kernel), by decide +kernel, ck_122⟩
set_option maxRecDepth 50000 in
theorem ok_123 : pm_okM mt_123 := ⟨by decide +kernel, ⟨by decide +kernel, by decide +kernel⟩, by decide +kernel, by decide, List.mem_of_getElem? (i := 921) rfl, List.mem_of_getElem? (i := 49) (by decide +kernel), by decide +kernel, ck_123⟩
set_option maxRecDepth 50000 in
theorem ok_124 : pm_okM mt_124 := ⟨by decide +kernel, ⟨by decide +kernel, by decide +kernel⟩, by decide +kernel, by decide, List.mem_of_getElem? (i := 925) rfl, List.mem_of_getElem? (i := 49) (by decide +kernel), by decide +kernel, ck_124⟩
set_option maxRecDepth 50000 in
theorem ok_125 : pm_okM mt_125 := ⟨by decide +kernel, ⟨by decide +kernel, by decide +kernel⟩, by decide +kernel, by decide, List.mem_of_getElem? (i := 929) rfl, List.mem_of_getElem? (i := 49) (by decide +kernel), by decide +kernel, ck_125⟩
set_option maxRecDepth 50000 in
theorem ok_126 : pm_okM mt_126 := ⟨by decide +kernel, ⟨by decide +kernel, by decide +kernel⟩, by decide +kernel, by decide, List.mem_of_getElem? (i := 933) rfl, List.mem_of_getElem? (i := 49) (by decide +kernel), by decide +kernel, ck_126⟩
set_option maxRecDepth 50000 in
theorem ok_127 : pm_okM mt_127 := ⟨by decide +kernel, ⟨by decide +kernel, by decide +kernel⟩, by decide +kernel, by decide, List.mem_of_getElem? (i := 937) rfl, List.mem_of_getElem? (i := 49) (by decide +kernel), by decide +kernel, ck_127⟩
set_option maxRecDepth 50000 in
theorem ok_128 : pm_okM mt_128 := ⟨by decide +kernel, ⟨by decide +kernel, by decide +kernel⟩, by decide +kernel, by decide, List.mem_of_getElem? (i := 941) rfl, List.mem_of_getElem? (i := 49) (by decide +kernel), by decide +kernel, ck_128⟩
set_option maxRecDepth 50000 in
theorem ok_129 : pm_okM mt_129 := ⟨by decide +kernel, ⟨by decide +kernel, by decide +kernel⟩, by decide +kernel, by decide, List.mem_of_getElem? (i := 949) rfl, List.mem_of_getElem? (i := 49) (by decide +kernel), by decide +kernel, ck_129⟩
set_option maxRecDepth 50000 in
theorem ok_130 : pm_okM mt_130 := ⟨by decide +kernel, ⟨by decide +kernel, by decide +kernel⟩, by decide +kernel, by decide, List.mem_of_getElem? (i := 945) rfl, List.mem_of_getElem? (i := 49) (by decide +kernel), by decide +kernel, ck_130⟩
set_option maxRecDepth 50000 in
theorem ok_131 : pm_okM mt_131 := ⟨by decide +kernel, ⟨by decide +kernel, by decide +kernel⟩, by decide +kernel, by decide, List.mem_of_getElem? (i := 965) rfl, List.mem_of_getElem? (i := 49) (by decide +kernel), by decide +kernel, ck_131⟩
set_option maxRecDepth 50000 in
theorem ok_132 : pm_okM mt_132 := ⟨by decide +kernel, ⟨by decide +kernel, by decide +kernel⟩, by decide +kernel, by decide, List.mem_of_getElem? (i := 961) rfl, List.mem_of_getElem? (i := 49) (by decide +kernel), by decide +kernel, ck_132⟩
set_option maxRecDepth 50000 in
theorem ok_133 : pm_okM mt_133 := ⟨by decide +kernel, ⟨by decide +kernel, by decide +kernel⟩, by decide +kernel, by decide, List.mem_of_getElem? (i := 957) rfl, List.mem_of_getElem? (i := 49) (by decide +kernel), by decide +kernel, ck_133⟩
set_option maxRecDepth 50000 in
theorem ok_134 : pm_okM mt_134 := ⟨by decide +kernel, ⟨by decide +kernel, by decide +kernel⟩, by decide +kernel, by decide, List.mem_of_getElem? (i := 953) rfl, List.mem_of_getElem? (i := 49) (by decide +kernel), by decide +kernel, ck_134⟩
set_option maxRecDepth 50000 in
theorem ok_135 : pm_okM mt_135 := ⟨by decide +kernel, ⟨by decide +kernel, by decide +kernel⟩, by decide +kernel, by decide, List.mem_of_getElem? (i := 969) rfl, List.mem_of_getElem? (i := 49) (by decide +kernel), by decide +kernel, ck_135⟩
set_option maxRecDepth 50000 in
theorem ok_136 : pm_okM mt_136 := ⟨by decide +kernel, ⟨by decide +kernel, by decide +kernel⟩, by decide +kernel, by decide, List.mem_of_getElem? (i := 977) rfl, List.mem_of_getElem? (i := 49) (by decide +kernel), by decide +kernel, ck_136⟩
set_option maxRecDepth 50000 in
theorem ok_137 : pm_okM mt_137 := ⟨by decide +kernel, ⟨by decide +kernel, by decide +kernel⟩, by decide +kernel, by decide, List.mem_of_getElem? (i := 973) rfl, List.mem_of_getElem? (i := 49) (by decide +kernel), by decide +kernel, ck_137⟩
set_option maxRecDepth 50000 in
theorem ok_138 : pm_okM mt_138 := ⟨by decide +kernel, ⟨by decide +kernel, by decide +kernel⟩, by decide +kernel, by decide, List.mem_of_getElem? (i := 981) rfl, List.mem_of_getElem? (i := 49) (by decide +kernel), by decide +kernel, ck_138⟩
set_option maxRecDepth 50000 in
theorem ok_139 : pm_okM mt_139 := ⟨by decide +kernel, ⟨by decide +kernel, by decide +kernel⟩, by decide +kernel, by decide, List.mem_of_getElem? (i := 985) rfl, List.mem_of_getElem? (i := 49) (by decide +kernel), by decide +kernel, ck_139⟩
set_option maxRecDepth 50000 in
theorem ok_140 : pm_okM mt_140 := ⟨by decide +kernel, ⟨by decide +kernel, by decide +kernel⟩, by decide +kernel, by decide, List.mem_of_getElem? (i := 989) rfl, List.mem_of_getElem? (i := 49) (by decide +kernel), by decide +kernel, ck_140⟩
set_option maxRecDepth 50000 in
theorem ok_141 : pm_okM mt_141 := ⟨by decide +kernel, ⟨by decide +kernel, by decide +kernel⟩, by decide +kernel, by decide, List.mem_of_getElem? (i := 998) rfl, List.mem_of_getElem? (i := 49) (by decide +kernel), by decide +kernel, ck_141⟩
set_option maxRecDepth 50000 in
theorem ok_142 : pm_okM mt_142 := ⟨by decide +kernel, ⟨by decide +kernel, by decide +kernel⟩, by decide +kernel, by decide, List.mem_of_getElem? (i := 994) rfl, List.mem_of_getElem? (i := 49) (by decide +kernel), by decide +kernel, ck_142⟩
set_option maxRecDepth 50000 in
theorem ok_143 : pm_okM mt_143 := ⟨by decide +kernel, ⟨by decide +kernel, by decide +kernel⟩, by decide +kernel, by decide, List.mem_of_getElem? (i := 1002) rfl, List.mem_of_getElem? (i := 49) (by decide +kernel), by decide +kernel, ck_143⟩
set_option maxRecDepth 50000 in
theorem ok_144 : pm_okM mt_144 := ⟨by decide +kernel, ⟨by decide +kernel, by decide +kernel⟩, by decide +kernel, by decide, List.mem_of_getElem? (i := 1006) rfl, List.mem_of_getElem? (i := 49) (by decide +kernel), by decide +kernel, ck_144⟩
set_option maxRecDepth 50000 in
theorem ok_145 : pm_okM mt_145 := ⟨by decide +kernel, ⟨by decide +kernel, by decide +kernel⟩, by decide +kernel, by decide, List.mem_of_getElem? (i := 1010) rfl, List.mem_of_getElem? (i := 49) (by decide +kernel), by decide +kernel, ck_145⟩
set_option maxRecDepth 50000 in
theorem ok_146 : pm_okM mt_146 := ⟨by decide +kernel, ⟨by decide +kernel, by decide +kernel⟩, by decide +kernel, by decide, List.mem_of_getElem? (i := 1014) rfl, List.mem_of_getElem? (i := 49) (by decide +kernel), by decide +kernel, ck_146⟩
set_option maxRecDepth 50000 in
theorem ok_147 : pm_okM mt_147 := ⟨by decide +kernel, ⟨by decide +kernel, by decide +kernel⟩, by decide +kernel, by decide, List.mem_of_getElem? (i := 1018) rfl, List.mem_of_getElem? (i := 49) (by decide +kernel), by decide +kernel, ck_147⟩
set_option maxRecDepth 50000 in
theorem ok_148 : pm_okM mt_148 := ⟨by decide +kernel, ⟨by decide +kernel, by decide +kernel⟩, by decide +kernel, by decide, List.mem_of_getElem? (i := 1022) rfl, List.mem_of_getElem? (i := 49) (by decide +kernel), by decide +kernel, ck_148⟩
set_option maxRecDepth 50000 in
theorem ok_151 : pm_okM mt_151 := ⟨by decide +kernel, ⟨by decide +kernel, by decide +kernel⟩, by decide +kernel, by decide, List.mem_of_getElem? (i := 222) rfl, List.mem_of_getElem? (i := 46) (by decide +kernel), by decide +kernel, ck_151⟩
theorem pmv_0_19 : pm_okV 0 (19, 1, 0, 1, 0) := ⟨mt_1, rfl, ok_1, rfl, rfl, List.mem_of_getElem? (i := 621) (by decide +kernel), List.mem_of_getElem? (i := 623) (by decide +kernel), List.mem_of_getElem? (i := 16) (by decide +kernel)⟩
theorem pmv_0_23 : pm_okV 0 (23, 2, 1, 1, 0) := ⟨mt_2, rfl, ok_2, rfl, rfl, List.mem_of_getElem? (i := 629) (by decide +kernel), List.mem_of_getElem? (i := 618) (by decide +kernel), List.mem_of_getElem? (i := 619) (by decide +kernel)⟩
theorem pmv_0 : ∀ e ∈ pm_mvL 0, pm_okV 0 e := List.forall_mem_cons.mpr ⟨pmv_0_19, List.forall_mem_cons.mpr ⟨pmv_0_23, fun _ h => absurd h List.not_mem_nil⟩⟩
theorem pmv_1_36 : pm_okV 1 (36, 6, 0, 0, 1) := ⟨mt_6, rfl, ok_6, rfl, rfl, List.mem_of_getElem? (i := 395) (by decide +kernel), List.mem_of_getElem? (i := 397) (by decide +kernel), List.mem_of_getElem? (i := 3) (by decide +kernel)⟩
theorem pmv_1_39 : pm_okV 1 (39, 7, 0, 0, 1) := ⟨mt_7, rfl, ok_7, rfl, rfl, List.mem_of_getElem? (i := 399) (by decide +kernel), List.mem_of_getElem? (i := 401) (by decide +kernel), List.mem_of_getElem? (i := 4) (by decide +kernel)⟩
theorem pmv_1_42 : pm_okV 1 (42, 8, 0, 0, 1) := ⟨mt_8, rfl, ok_8, rfl, rfl, List.mem_of_getElem? (i := 407) (by decide +kernel), List.mem_of_getElem? (i := 409) (by decide +kernel), List.mem_of_getElem? (i := 5) (by decide +kernel)⟩
theorem pmv_1_56 : pm_okV 1 (56, 46, 1, 1, 5) := ⟨mt_46, rfl, ok_46, rfl, rfl, List.mem_of_getElem? (i := 403) (by decide +kernel), List.mem_of_getElem? (i := 404) (by decide +kernel), List.mem_of_getElem? (i := 405) (by decide +kernel)⟩
theorem pmv_1_78 : pm_okV 1 (78, 47, 1, 1, 5) := ⟨mt_47, rfl, ok_47, rfl, rfl, List.mem_of_getElem? (i := 432) (by decide +kernel), List.mem_of_getElem? (i := 433) (by decide +kernel), List.mem_of_getElem? (i := 434) (by decide +kernel)⟩
theorem pmv_1_81 : pm_okV 1 (81, 5, 0, 0, 1) := ⟨mt_5, rfl, ok_5, rfl, rfl, List.mem_of_getElem? (i := 449) (by decide +kernel), List.mem_of_getElem? (i := 392) (by decide +kernel), List.mem_of_getElem? (i := 393) (by decide +kernel)⟩
theorem pmv_1_84 : pm_okV 1 (84, 11, 0, 1, 1) := ⟨mt_11, rfl, ok_11, rfl, rfl, List.mem_of_getElem? (i := 450) (by decide +kernel), List.mem_of_getElem? (i := 452) (by decide +kernel), List.mem_of_getElem? (i := 6) (by decide +kernel)⟩
theorem pmv_1_88 : pm_okV 1 (88, 49, 1, 0, 5) := ⟨mt_49, rfl, ok_49, rfl, rfl, List.mem_of_getElem? (i := 454) (by decide +kernel), List.mem_of_getElem? (i := 380) (by decide +kernel), List.mem_of_getElem? (i := 381) (by decide +kernel)⟩
theorem pmv_1 : ∀ e ∈ pm_mvL 1, pm_okV 1 e := List.forall_mem_cons.mpr ⟨pmv_1_36, List.forall_mem_cons.mpr ⟨pmv_1_39, List.forall_mem_cons.mpr ⟨pmv_1_42, List.forall_mem_cons.mpr ⟨pmv_1_56, List.forall_mem_cons.mpr ⟨pmv_1_78, List.forall_mem_cons.mpr ⟨pmv_1_81, List.forall_mem_cons.mpr ⟨pmv_1_84, List.forall_mem_cons.mpr ⟨pmv_1_88, fun _ h => absurd h List.not_mem_nil⟩⟩⟩⟩⟩⟩⟩⟩
theorem pmv_2_28 : pm_okV 2 (28, 13, 1, 1, 2) := ⟨mt_13, rfl, ok_13, rfl, rfl, List.mem_of_getElem? (i := 646) (by decide +kernel), List.mem_of_getElem? (i := 647) (by decide +kernel), List.mem_of_getElem? (i := 648) (by decide +kernel)⟩
theorem pmv_2 : ∀ e ∈ pm_mvL 2, pm_okV 2 e := List.forall_mem_cons.mpr ⟨pmv_2_28, fun _ h => absurd h List.not_mem_nil⟩
theorem pmv_3_28 : pm_okV 3 (28, 5, 0, 0, 1) := ⟨mt_5, rfl, ok_5, rfl, rfl, List.mem_of_getElem? (i := 463) (by decide +kernel), List.mem_of_getElem? (i := 392) (by decide +kernel), List.mem_of_getElem? (i := 393) (by decide +kernel)⟩
theorem pmv_3_47 : pm_okV 3 (47, 21, 1, 1, 3) := ⟨mt_21, rfl, ok_21, rfl, rfl, List.mem_of_getElem? (i := 465) (by decide +kernel), List.mem_of_getElem? (i := 467) (by decide +kernel), List.mem_of_getElem? (i := 7) (by decide +kernel)⟩
theorem pmv_3_55 : pm_okV 3 (55, 20, 3, 0, 3) := ⟨mt_20, rfl, ok_20, rfl, rfl, List.mem_of_getElem? (i := 477) (by decide +kernel), List.mem_of_getElem? (i := 479) (by decide +kernel), List.mem_of_getElem? (i := 8) (by decide +kernel)⟩
theorem pmv_3_59 : pm_okV 3 (59, 22, 2, 1, 3) := ⟨mt_22, rfl, ok_22, rfl, rfl, List.mem_of_getElem? (i := 481) (by decide +kernel), List.mem_of_getElem? (i := 483) (by decide +kernel), List.mem_of_getElem? (i := 9) (by decide +kernel)⟩
theorem pmv_3_70 : pm_okV 3 (70, 47, 1, 1, 5) := ⟨mt_47, rfl, ok_47, rfl, rfl, List.mem_of_getElem? (i := 469) (by decide +kernel), List.mem_of_getElem? (i := 433) (by decide +kernel), List.mem_of_getElem? (i := 434) (by decide +kernel)⟩
theorem pmv_3_81 : pm_okV 3 (81, 25, 0, 1, 3) := ⟨mt_25, rfl, ok_25, rfl, rfl, List.mem_of_getElem? (i := 503) (by decide +kernel), List.mem_of_getElem? (i := 491) (by decide +kernel), List.mem_of_getElem? (i := 492) (by decide +kernel)⟩
theorem pmv_3 : ∀ e ∈ pm_mvL 3, pm_okV 3 e := List.forall_mem_cons.mpr ⟨pmv_3_28, List.forall_mem_cons.mpr ⟨pmv_3_47, List.forall_mem_cons.mpr ⟨pmv_3_55, List.forall_mem_cons.mpr ⟨pmv_3_59, List.forall_mem_cons.mpr ⟨pmv_3_70, List.forall_mem_cons.mpr ⟨pmv_3_81, fun _ h => absurd h List.not_mem_nil⟩⟩⟩⟩⟩⟩
theorem pmv_4_52 : pm_okV 4 (52, 29, 1, 1, 4) := ⟨mt_29, rfl, ok_29, rfl, rfl, List.mem_of_getElem? (i := 547) (by decide +kernel), List.mem_of_getElem? (i := 548) (by decide +kernel), List.mem_of_getElem? (i := 549) (by decide +kernel)⟩
theorem pmv_4_56 : pm_okV 4 (56, 32, 0, 0, 4) := ⟨mt_32, rfl, ok_32, rfl, rfl, List.mem_of_getElem? (i := 559) (by decide +kernel), List.mem_of_getElem? (i := 561) (by decide +kernel), List.mem_of_getElem? (i := 10) (by decide +kernel)⟩
theorem pmv_4_59 : pm_okV 4 (59, 33, 1, 1, 4) := ⟨mt_33, rfl, ok_33, rfl, rfl, List.mem_of_getElem? (i := 563) (by decide +kernel), List.mem_of_getElem? (i := 565) (by decide +kernel), List.mem_of_getElem? (i := 11) (by decide +kernel)⟩
theorem pmv_4_71 : pm_okV 4 (71, 48, 1, 1, 5) := ⟨mt_48, rfl, ok_48, rfl, rfl, List.mem_of_getElem? (i := 567) (by decide +kernel), List.mem_of_getElem? (i := 568) (by decide +kernel), List.mem_of_getElem? (i := 569) (by decide +kernel)⟩
theorem pmv_4_80 : pm_okV 4 (80, 34, 2, 1, 4) := ⟨mt_34, rfl, ok_34, rfl, rfl, List.mem_of_getElem? (i := 572) (by decide +kernel), List.mem_of_getElem? (i := 574) (by decide +kernel), List.mem_of_getElem? (i := 12) (by decide +kernel)⟩
theorem pmv_4_83 : pm_okV 4 (83, 31, 0, 1, 4) := ⟨mt_31, rfl, ok_31, rfl, rfl, List.mem_of_getElem? (i := 591) (by decide +kernel), List.mem_of_getElem? (i := 556) (by decide +kernel), List.mem_of_getElem? (i := 557) (by decide +kernel)⟩
theorem pmv_4_90 : pm_okV 4 (90, 37, 3, 0, 4) := ⟨mt_37, rfl, ok_37, rfl, rfl, List.mem_of_getElem? (i := 592) (by decide +kernel), List.mem_of_getElem? (i := 594) (by decide +kernel), List.mem_of_getElem? (i := 13) (by decide +kernel)⟩
theorem pmv_4_94 : pm_okV 4 (94, 38, 1, 0, 4) := ⟨mt_38, rfl, ok_38, rfl, rfl, List.mem_of_getElem? (i := 596) (by decide +kernel), List.mem_of_getElem? (i := 598) (by decide +kernel), List.mem_of_getElem? (i := 14) (by decide +kernel)⟩
theorem pmv_4_98 : pm_okV 4 (98, 35, 1, 0, 4) := ⟨mt_35, rfl, ok_35, rfl, rfl, List.mem_of_getElem? (i := 600) (by decide +kernel), List.mem_of_getElem? (i := 602) (by decide +kernel), List.mem_of_getElem? (i := 15) (by decide +kernel)⟩
theorem pmv_4 : ∀ e ∈ pm_mvL 4, pm_okV 4 e := List.forall_mem_cons.mpr ⟨pmv_4_52, List.forall_mem_cons.mpr ⟨pmv_4_56, List.forall_mem_cons.mpr ⟨pmv_4_59, List.forall_mem_cons.mpr ⟨pmv_4_71, List.forall_mem_cons.mpr ⟨pmv_4_80, List.forall_mem_cons.mpr ⟨pmv_4_83, List.forall_mem_cons.mpr ⟨pmv_4_90, List.forall_mem_cons.mpr ⟨pmv_4_94, List.forall_mem_cons.mpr ⟨pmv_4_98, fun _ h => absurd h List.not_mem_nil⟩⟩⟩⟩⟩⟩⟩⟩⟩
theorem pmv_5_53 : pm_okV 5 (53, 40, 1, 1, 5) := ⟨mt_40, rfl, ok_40, rfl, rfl, List.mem_of_getElem? (i := 520) (by decide +kernel), List.mem_of_getElem? (i := 343) (by decide +kernel), List.mem_of_getElem? (i := 344) (by decide +kernel)⟩
theorem pmv_5 : ∀ e ∈ pm_mvL 5, pm_okV 5 e := List.forall_mem_cons.mpr ⟨pmv_5_53, fun _ h => absurd h List.not_mem_nil⟩
theorem pmv_7_71 : pm_okV 7 (71, 85, 1, 1, 7) := ⟨mt_85, rfl, ok_85, rfl, rfl, List.mem_of_getElem? (i := 321) (by decide +kernel), List.mem_of_getElem? (i := 323) (by decide +kernel), List.mem_of_getElem? (i := 0) (by decide +kernel)⟩
theorem pmv_7_80 : pm_okV 7 (80, 14, 1, 1, 2) := ⟨mt_14, rfl, ok_14, rfl, rfl, List.mem_of_getElem? (i := 327) (by decide +kernel), List.mem_of_getElem? (i := 328) (by decide +kernel), List.mem_of_getElem? (i := 329) (by decide +kernel)⟩
theorem pmv_7_87 : pm_okV 7 (87, 90, 2, 1, 7) := ⟨mt_90, rfl, ok_90, rfl, rfl, List.mem_of_getElem? (i := 338) (by decide +kernel), List.mem_of_getElem? (i := 340) (by decide +kernel), List.mem_of_getElem? (i := 1) (by decide +kernel)⟩
theorem pmv_7_91 : pm_okV 7 (91, 15, 0, 1, 2) := ⟨mt_15, rfl, ok_15, rfl, rfl, List.mem_of_getElem? (i := 346) (by decide +kernel), List.mem_of_getElem? (i := 347) (by decide +kernel), List.mem_of_getElem? (i := 348) (by decide +kernel)⟩
theorem pmv_7_97 : pm_okV 7 (97, 42, 6, 1, 5) := ⟨mt_42, rfl, ok_42, rfl, rfl, List.mem_of_getElem? (i := 351) (by decide +kernel), List.mem_of_getElem? (i := 352) (by decide +kernel), List.mem_of_getElem? (i := 353) (by decide +kernel)⟩
theorem pmv_7_100 : pm_okV 7 (100, 16, 0, 1, 2) := ⟨mt_16, rfl, ok_16, rfl, rfl, List.mem_of_getElem? (i := 355) (by decide +kernel), List.mem_of_getElem? (i := 356) (by decide +kernel), List.mem_of_getElem? (i := 357) (by decide +kernel)⟩
theorem pmv_7_103 : pm_okV 7 (103, 44, 3, 0, 5) := ⟨mt_44, rfl, ok_44, rfl, rfl, List.mem_of_getElem? (i := 359) (by decide +kernel), List.mem_of_getElem? (i := 360) (by decide +kernel), List.mem_of_getElem? (i := 361) (by decide +kernel)⟩
theorem pmv_7_107 : pm_okV 7 (107, 28, 1, 0, 4) := ⟨mt_28, rfl, ok_28, rfl, rfl, List.mem_of_getElem? (i := 363) (by decide +kernel), List.mem_of_getElem? (i := 364) (by decide +kernel), List.mem_of_getElem? (i := 365) (by decide +kernel)⟩
theorem pmv_7_111 : pm_okV 7 (111, 40, 1, 1, 5) := ⟨mt_40, rfl, ok_40, rfl, rfl, List.mem_of_getElem? (i := 342) (by decide +kernel), List.mem_of_getElem? (i := 343) (by decide +kernel), List.mem_of_getElem? (i := 344) (by decide +kernel)⟩
theorem pmv_7_126 : pm_okV 7 (126, 49, 1, 0, 5) := ⟨mt_49, rfl, ok_49, rfl, rfl, List.mem_of_getElem? (i := 379) (by decide +kernel), List.mem_of_getElem? (i := 380) (by decide +kernel), List.mem_of_getElem? (i := 381) (by decide +kernel)⟩
theorem pmv_7_150 : pm_okV 7 (150, 91, 1, 1, 7) := ⟨mt_91, rfl, ok_91, rfl, rfl, List.mem_of_getElem? (i := 387) (by decide +kernel), List.mem_of_getElem? (i := 389) (by decide +kernel), List.mem_of_getElem? (i := 2) (by decide +kernel)⟩
theorem pmv_7_153 : pm_okV 7 (153, 45, 2, 1, 5) := ⟨mt_45, rfl, ok_45, rfl, rfl, List.mem_of_getElem? (i := 418) (by decide +kernel), List.mem_of_getElem? (i := 419) (by decide +kernel), List.mem_of_getElem? (i := 420) (by decide +kernel)⟩
theorem pmv_7_157 : pm_okV 7 (157, 46, 1, 1, 5) := ⟨mt_46, rfl, ok_46, rfl, rfl, List.mem_of_getElem? (i := 423) (by decide +kernel), List.mem_of_getElem? (i := 404) (by decide +kernel), List.mem_of_getElem? (i := 405) (by decide +kernel)⟩
theorem pmv_7_160 : pm_okV 7 (160, 5, 0, 0, 1) := ⟨mt_5, rfl, ok_5, rfl, rfl, List.mem_of_getElem? (i := 391) (by decide +kernel), List.mem_of_getElem? (i := 392) (by decide +kernel), List.mem_of_getElem? (i := 393) (by decide +kernel)⟩
theorem pmv_7_172 : pm_okV 7 (172, 9, 1, 1, 1) := ⟨mt_9, rfl, ok_9, rfl, rfl, List.mem_of_getElem? (i := 428) (by decide +kernel), List.mem_of_getElem? (i := 429) (by decide +kernel), List.mem_of_getElem? (i := 430) (by decide +kernel)⟩
theorem pmv_7_179 : pm_okV 7 (179, 10, 0, 1, 1) := ⟨mt_10, rfl, ok_10, rfl, rfl, List.mem_of_getElem? (i := 445) (by decide +kernel), List.mem_of_getElem? (i := 446) (by decide +kernel), List.mem_of_getElem? (i := 447) (by decide +kernel)⟩
theorem pmv_7_182 : pm_okV 7 (182, 19, 0, 1, 3) := ⟨mt_19, rfl, ok_19, rfl, rfl, List.mem_of_getElem? (i := 459) (by decide +kernel), List.mem_of_getElem? (i := 460) (by decide +kernel), List.mem_of_getElem? (i := 461) (by decide +kernel)⟩
theorem pmv_7_187 : pm_okV 7 (187, 24, 0, 1, 3) := ⟨mt_24, rfl, ok_24, rfl, rfl, List.mem_of_getElem? (i := 486) (by decide +kernel), List.mem_of_getElem? (i := 487) (by decide +kernel), List.mem_of_getElem? (i := 488) (by decide +kernel)⟩
theorem pmv_7_190 : pm_okV 7 (190, 25, 0, 1, 3) := ⟨mt_25, rfl, ok_25, rfl, rfl, List.mem_of_getElem? (i := 490) (by decide +kernel), List.mem_of_getElem? (i := 491) (by decide +kernel), List.mem_of_getElem? (i := 492) (by decide +kernel)⟩
theorem pmv_7_193 : pm_okV 7 (193, 26, 0, 0, 3) := ⟨mt_26, rfl, ok_26, rfl, rfl, List.mem_of_getElem? (i := 499) (by decide +kernel), List.mem_of_getElem? (i := 500) (by decide +kernel), List.mem_of_getElem? (i := 501) (by decide +kernel)⟩
theorem pmv_7_199 : pm_okV 7 (199, 41, 2, 1, 5) := ⟨mt_41, rfl, ok_41, rfl, rfl, List.mem_of_getElem? (i := 516) (by decide +kernel), List.mem_of_getElem? (i := 517) (by decide +kernel), List.mem_of_getElem? (i := 518) (by decide +kernel)⟩
theorem pmv_7_226 : pm_okV 7 (226, 30, 2, 1, 4) := ⟨mt_30, rfl, ok_30, rfl, rfl, List.mem_of_getElem? (i := 543) (by decide +kernel), List.mem_of_getElem? (i := 544) (by decide +kernel), List.mem_of_getElem? (i := 545) (by decide +kernel)⟩
theorem pmv_7_229 : pm_okV 7 (229, 31, 0, 1, 4) := ⟨mt_31, rfl, ok_31, rfl, rfl, List.mem_of_getElem? (i := 555) (by decide +kernel), List.mem_of_getElem? (i := 556) (by decide +kernel), List.mem_of_getElem? (i := 557) (by decide +kernel)⟩
theorem pmv_7_238 : pm_okV 7 (238, 29, 1, 1, 4) := ⟨mt_29, rfl, ok_29, rfl, rfl, List.mem_of_getElem? (i := 581) (by decide +kernel), List.mem_of_getElem? (i := 548) (by decide +kernel), List.mem_of_getElem? (i := 549) (by decide +kernel)⟩
theorem pmv_7_241 : pm_okV 7 (241, 48, 1, 1, 5) := ⟨mt_48, rfl, ok_48, rfl, rfl, List.mem_of_getElem? (i := 582) (by decide +kernel), List.mem_of_getElem? (i := 568) (by decide +kernel), List.mem_of_getElem? (i := 569) (by decide +kernel)⟩
theorem pmv_7_243 : pm_okV 7 (243, 36, 0, 1, 4) := ⟨mt_36, rfl, ok_36, rfl, rfl, List.mem_of_getElem? (i := 587) (by decide +kernel), List.mem_of_getElem? (i := 588) (by decide +kernel), List.mem_of_getElem? (i := 589) (by decide +kernel)⟩
theorem pmv_7_253 : pm_okV 7 (253, 2, 1, 1, 0) := ⟨mt_2, rfl, ok_2, rfl, rfl, List.mem_of_getElem? (i := 617) (by decide +kernel), List.mem_of_getElem? (i := 618) (by decide +kernel), List.mem_of_getElem? (i := 619) (by decide +kernel)⟩
theorem pmv_7_256 : pm_okV 7 (256, 3, 2, 1, 0) := ⟨mt_3, rfl, ok_3, rfl, rfl, List.mem_of_getElem? (i := 625) (by decide +kernel), List.mem_of_getElem? (i := 626) (by decide +kernel), List.mem_of_getElem? (i := 627) (by decide +kernel)⟩
theorem pmv_7_259 : pm_okV 7 (259, 43, 2, 1, 5) := ⟨mt_43, rfl, ok_43, rfl, rfl, List.mem_of_getElem? (i := 634) (by decide +kernel), List.mem_of_getElem? (i := 635) (by decide +kernel), List.mem_of_getElem? (i := 636) (by decide +kernel)⟩
theorem pmv_7_262 : pm_okV 7 (262, 17, 1, 0, 2) := ⟨mt_17, rfl, ok_17, rfl, rfl, List.mem_of_getElem? (i := 642) (by decide +kernel), List.mem_of_getElem? (i := 643) (by decide +kernel), List.mem_of_getElem? (i := 644) (by decide +kernel)⟩
theorem pmv_7_265 : pm_okV 7 (265, 13, 1, 1, 2) := ⟨mt_13, rfl, ok_13, rfl, rfl, List.mem_of_getElem? (i := 654) (by decide +kernel), List.mem_of_getElem? (i := 647) (by decide +kernel), List.mem_of_getElem? (i := 648) (by decide +kernel)⟩
theorem pmv_7_277 : pm_okV 7 (277, 51, 1, 1, 6) := ⟨mt_51, rfl, ok_51, rfl, rfl, List.mem_of_getElem? (i := 659) (by decide +kernel), List.mem_of_getElem? (i := 660) (by decide +kernel), List.mem_of_getElem? (i := 661) (by decide +kernel)⟩
theorem pmv_7_278 : pm_okV 7 (278, 52, 1, 1, 6) := ⟨mt_52, rfl, ok_52, rfl, rfl, List.mem_of_getElem? (i := 667) (by decide +kernel), List.mem_of_getElem? (i := 668) (by decide +kernel), List.mem_of_getElem? (i := 669) (by decide +kernel)⟩
theorem pmv_7_281 : pm_okV 7 (281, 92, 0, 1, 7) := ⟨mt_92, rfl, ok_92, rfl, rfl, List.mem_of_getElem? (i := 676) (by decide +kernel), List.mem_of_getElem? (i := 678) (by decide +kernel), List.mem_of_getElem? (i := 17) (by decide +kernel)⟩
theorem pmv_7_284 : pm_okV 7 (284, 93, 0, 1, 7) := ⟨mt_93, rfl, ok_93, rfl, rfl, List.mem_of_getElem? (i := 680) (by decide +kernel), List.mem_of_getElem? (i := 682) (by decide +kernel), List.mem_of_getElem? (i := 18) (by decide +kernel)⟩
theorem pmv_7 : ∀ e ∈ pm_mvL 7, pm_okV 7 e := List.forall_mem_cons.mpr ⟨pmv_7_71, List.forall_mem_cons.mpr ⟨pmv_7_80, List.forall_mem_cons.mpr ⟨pmv_7_87, List.forall_mem_cons.mpr ⟨pmv_7_91, List.forall_mem_cons.mpr ⟨pmv_7_97, List.forall_mem_cons.mpr ⟨pmv_7_100, List.forall_mem_cons.mpr ⟨pmv_7_103, List.forall_mem_cons.mpr ⟨pmv_7_107, List.forall_mem_cons.mpr ⟨pmv_7_111, List.forall_mem_cons.mpr ⟨pmv_7_126, List.forall_mem_cons.mpr ⟨pmv_7_150, List.forall_mem_cons.mpr ⟨pmv_7_153, List.forall_mem_cons.mpr ⟨pmv_7_157, List.forall_mem_cons.mpr ⟨pmv_7_160, List.forall_mem_cons.mpr ⟨pmv_7_172, List.forall_mem_cons.mpr ⟨pmv_7_179, List.forall_mem_cons.mpr ⟨pmv_7_182, List.forall_mem_cons.mpr ⟨pmv_7_187, List.forall_mem_cons.mpr ⟨pmv_7_190, List.forall_mem_cons.mpr ⟨pmv_7_193, List.forall_mem_cons.mpr ⟨pmv_7_199, List.forall_mem_cons.mpr ⟨pmv_7_226, List.forall_mem_cons.mpr ⟨pmv_7_229, List.forall_mem_cons.mpr ⟨pmv_7_238, List.forall_mem_cons.mpr ⟨pmv_7_241, List.forall_mem_cons.mpr ⟨pmv_7_243, List.forall_mem_cons.mpr ⟨pmv_7_253, List.forall_mem_cons.mpr ⟨pmv_7_256, List.forall_mem_cons.mpr ⟨pmv_7_259, List.forall_mem_cons.mpr ⟨pmv_7_262, List.forall_mem_cons.mpr ⟨pmv_7_265, List.forall_mem_cons.mpr ⟨pmv_7_277, List.forall_mem_cons.mpr ⟨pmv_7_278, List.forall_mem_cons.mpr ⟨pmv_7_281, List.forall_mem_cons.mpr ⟨pmv_7_284, fun _ h => absurd h List.not_mem_nil⟩⟩⟩⟩⟩⟩⟩⟩⟩⟩⟩⟩⟩⟩⟩⟩⟩⟩⟩⟩⟩⟩⟩⟩⟩⟩⟩⟩⟩⟩⟩⟩⟩⟩⟩
theorem pmv_8_119 : pm_okV 8 (119, 96, 1, 1, 8) := ⟨mt_96, rfl, ok_96, rfl, rfl, List.mem_of_getElem? (i := 813) (by decide +kernel), List.mem_of_getElem? (i := 815) (by decide +kernel), List.mem_of_getElem? (i := 19) (by decide +kernel)⟩
theorem pmv_8_126 : pm_okV 8 (126, 97, 1, 1, 8) := ⟨mt_97, rfl, ok_97, rfl, rfl, List.mem_of_getElem? (i := 822) (by decide +kernel), List.mem_of_getElem? (i := 824) (by decide +kernel), List.mem_of_getElem? (i := 20) (by decide +kernel)⟩
theorem pmv_8_130 : pm_okV 8 (130, 100, 0, 1, 8) := ⟨mt_100, rfl, ok_100, rfl, rfl, List.mem_of_getElem? (i := 826) (by decide +kernel), List.mem_of_getElem? (i := 828) (by decide +kernel), List.mem_of_getElem? (i := 21) (by decide +kernel)⟩
theorem pmv_8_134 : pm_okV 8 (134, 101, 0, 1, 8) := ⟨mt_101, rfl, ok_101, rfl, rfl, List.mem_of_getElem? (i := 830) (by decide +kernel), List.mem_of_getElem? (i := 832) (by decide +kernel), List.mem_of_getElem? (i := 22) (by decide +kernel)⟩
theorem pmv_8_138 : pm_okV 8 (138, 104, 1, 0, 8) := ⟨mt_104, rfl, ok_104, rfl, rfl, List.mem_of_getElem? (i := 843) (by decide +kernel), List.mem_of_getElem? (i := 845) (by decide +kernel), List.mem_of_getElem? (i := 23) (by decide +kernel)⟩
theorem pmv_8_142 : pm_okV 8 (142, 106, 1, 1, 8) := ⟨mt_106, rfl, ok_106, rfl, rfl, List.mem_of_getElem? (i := 851) (by decide +kernel), List.mem_of_getElem? (i := 853) (by decide +kernel), List.mem_of_getElem? (i := 24) (by decide +kernel)⟩
theorem pmv_8_145 : pm_okV 8 (145, 108, 1, 1, 8) := ⟨mt_108, rfl, ok_108, rfl, rfl, List.mem_of_getElem? (i := 859) (by decide +kernel), List.mem_of_getElem? (i := 861) (by decide +kernel), List.mem_of_getElem? (i := 25) (by decide +kernel)⟩
theorem pmv_8_148 : pm_okV 8 (148, 111, 1, 1, 8) := ⟨mt_111, rfl, ok_111, rfl, rfl, List.mem_of_getElem? (i := 875) (by decide +kernel), List.mem_of_getElem? (i := 877) (by decide +kernel), List.mem_of_getElem? (i := 28) (by decide +kernel)⟩
theorem pmv_8_151 : pm_okV 8 (151, 110, 0, 0, 8) := ⟨mt_110, rfl, ok_110, rfl, rfl, List.mem_of_getElem? (i := 867) (by decide +kernel), List.mem_of_getElem? (i := 869) (by decide +kernel), List.mem_of_getElem? (i := 26) (by decide +kernel)⟩
theorem pmv_8_154 : pm_okV 8 (154, 112, 1, 1, 8) := ⟨mt_112, rfl, ok_112, rfl, rfl, List.mem_of_getElem? (i := 871) (by decide +kernel), List.mem_of_getElem? (i := 873) (by decide +kernel), List.mem_of_getElem? (i := 27) (by decide +kernel)⟩
theorem pmv_8_161 : pm_okV 8 (161, 116, 1, 1, 8) := ⟨mt_116, rfl, ok_116, rfl, rfl, List.mem_of_getElem? (i := 900) (by decide +kernel), List.mem_of_getElem? (i := 902) (by decide +kernel), List.mem_of_getElem? (i := 31) (by decide +kernel)⟩
theorem pmv_8_164 : pm_okV 8 (164, 117, 2, 1, 8) := ⟨mt_117, rfl, ok_117, rfl, rfl, List.mem_of_getElem? (i := 904) (by decide +kernel), List.mem_of_getElem? (i := 906) (by decide +kernel), List.mem_of_getElem? (i := 32) (by decide +kernel)⟩
theorem pmv_8_168 : pm_okV 8 (168, 118, 0, 1, 8) := ⟨mt_118, rfl, ok_118, rfl, rfl, List.mem_of_getElem? (i := 896) (by decide +kernel), List.mem_of_getElem? (i := 898) (by decide +kernel), List.mem_of_getElem? (i := 30) (by decide +kernel)⟩
theorem pmv_8_171 : pm_okV 8 (171, 119, 0, 1, 8) := ⟨mt_119, rfl, ok_119, rfl, rfl, List.mem_of_getElem? (i := 892) (by decide +kernel), List.mem_of_getElem? (i := 894) (by decide +kernel), List.mem_of_getElem? (i := 29) (by decide +kernel)⟩
theorem pmv_8_180 : pm_okV 8 (180, 129, 1, 1, 8) := ⟨mt_129, rfl, ok_129, rfl, rfl, List.mem_of_getElem? (i := 946) (by decide +kernel), List.mem_of_getElem? (i := 948) (by decide +kernel), List.mem_of_getElem? (i := 33) (by decide +kernel)⟩
theorem pmv_8_183 : pm_okV 8 (183, 131, 1, 1, 8) := ⟨mt_131, rfl, ok_131, rfl, rfl, List.mem_of_getElem? (i := 962) (by decide +kernel), List.mem_of_getElem? (i := 964) (by decide +kernel), List.mem_of_getElem? (i := 36) (by decide +kernel)⟩
theorem pmv_8_186 : pm_okV 8 (186, 132, 1, 0, 8) := ⟨mt_132, rfl, ok_132, rfl, rfl, List.mem_of_getElem? (i := 958) (by decide +kernel), List.mem_of_getElem? (i := 960) (by decide +kernel), List.mem_of_getElem? (i := 35) (by decide +kernel)⟩
theorem pmv_8_189 : pm_okV 8 (189, 133, 1, 1, 8) := ⟨mt_133, rfl, ok_133, rfl, rfl, List.mem_of_getElem? (i := 954) (by decide +kernel), List.mem_of_getElem? (i := 956) (by decide +kernel), List.mem_of_getElem? (i := 34) (by decide +kernel)⟩
theorem pmv_8_193 : pm_okV 8 (193, 136, 2, 0, 8) := ⟨mt_136, rfl, ok_136, rfl, rfl, List.mem_of_getElem? (i := 974) (by decide +kernel), List.mem_of_getElem? (i := 976) (by decide +kernel), List.mem_of_getElem? (i := 37) (by decide +kernel)⟩
theorem pmv_8_198 : pm_okV 8 (198, 141, 2, 1, 8) := ⟨mt_141, rfl, ok_141, rfl, rfl, List.mem_of_getElem? (i := 995) (by decide +kernel), List.mem_of_getElem? (i := 997) (by decide +kernel), List.mem_of_getElem? (i := 38) (by decide +kernel)⟩
theorem pmv_8 : ∀ e ∈ pm_mvL 8, pm_okV 8 e := List.forall_mem_cons.mpr ⟨pmv_8_119, List.forall_mem_cons.mpr ⟨pmv_8_126, List.forall_mem_cons.mpr ⟨pmv_8_130, List.forall_mem_cons.mpr ⟨pmv_8_134, List.forall_mem_cons.mpr ⟨pmv_8_138, List.forall_mem_cons.mpr ⟨pmv_8_142, List.forall_mem_cons.mpr ⟨pmv_8_145, List.forall_mem_cons.mpr ⟨pmv_8_148, List.forall_mem_cons.mpr ⟨pmv_8_151, List.forall_mem_cons.mpr ⟨pmv_8_154, List.forall_mem_cons.mpr ⟨pmv_8_161, List.forall_mem_cons.mpr ⟨pmv_8_164, List.forall_mem_cons.mpr ⟨pmv_8_168, List.forall_mem_cons.mpr ⟨pmv_8_171, List.forall_mem_cons.mpr ⟨pmv_8_180, List.forall_mem_cons.mpr ⟨pmv_8_183, List.forall_mem_cons.mpr ⟨pmv_8_186, List.forall_mem_cons.mpr ⟨pmv_8_189, List.forall_mem_cons.mpr ⟨pmv_8_193, List.forall_mem_cons.mpr ⟨pmv_8_198, fun _ h => absurd h List.not_mem_nil⟩⟩⟩⟩⟩⟩⟩⟩⟩⟩⟩⟩⟩⟩⟩⟩⟩⟩⟩⟩
theorem pmv_9_13 : pm_okV 9 (13, 54, 1, 1, 7) := ⟨mt_54, rfl, ok_54, rfl, rfl, List.mem_of_getElem? (i := 313) (by decide +kernel), List.mem_of_getElem? (i := 314) (by decide +kernel), List.mem_of_getElem? (i := 315) (by decide +kernel)⟩
theorem pmv_9_17 : pm_okV 9 (17, 99, 1, 1, 8) := ⟨mt_99, rfl, ok_99, rfl, rfl, List.mem_of_getElem? (i := 806) (by decide +kernel), List.mem_of_getElem? (i := 807) (by decide +kernel), List.mem_of_getElem? (i := 808) (by decide +kernel)⟩
theorem pmv_9_18 : pm_okV 9 (18, 55, 6, 1, 7) := ⟨mt_55, rfl, ok_55, rfl, rfl, List.mem_of_getElem? (i := 331) (by decide +kernel), List.mem_of_getElem? (i := 332) (by decide +kernel), List.mem_of_getElem? (i := 333) (by decide +kernel)⟩
theorem pmv_9_22 : pm_okV 9 (22, 102, 6, 1, 8) := ⟨mt_102, rfl, ok_102, rfl, rfl, List.mem_of_getElem? (i := 818) (by decide +kernel), List.mem_of_getElem? (i := 819) (by decide +kernel), List.mem_of_getElem? (i := 820) (by decide +kernel)⟩
theorem pmv_9_23 : pm_okV 9 (23, 56, 2, 1, 7) := ⟨mt_56, rfl, ok_56, rfl, rfl, List.mem_of_getElem? (i := 367) (by decide +kernel), List.mem_of_getElem? (i := 368) (by decide +kernel), List.mem_of_getElem? (i := 369) (by decide +kernel)⟩
theorem pmv_9_27 : pm_okV 9 (27, 103, 2, 1, 8) := ⟨mt_103, rfl, ok_103, rfl, rfl, List.mem_of_getElem? (i := 834) (by decide +kernel), List.mem_of_getElem? (i := 835) (by decide +kernel), List.mem_of_getElem? (i := 836) (by decide +kernel)⟩
theorem pmv_9_28 : pm_okV 9 (28, 57, 2, 1, 7) := ⟨mt_57, rfl, ok_57, rfl, rfl, List.mem_of_getElem? (i := 372) (by decide +kernel), List.mem_of_getElem? (i := 373) (by decide +kernel), List.mem_of_getElem? (i := 374) (by decide +kernel)⟩
theorem pmv_9_31 : pm_okV 9 (31, 105, 2, 1, 8) := ⟨mt_105, rfl, ok_105, rfl, rfl, List.mem_of_getElem? (i := 839) (by decide +kernel), List.mem_of_getElem? (i := 840) (by decide +kernel), List.mem_of_getElem? (i := 841) (by decide +kernel)⟩
theorem pmv_9_32 : pm_okV 9 (32, 58, 2, 1, 7) := ⟨mt_58, rfl, ok_58, rfl, rfl, List.mem_of_getElem? (i := 383) (by decide +kernel), List.mem_of_getElem? (i := 384) (by decide +kernel), List.mem_of_getElem? (i := 385) (by decide +kernel)⟩
theorem pmv_9_35 : pm_okV 9 (35, 107, 2, 1, 8) := ⟨mt_107, rfl, ok_107, rfl, rfl, List.mem_of_getElem? (i := 847) (by decide +kernel), List.mem_of_getElem? (i := 848) (by decide +kernel), List.mem_of_getElem? (i := 849) (by decide +kernel)⟩
theorem pmv_9_36 : pm_okV 9 (36, 59, 2, 1, 7) := ⟨mt_59, rfl, ok_59, rfl, rfl, List.mem_of_getElem? (i := 414) (by decide +kernel), List.mem_of_getElem? (i := 415) (by decide +kernel), List.mem_of_getElem? (i := 416) (by decide +kernel)⟩
theorem pmv_9_39 : pm_okV 9 (39, 109, 2, 1, 8) := ⟨mt_109, rfl, ok_109, rfl, rfl, List.mem_of_getElem? (i := 855) (by decide +kernel), List.mem_of_getElem? (i := 856) (by decide +kernel), List.mem_of_getElem? (i := 857) (by decide +kernel)⟩
theorem pmv_9_40 : pm_okV 9 (40, 60, 2, 1, 7) := ⟨mt_60, rfl, ok_60, rfl, rfl, List.mem_of_getElem? (i := 424) (by decide +kernel), List.mem_of_getElem? (i := 425) (by decide +kernel), List.mem_of_getElem? (i := 426) (by decide +kernel)⟩
theorem pmv_9_43 : pm_okV 9 (43, 113, 2, 1, 8) := ⟨mt_113, rfl, ok_113, rfl, rfl, List.mem_of_getElem? (i := 863) (by decide +kernel), List.mem_of_getElem? (i := 864) (by decide +kernel), List.mem_of_getElem? (i := 865) (by decide +kernel)⟩
theorem pmv_9_44 : pm_okV 9 (44, 61, 1, 1, 7) := ⟨mt_61, rfl, ok_61, rfl, rfl, List.mem_of_getElem? (i := 436) (by decide +kernel), List.mem_of_getElem? (i := 437) (by decide +kernel), List.mem_of_getElem? (i := 438) (by decide +kernel)⟩
theorem pmv_9_47 : pm_okV 9 (47, 114, 1, 1, 8) := ⟨mt_114, rfl, ok_114, rfl, rfl, List.mem_of_getElem? (i := 879) (by decide +kernel), List.mem_of_getElem? (i := 880) (by decide +kernel), List.mem_of_getElem? (i := 881) (by decide +kernel)⟩
theorem pmv_9_48 : pm_okV 9 (48, 62, 0, 1, 7) := ⟨mt_62, rfl, ok_62, rfl, rfl, List.mem_of_getElem? (i := 441) (by decide +kernel), List.mem_of_getElem? (i := 442) (by decide +kernel), List.mem_of_getElem? (i := 443) (by decide +kernel)⟩
theorem pmv_9_52 : pm_okV 9 (52, 115, 0, 1, 8) := ⟨mt_115, rfl, ok_115, rfl, rfl, List.mem_of_getElem? (i := 884) (by decide +kernel), List.mem_of_getElem? (i := 885) (by decide +kernel), List.mem_of_getElem? (i := 886) (by decide +kernel)⟩
theorem pmv_9_53 : pm_okV 9 (53, 63, 1, 1, 7) := ⟨mt_63, rfl, ok_63, rfl, rfl, List.mem_of_getElem? (i := 455) (by decide +kernel), List.mem_of_getElem? (i := 456) (by decide +kernel), List.mem_of_getElem? (i := 457) (by decide +kernel)⟩
theorem pmv_9_56 : pm_okV 9 (56, 121, 1, 1, 8) := ⟨mt_121, rfl, ok_121, rfl, rfl, List.mem_of_getElem? (i := 888) (by decide +kernel), List.mem_of_getElem? (i := 889) (by decide +kernel), List.mem_of_getElem? (i := 890) (by decide +kernel)⟩
theorem pmv_9_57 : pm_okV 9 (57, 64, 0, 1, 7) := ⟨mt_64, rfl, ok_64, rfl, rfl, List.mem_of_getElem? (i := 495) (by decide +kernel), List.mem_of_getElem? (i := 496) (by decide +kernel), List.mem_of_getElem? (i := 497) (by decide +kernel)⟩
theorem pmv_9_60 : pm_okV 9 (60, 122, 0, 1, 8) := ⟨mt_122, rfl, ok_122, rfl, rfl, List.mem_of_getElem? (i := 911) (by decide +kernel), List.mem_of_getElem? (i := 912) (by decide +kernel), List.mem_of_getElem? (i := 913) (by decide +kernel)⟩
theorem pmv_9_61 : pm_okV 9 (61, 65, 1, 1, 7) := ⟨mt_65, rfl, ok_65, rfl, rfl, List.mem_of_getElem? (i := 507) (by decide +kernel), List.mem_of_getElem? (i := 508) (by decide +kernel), List.mem_of_getElem? (i := 509) (by decide +kernel)⟩
theorem pmv_9_64 : pm_okV 9 (64, 123, 1, 1, 8) := ⟨mt_123, rfl, ok_123, rfl, rfl, List.mem_of_getElem? (i := 918) (by decide +kernel), List.mem_of_getElem? (i := 919) (by decide +kernel), List.mem_of_getElem? (i := 920) (by decide +kernel)⟩
theorem pmv_9_65 : pm_okV 9 (65, 66, 3, 1, 7) := ⟨mt_66, rfl, ok_66, rfl, rfl, List.mem_of_getElem? (i := 512) (by decide +kernel), List.mem_of_getElem? (i := 513) (by decide +kernel), List.mem_of_getElem? (i := 514) (by decide +kernel)⟩
theorem pmv_9_69 : pm_okV 9 (69, 124, 3, 1, 8) := ⟨mt_124, rfl, ok_124, rfl, rfl, List.mem_of_getElem? (i := 922) (by decide +kernel), List.mem_of_getElem? (i := 923) (by decide +kernel), List.mem_of_getElem? (i := 924) (by decide +kernel)⟩
theorem pmv_9_70 : pm_okV 9 (70, 67, 1, 1, 7) := ⟨mt_67, rfl, ok_67, rfl, rfl, List.mem_of_getElem? (i := 523) (by decide +kernel), List.mem_of_getElem? (i := 524) (by decide +kernel), List.mem_of_getElem? (i := 525) (by decide +kernel)⟩
theorem pmv_9_73 : pm_okV 9 (73, 125, 1, 1, 8) := ⟨mt_125, rfl, ok_125, rfl, rfl, List.mem_of_getElem? (i := 926) (by decide +kernel), List.mem_of_getElem? (i := 927) (by decide +kernel), List.mem_of_getElem? (i := 928) (by decide +kernel)⟩
theorem pmv_9_74 : pm_okV 9 (74, 68, 2, 1, 7) := ⟨mt_68, rfl, ok_68, rfl, rfl, List.mem_of_getElem? (i := 527) (by decide +kernel), List.mem_of_getElem? (i := 528) (by decide +kernel), List.mem_of_getElem? (i := 529) (by decide +kernel)⟩
theorem pmv_9_78 : pm_okV 9 (78, 126, 2, 1, 8) := ⟨mt_126, rfl, ok_126, rfl, rfl, List.mem_of_getElem? (i := 930) (by decide +kernel), List.mem_of_getElem? (i := 931) (by decide +kernel), List.mem_of_getElem? (i := 932) (by decide +kernel)⟩
theorem pmv_9_79 : pm_okV 9 (79, 69, 2, 1, 7) := ⟨mt_69, rfl, ok_69, rfl, rfl, List.mem_of_getElem? (i := 531) (by decide +kernel), List.mem_of_getElem? (i := 532) (by decide +kernel), List.mem_of_getElem? (i := 533) (by decide +kernel)⟩
theorem pmv_9_82 : pm_okV 9 (82, 127, 2, 1, 8) := ⟨mt_127, rfl, ok_127, rfl, rfl, List.mem_of_getElem? (i := 934) (by decide +kernel), List.mem_of_getElem? (i := 935) (by decide +kernel), List.mem_of_getElem? (i := 936) (by decide +kernel)⟩
theorem pmv_9_83 : pm_okV 9 (83, 70, 2, 1, 7) := ⟨mt_70, rfl, ok_70, rfl, rfl, List.mem_of_getElem? (i := 535) (by decide +kernel), List.mem_of_getElem? (i := 536) (by decide +kernel), List.mem_of_getElem? (i := 537) (by decide +kernel)⟩
theorem pmv_9_86 : pm_okV 9 (86, 128, 2, 1, 8) := ⟨mt_128, rfl, ok_128, rfl, rfl, List.mem_of_getElem? (i := 938) (by decide +kernel), List.mem_of_getElem? (i := 939) (by decide +kernel), List.mem_of_getElem? (i := 940) (by decide +kernel)⟩
theorem pmv_9_87 : pm_okV 9 (87, 71, 2, 1, 7) := ⟨mt_71, rfl, ok_71, rfl, rfl, List.mem_of_getElem? (i := 539) (by decide +kernel), List.mem_of_getElem? (i := 540) (by decide +kernel), List.mem_of_getElem? (i := 541) (by decide +kernel)⟩
theorem pmv_9_90 : pm_okV 9 (90, 130, 2, 1, 8) := ⟨mt_130, rfl, ok_130, rfl, rfl, List.mem_of_getElem? (i := 942) (by decide +kernel), List.mem_of_getElem? (i := 943) (by decide +kernel), List.mem_of_getElem? (i := 944) (by decide +kernel)⟩
theorem pmv_9_91 : pm_okV 9 (91, 72, 0, 1, 7) := ⟨mt_72, rfl, ok_72, rfl, rfl, List.mem_of_getElem? (i := 551) (by decide +kernel), List.mem_of_getElem? (i := 552) (by decide +kernel), List.mem_of_getElem? (i := 553) (by decide +kernel)⟩
theorem pmv_9_94 : pm_okV 9 (94, 134, 0, 1, 8) := ⟨mt_134, rfl, ok_134, rfl, rfl, List.mem_of_getElem? (i := 950) (by decide +kernel), List.mem_of_getElem? (i := 951) (by decide +kernel), List.mem_of_getElem? (i := 952) (by decide +kernel)⟩
theorem pmv_9_95 : pm_okV 9 (95, 73, 2, 1, 7) := ⟨mt_73, rfl, ok_73, rfl, rfl, List.mem_of_getElem? (i := 577) (by decide +kernel), List.mem_of_getElem? (i := 578) (by decide +kernel), List.mem_of_getElem? (i := 579) (by decide +kernel)⟩
theorem pmv_9_98 : pm_okV 9 (98, 135, 2, 1, 8) := ⟨mt_135, rfl, ok_135, rfl, rfl, List.mem_of_getElem? (i := 966) (by decide +kernel), List.mem_of_getElem? (i := 967) (by decide +kernel), List.mem_of_getElem? (i := 968) (by decide +kernel)⟩
theorem pmv_9_99 : pm_okV 9 (99, 74, 0, 1, 7) := ⟨mt_74, rfl, ok_74, rfl, rfl, List.mem_of_getElem? (i := 583) (by decide +kernel), List.mem_of_getElem? (i := 584) (by decide +kernel), List.mem_of_getElem? (i := 585) (by decide +kernel)⟩
theorem pmv_9_102 : pm_okV 9 (102, 137, 0, 1, 8) := ⟨mt_137, rfl, ok_137, rfl, rfl, List.mem_of_getElem? (i := 970) (by decide +kernel), List.mem_of_getElem? (i := 971) (by decide +kernel), List.mem_of_getElem? (i := 972) (by decide +kernel)⟩
theorem pmv_9_103 : pm_okV 9 (103, 75, 2, 1, 7) := ⟨mt_75, rfl, ok_75, rfl, rfl, List.mem_of_getElem? (i := 604) (by decide +kernel), List.mem_of_getElem? (i := 605) (by decide +kernel), List.mem_of_getElem? (i := 606) (by decide +kernel)⟩
theorem pmv_9_106 : pm_okV 9 (106, 138, 2, 1, 8) := ⟨mt_138, rfl, ok_138, rfl, rfl, List.mem_of_getElem? (i := 978) (by decide +kernel), List.mem_of_getElem? (i := 979) (by decide +kernel), List.mem_of_getElem? (i := 980) (by decide +kernel)⟩
theorem pmv_9_107 : pm_okV 9 (107, 76, 1, 1, 7) := ⟨mt_76, rfl, ok_76, rfl, rfl, List.mem_of_getElem? (i := 608) (by decide +kernel), List.mem_of_getElem? (i := 609) (by decide +kernel), List.mem_of_getElem? (i := 610) (by decide +kernel)⟩
theorem pmv_9_110 : pm_okV 9 (110, 139, 1, 1, 8) := ⟨mt_139, rfl, ok_139, rfl, rfl, List.mem_of_getElem? (i := 982) (by decide +kernel), List.mem_of_getElem? (i := 983) (by decide +kernel), List.mem_of_getElem? (i := 984) (by decide +kernel)⟩
theorem pmv_9_111 : pm_okV 9 (111, 77, 2, 1, 7) := ⟨mt_77, rfl, ok_77, rfl, rfl, List.mem_of_getElem? (i := 612) (by decide +kernel), List.mem_of_getElem? (i := 613) (by decide +kernel), List.mem_of_getElem? (i := 614) (by decide +kernel)⟩
theorem pmv_9_114 : pm_okV 9 (114, 140, 2, 1, 8) := ⟨mt_140, rfl, ok_140, rfl, rfl, List.mem_of_getElem? (i := 986) (by decide +kernel), List.mem_of_getElem? (i := 987) (by decide +kernel), List.mem_of_getElem? (i := 988) (by decide +kernel)⟩
theorem pmv_9_115 : pm_okV 9 (115, 78, 2, 1, 7) := ⟨mt_78, rfl, ok_78, rfl, rfl, List.mem_of_getElem? (i := 630) (by decide +kernel), List.mem_of_getElem? (i := 631) (by decide +kernel), List.mem_of_getElem? (i := 632) (by decide +kernel)⟩
theorem pmv_9_118 : pm_okV 9 (118, 142, 2, 1, 8) := ⟨mt_142, rfl, ok_142, rfl, rfl, List.mem_of_getElem? (i := 991) (by decide +kernel), List.mem_of_getElem? (i := 992) (by decide +kernel), List.mem_of_getElem? (i := 993) (by decide +kernel)⟩
theorem pmv_9_119 : pm_okV 9 (119, 79, 2, 1, 7) := ⟨mt_79, rfl, ok_79, rfl, rfl, List.mem_of_getElem? (i := 638) (by decide +kernel), List.mem_of_getElem? (i := 639) (by decide +kernel), List.mem_of_getElem? (i := 640) (by decide +kernel)⟩
theorem pmv_9_122 : pm_okV 9 (122, 143, 2, 1, 8) := ⟨mt_143, rfl, ok_143, rfl, rfl, List.mem_of_getElem? (i := 999) (by decide +kernel), List.mem_of_getElem? (i := 1000) (by decide +kernel), List.mem_of_getElem? (i := 1001) (by decide +kernel)⟩
theorem pmv_9_123 : pm_okV 9 (123, 80, 2, 1, 7) := ⟨mt_80, rfl, ok_80, rfl, rfl, List.mem_of_getElem? (i := 650) (by decide +kernel), List.mem_of_getElem? (i := 651) (by decide +kernel), List.mem_of_getElem? (i := 652) (by decide +kernel)⟩
theorem pmv_9_126 : pm_okV 9 (126, 144, 2, 1, 8) := ⟨mt_144, rfl, ok_144, rfl, rfl, List.mem_of_getElem? (i := 1003) (by decide +kernel), List.mem_of_getElem? (i := 1004) (by decide +kernel), List.mem_of_getElem? (i := 1005) (by decide +kernel)⟩
theorem pmv_9_127 : pm_okV 9 (127, 81, 1, 1, 7) := ⟨mt_81, rfl, ok_81, rfl, rfl, List.mem_of_getElem? (i := 655) (by decide +kernel), List.mem_of_getElem? (i := 656) (by decide +kernel), List.mem_of_getElem? (i := 657) (by decide +kernel)⟩
theorem pmv_9_130 : pm_okV 9 (130, 145, 1, 1, 8) := ⟨mt_145, rfl, ok_145, rfl, rfl, List.mem_of_getElem? (i := 1007) (by decide +kernel), List.mem_of_getElem? (i := 1008) (by decide +kernel), List.mem_of_getElem? (i := 1009) (by decide +kernel)⟩
theorem pmv_9_131 : pm_okV 9 (131, 82, 0, 1, 7) := ⟨mt_82, rfl, ok_82, rfl, rfl, List.mem_of_getElem? (i := 663) (by decide +kernel), List.mem_of_getElem? (i := 664) (by decide +kernel), List.mem_of_getElem? (i := 665) (by decide +kernel)⟩
theorem pmv_9_134 : pm_okV 9 (134, 146, 0, 1, 8) := ⟨mt_146, rfl, ok_146, rfl, rfl, List.mem_of_getElem? (i := 1011) (by decide +kernel), List.mem_of_getElem? (i := 1012) (by decide +kernel), List.mem_of_getElem? (i := 1013) (by decide +kernel)⟩
theorem pmv_9_135 : pm_okV 9 (135, 83, 1, 1, 7) := ⟨mt_83, rfl, ok_83, rfl, rfl, List.mem_of_getElem? (i := 672) (by decide +kernel), List.mem_of_getElem? (i := 673) (by decide +kernel), List.mem_of_getElem? (i := 674) (by decide +kernel)⟩
theorem pmv_9_138 : pm_okV 9 (138, 147, 1, 1, 8) := ⟨mt_147, rfl, ok_147, rfl, rfl, List.mem_of_getElem? (i := 1015) (by decide +kernel), List.mem_of_getElem? (i := 1016) (by decide +kernel), List.mem_of_getElem? (i := 1017) (by decide +kernel)⟩
theorem pmv_9_139 : pm_okV 9 (139, 84, 1, 1, 7) := ⟨mt_84, rfl, ok_84, rfl, rfl, List.mem_of_getElem? (i := 684) (by decide +kernel), List.mem_of_getElem? (i := 685) (by decide +kernel), List.mem_of_getElem? (i := 686) (by decide +kernel)⟩
theorem pmv_9_142 : pm_okV 9 (142, 148, 1, 1, 8) := ⟨mt_148, rfl, ok_148, rfl, rfl, List.mem_of_getElem? (i := 1019) (by decide +kernel), List.mem_of_getElem? (i := 1020) (by decide +kernel), List.mem_of_getElem? (i := 1021) (by decide +kernel)⟩
theorem pmv_9 : ∀ e ∈ pm_mvL 9, pm_okV 9 e := List.forall_mem_cons.mpr ⟨pmv_9_13, List.forall_mem_cons.mpr ⟨pmv_9_17, List.forall_mem_cons.mpr ⟨pmv_9_18, List.forall_mem_cons.mpr ⟨pmv_9_22, List.forall_mem_cons.mpr ⟨pmv_9_23, List.forall_mem_cons.mpr ⟨pmv_9_27, List.forall_mem_cons.mpr ⟨pmv_9_28, List.forall_mem_cons.mpr ⟨pmv_9_31, List.forall_mem_cons.mpr ⟨pmv_9_32, List.forall_mem_cons.mpr ⟨pmv_9_35, List.forall_mem_cons.mpr ⟨pmv_9_36, List.forall_mem_cons.mpr ⟨pmv_9_39, List.forall_mem_cons.mpr ⟨pmv_9_40, List.forall_mem_cons.mpr ⟨pmv_9_43, List.forall_mem_cons.mpr ⟨pmv_9_44, List.forall_mem_cons.mpr ⟨pmv_9_47, List.forall_mem_cons.mpr ⟨pmv_9_48, List.forall_mem_cons.mpr ⟨pmv_9_52, List.forall_mem_cons.mpr ⟨pmv_9_53, List.forall_mem_cons.mpr ⟨pmv_9_56, List.forall_mem_cons.mpr ⟨pmv_9_57, List.forall_mem_cons.mpr ⟨pmv_9_60, List.forall_mem_cons.mpr ⟨pmv_9_61, List.forall_mem_cons.mpr ⟨pmv_9_64, List.forall_mem_cons.mpr ⟨pmv_9_65, List.forall_mem_cons.mpr ⟨pmv_9_69, List.forall_mem_cons.mpr ⟨pmv_9_70, List.forall_mem_cons.mpr ⟨pmv_9_73, List.forall_mem_cons.mpr ⟨pmv_9_74, List.forall_mem_cons.mpr ⟨pmv_9_78, List.forall_mem_cons.mpr ⟨pmv_9_79, List.forall_mem_cons.mpr ⟨pmv_9_82, List.forall_mem_cons.mpr ⟨pmv_9_83, List.forall_mem_cons.mpr ⟨pmv_9_86, List.forall_mem_cons.mpr ⟨pmv_9_87, List.forall_mem_cons.mpr ⟨pmv_9_90, List.forall_mem_cons.mpr ⟨pmv_9_91, List.forall_mem_cons.mpr ⟨pmv_9_94, List.forall_mem_cons.mpr ⟨pmv_9_95, List.forall_mem_cons.mpr ⟨pmv_9_98, List.forall_mem_cons.mpr ⟨pmv_9_99, List.forall_mem_cons.mpr ⟨pmv_9_102, List.forall_mem_cons.mpr ⟨pmv_9_103, List.forall_mem_cons.mpr ⟨pmv_9_106, List.forall_mem_cons.mpr ⟨pmv_9_107, List.forall_mem_cons.mpr ⟨pmv_9_110, List.forall_mem_cons.mpr ⟨pmv_9_111, List.forall_mem_cons.mpr ⟨pmv_9_114, List.forall_mem_cons.mpr ⟨pmv_9_115, List.forall_mem_cons.mpr ⟨pmv_9_118, List.forall_mem_cons.mpr ⟨pmv_9_119, List.forall_mem_cons.mpr ⟨pmv_9_122, List.forall_mem_cons.mpr ⟨pmv_9_123, List.forall_mem_cons.mpr ⟨pmv_9_126, List.forall_mem_cons.mpr ⟨pmv_9_127, List.forall_mem_cons.mpr ⟨pmv_9_130, List.forall_mem_cons.mpr ⟨pmv_9_131, List.forall_mem_cons.mpr ⟨pmv_9_134, List.forall_mem_cons.mpr ⟨pmv_9_135, List.forall_mem_cons.mpr ⟨pmv_9_138, List.forall_mem_cons.mpr ⟨pmv_9_139, List.forall_mem_cons.mpr ⟨pmv_9_142, fun _ h => absurd h List.not_mem_nil⟩⟩⟩⟩⟩⟩⟩⟩⟩⟩⟩⟩⟩⟩⟩⟩⟩⟩⟩⟩⟩⟩⟩⟩⟩⟩⟩⟩⟩⟩⟩⟩⟩⟩⟩⟩⟩⟩⟩⟩⟩⟩⟩⟩⟩⟩⟩⟩⟩⟩⟩⟩⟩⟩⟩⟩⟩⟩⟩⟩⟩⟩
theorem pmv_all : ∀ own, ∀ e ∈ pm_mvL own, pm_okV own e
  | 0 => pmv_0
  | 1 => pmv_1
  | 2 => pmv_2
  | 3 => pmv_3
  | 4 => pmv_4
  | 5 => pmv_5
  | 6 => fun _ h => absurd h List.not_mem_nil
  | 7 => pmv_7
  | 8 => pmv_8
  | 9 => pmv_9
  | 10 => fun _ h => absurd h List.not_mem_nil
  | 11 => fun _ h => absurd h List.not_mem_nil
  | _ + 12 => fun _ h => absurd h List.not_mem_nil
theorem pms_3_33 : pm_okS 3 (33, 151, 2, 0, 11) := ⟨mt_151, rfl, ok_151, rfl, Or.inl (List.mem_of_getElem? (i := 464) (by decide +kernel)), List.mem_of_getElem? (i := 221) (by decide +kernel)⟩
theorem pms_3_51 : pm_okS 3 (51, 23, 2, 1, 3) := ⟨mt_23, rfl, ok_23, rfl, Or.inl (List.mem_of_getElem? (i := 471) (by decide +kernel)), List.mem_of_getElem? (i := 472) (by decide +kernel)⟩
theorem pms_3 : ∀ e ∈ pm_msL 3, pm_okS 3 e := List.forall_mem_cons.mpr ⟨pms_3_33, List.forall_mem_cons.mpr ⟨pms_3_51, fun _ h => absurd h List.not_mem_nil⟩⟩
theorem pms_4_26 : pm_okS 4 (26, 151, 2, 0, 11) := ⟨mt_151, rfl, ok_151, rfl, Or.inl (List.mem_of_getElem? (i := 220) (by decide +kernel)), List.mem_of_getElem? (i := 221) (by decide +kernel)⟩
theorem pms_4 : ∀ e ∈ pm_msL 4, pm_okS 4 e := List.forall_mem_cons.mpr ⟨pms_4_26, fun _ h => absurd h List.not_mem_nil⟩
theorem pms_7_66 : pm_okS 7 (66, 86, 3, 1, 7) := ⟨mt_86, rfl, ok_86, rfl, Or.inl (List.mem_of_getElem? (i := 317) (by decide +kernel)), List.mem_of_getElem? (i := 318) (by decide +kernel)⟩
theorem pms_7_83 : pm_okS 7 (83, 89, 1, 1, 7) := ⟨mt_89, rfl, ok_89, rfl, Or.inl (List.mem_of_getElem? (i := 335) (by decide +kernel)), List.mem_of_getElem? (i := 336) (by decide +kernel)⟩
theorem pms_7_122 : pm_okS 7 (122, 87, 1, 1, 7) := ⟨mt_87, rfl, ok_87, rfl, Or.inl (List.mem_of_getElem? (i := 376) (by decide +kernel)), List.mem_of_getElem? (i := 377) (by decide +kernel)⟩
theorem pms_7_196 : pm_okS 7 (196, 88, 2, 1, 7) := ⟨mt_88, rfl, ok_88, rfl, Or.inl (List.mem_of_getElem? (i := 511) (by decide +kernel)), List.mem_of_getElem? (i := 505) (by decide +kernel)⟩
theorem pms_7 : ∀ e ∈ pm_msL 7, pm_okS 7 e := List.forall_mem_cons.mpr ⟨pms_7_66, List.forall_mem_cons.mpr ⟨pms_7_83, List.forall_mem_cons.mpr ⟨pms_7_122, List.forall_mem_cons.mpr ⟨pms_7_196, fun _ h => absurd h List.not_mem_nil⟩⟩⟩⟩
theorem pms_8_115 : pm_okS 8 (115, 95, 3, 1, 8) := ⟨mt_95, rfl, ok_95, rfl, Or.inl (List.mem_of_getElem? (i := 810) (by decide +kernel)), List.mem_of_getElem? (i := 811) (by decide +kernel)⟩
theorem pms_8_174 : pm_okS 8 (174, 120, 1, 1, 8) := ⟨mt_120, rfl, ok_120, rfl, Or.inl (List.mem_of_getElem? (i := 908) (by decide +kernel)), List.mem_of_getElem? (i := 909) (by decide +kernel)⟩
theorem pms_8_177 : pm_okS 8 (177, 98, 2, 1, 8) := ⟨mt_98, rfl, ok_98, rfl, Or.inl (List.mem_of_getElem? (i := 915) (by decide +kernel)), List.mem_of_getElem? (i := 916) (by decide +kernel)⟩
theorem pms_8 : ∀ e ∈ pm_msL 8, pm_okS 8 e := List.forall_mem_cons.mpr ⟨pms_8_115, List.forall_mem_cons.mpr ⟨pms_8_174, List.forall_mem_cons.mpr ⟨pms_8_177, fun _ h => absurd h List.not_mem_nil⟩⟩⟩
theorem pms_all : ∀ own, ∀ e ∈ pm_msL own, pm_okS own e
  | 0 => fun _ h => absurd h List.not_mem_nil
  | 1 => fun _ h => absurd h List.not_mem_nil
  | 2 => fun _ h => absurd h List.not_mem_nil
  | 3 => pms_3
  | 4 => pms_4
  | 5 => fun _ h => absurd h List.not_mem_nil
  | 6 => fun _ h => absurd h List.not_mem_nil
  | 7 => pms_7
  | 8 => pms_8
  | 9 => fun _ h => absurd h List.not_mem_nil
  | 10 => fun _ h => absurd h List.not_mem_nil
  | 11 => fun _ h => absurd h List.not_mem_nil
  | _ + 12 => fun _ h => absurd h List.not_mem_nil
theorem pmn_3_85 : pm_okS 3 (85, 88, 2, 1, 7) := ⟨mt_88, rfl, ok_88, rfl, Or.inr ⟨"LampFeast", List.mem_of_getElem? (i := 504) (by decide +kernel)⟩, List.mem_of_getElem? (i := 505) (by decide +kernel)⟩
theorem pmn_3 : ∀ e ∈ pm_mnL 3, pm_okS 3 e := List.forall_mem_cons.mpr ⟨pmn_3_85, fun _ h => absurd h List.not_mem_nil⟩
theorem pmn_4_76 : pm_okS 4 (76, 88, 2, 1, 7) := ⟨mt_88, rfl, ok_88, rfl, Or.inr ⟨"LampFeast", List.mem_of_getElem? (i := 571) (by decide +kernel)⟩, List.mem_of_getElem? (i := 505) (by decide +kernel)⟩
theorem pmn_4 : ∀ e ∈ pm_mnL 4, pm_okS 4 e := List.forall_mem_cons.mpr ⟨pmn_4_76, fun _ h => absurd h List.not_mem_nil⟩
theorem pmn_6_19 : pm_okS 6 (19, 88, 2, 1, 7) := ⟨mt_88, rfl, ok_88, rfl, Or.inr ⟨"LampFeast", List.mem_of_getElem? (i := 671) (by decide +kernel)⟩, List.mem_of_getElem? (i := 505) (by decide +kernel)⟩
theorem pmn_6 : ∀ e ∈ pm_mnL 6, pm_okS 6 e := List.forall_mem_cons.mpr ⟨pmn_6_19, fun _ h => absurd h List.not_mem_nil⟩
theorem pmn_all : ∀ own, ∀ e ∈ pm_mnL own, pm_okS own e
  | 0 => fun _ h => absurd h List.not_mem_nil
  | 1 => fun _ h => absurd h List.not_mem_nil
  | 2 => fun _ h => absurd h List.not_mem_nil
  | 3 => pmn_3
  | 4 => pmn_4
  | 5 => fun _ h => absurd h List.not_mem_nil
  | 6 => pmn_6
  | 7 => fun _ h => absurd h List.not_mem_nil
  | 8 => fun _ h => absurd h List.not_mem_nil
  | 9 => fun _ h => absurd h List.not_mem_nil
  | 10 => fun _ h => absurd h List.not_mem_nil
  | 11 => fun _ h => absurd h List.not_mem_nil
  | _ + 12 => fun _ h => absurd h List.not_mem_nil
theorem pmi_7_15 : pm_okI 7 (15, 12, 0, 0, 2) := ⟨mt_12, rfl, ok_12, rfl, List.mem_of_getElem? (i := 61) (by decide +kernel), List.mem_of_getElem? (i := 62) (by decide +kernel), by decide +kernel, rfl⟩
theorem pmi_7_22 : pm_okI 7 (22, 39, 0, 0, 5) := ⟨mt_39, rfl, ok_39, rfl, List.mem_of_getElem? (i := 89) (by decide +kernel), List.mem_of_getElem? (i := 90) (by decide +kernel), by decide +kernel, rfl⟩
theorem pmi_7_29 : pm_okI 7 (29, 4, 1, 0, 1) := ⟨mt_4, rfl, ok_4, rfl, List.mem_of_getElem? (i := 162) (by decide +kernel), List.mem_of_getElem? (i := 163) (by decide +kernel), by decide +kernel, rfl⟩
theorem pmi_7_38 : pm_okI 7 (38, 18, 2, 0, 3) := ⟨mt_18, rfl, ok_18, rfl, List.mem_of_getElem? (i := 196) (by decide +kernel), List.mem_of_getElem? (i := 197) (by decide +kernel), by decide +kernel, rfl⟩
theorem pmi_7_47 : pm_okI 7 (47, 27, 1, 0, 4) := ⟨mt_27, rfl, ok_27, rfl, List.mem_of_getElem? (i := 216) (by decide +kernel), List.mem_of_getElem? (i := 217) (by decide +kernel), by decide +kernel, rfl⟩
theorem pmi_7_54 : pm_okI 7 (54, 0, 0, 0, 0) := ⟨mt_0, rfl, ok_0, rfl, List.mem_of_getElem? (i := 261) (by decide +kernel), List.mem_of_getElem? (i := 262) (by decide +kernel), by decide +kernel, rfl⟩
theorem pmi_7_61 : pm_okI 7 (61, 50, 0, 0, 6) := ⟨mt_50, rfl, ok_50, rfl, List.mem_of_getElem? (i := 276) (by decide +kernel), List.mem_of_getElem? (i := 277) (by decide +kernel), by decide +kernel, rfl⟩
theorem pmi_7 : ∀ e ∈ pm_miL 7, pm_okI 7 e := List.forall_mem_cons.mpr ⟨pmi_7_15, List.forall_mem_cons.mpr ⟨pmi_7_22, List.forall_mem_cons.mpr ⟨pmi_7_29, List.forall_mem_cons.mpr ⟨pmi_7_38, List.forall_mem_cons.mpr ⟨pmi_7_47, List.forall_mem_cons.mpr ⟨pmi_7_54, List.forall_mem_cons.mpr ⟨pmi_7_61, fun _ h => absurd h List.not_mem_nil⟩⟩⟩⟩⟩⟩⟩
theorem pmi_9_9 : pm_okI 9 (9, 53, 0, 0, 7) := ⟨mt_53, rfl, ok_53, rfl, List.mem_of_getElem? (i := 53) (by decide +kernel), List.mem_of_getElem? (i := 54) (by decide +kernel), by decide +kernel, rfl⟩
theorem pmi_9_12 : pm_okI 9 (12, 94, 0, 0, 8) := ⟨mt_94, rfl, ok_94, rfl, List.mem_of_getElem? (i := 690) (by decide +kernel), List.mem_of_getElem? (i := 691) (by decide +kernel), by decide +kernel, rfl⟩
theorem pmi_9 : ∀ e ∈ pm_miL 9, pm_okI 9 e := List.forall_mem_cons.mpr ⟨pmi_9_9, List.forall_mem_cons.mpr ⟨pmi_9_12, fun _ h => absurd h List.not_mem_nil⟩⟩
theorem pmi_all : ∀ own, ∀ e ∈ pm_miL own, pm_okI own e
  | 0 => fun _ h => absurd h List.not_mem_nil
  | 1 => fun _ h => absurd h List.not_mem_nil
  | 2 => fun _ h => absurd h List.not_mem_nil
  | 3 => fun _ h => absurd h List.not_mem_nil
  | 4 => fun _ h => absurd h List.not_mem_nil
  | 5 => fun _ h => absurd h List.not_mem_nil
  | 6 => fun _ h => absurd h List.not_mem_nil
  | 7 => pmi_7
  | 8 => fun _ h => absurd h List.not_mem_nil
  | 9 => pmi_9
  | 10 => fun _ h => absurd h List.not_mem_nil
  | 11 => fun _ h => absurd h List.not_mem_nil
  | _ + 12 => fun _ h => absurd h List.not_mem_nil
set_option maxRecDepth 50000 in
theorem pm_obj : Cond.instanceMethod Lib.objectInit ∈ lw_tbl ∧ Cond.code Lib.objectInit ⟨#[0xb1]⟩ 1 none ∈ lw_tbl := ⟨List.mem_of_getElem? (i := 57) (by decide +kernel), List.mem_of_getElem? (i := 58) rfl⟩
theorem pmo_0 : ∀ i ∈ pm_oiL 0, Cond.methodLink (pm_cn 0) i Lib.objectInit ∈ lw_tbl := List.forall_mem_cons.mpr ⟨List.mem_of_getElem? (i := 264) (by decide +kernel), fun _ h => absurd h List.not_mem_nil⟩
theorem pmo_1 : ∀ i ∈ pm_oiL 1, Cond.methodLink (pm_cn 1) i Lib.objectInit ∈ lw_tbl := List.forall_mem_cons.mpr ⟨List.mem_of_getElem? (i := 165) (by decide +kernel), fun _ h => absurd h List.not_mem_nil⟩
theorem pmo_2 : ∀ i ∈ pm_oiL 2, Cond.methodLink (pm_cn 2) i Lib.objectInit ∈ lw_tbl := List.forall_mem_cons.mpr ⟨List.mem_of_getElem? (i := 64) (by decide +kernel), fun _ h => absurd h List.not_mem_nil⟩
theorem pmo_3 : ∀ i ∈ pm_oiL 3, Cond.methodLink (pm_cn 3) i Lib.objectInit ∈ lw_tbl := List.forall_mem_cons.mpr ⟨List.mem_of_getElem? (i := 199) (by decide +kernel), fun _ h => absurd h List.not_mem_nil⟩
theorem pmo_4 : ∀ i ∈ pm_oiL 4, Cond.methodLink (pm_cn 4) i Lib.objectInit ∈ lw_tbl := List.forall_mem_cons.mpr ⟨List.mem_of_getElem? (i := 219) (by decide +kernel), fun _ h => absurd h List.not_mem_nil⟩
theorem pmo_5 : ∀ i ∈ pm_oiL 5, Cond.methodLink (pm_cn 5) i Lib.objectInit ∈ lw_tbl := List.forall_mem_cons.mpr ⟨List.mem_of_getElem? (i := 92) (by decide +kernel), fun _ h => absurd h List.not_mem_nil⟩
theorem pmo_6 : ∀ i ∈ pm_oiL 6, Cond.methodLink (pm_cn 6) i Lib.objectInit ∈ lw_tbl := List.forall_mem_cons.mpr ⟨List.mem_of_getElem? (i := 279) (by decide +kernel), fun _ h => absurd h List.not_mem_nil⟩
theorem pmo_7 : ∀ i ∈ pm_oiL 7, Cond.methodLink (pm_cn 7) i Lib.objectInit ∈ lw_tbl := List.forall_mem_cons.mpr ⟨List.mem_of_getElem? (i := 56) (by decide +kernel), fun _ h => absurd h List.not_mem_nil⟩
theorem pmo_8 : ∀ i ∈ pm_oiL 8, Cond.methodLink (pm_cn 8) i Lib.objectInit ∈ lw_tbl := List.forall_mem_cons.mpr ⟨List.mem_of_getElem? (i := 693) (by decide +kernel), fun _ h => absurd h List.not_mem_nil⟩
theorem pmo_all : ∀ own, ∀ i ∈ pm_oiL own, Cond.methodLink (pm_cn own) i Lib.objectInit ∈ lw_tbl
  | 0 => pmo_0
  | 1 => pmo_1
  | 2 => pmo_2
  | 3 => pmo_3
  | 4 => pmo_4
  | 5 => pmo_5
  | 6 => pmo_6
  | 7 => pmo_7
  | 8 => pmo_8
  | _ + 9 => fun _ h => absurd h List.not_mem_nil
def pm_okK (own : Nat) (e : Nat × Int32) : Prop := Cond.constant (pm_cn own) e.1 e.2 ∈ lw_tbl
theorem pmk_3 : ∀ e ∈ pm_kcL 3, pm_okK 3 e := List.forall_mem_cons.mpr ⟨List.mem_of_getElem? (i := 200) (by decide +kernel), List.forall_mem_cons.mpr ⟨List.mem_of_getElem? (i := 470) (by decide +kernel), List.forall_mem_cons.mpr ⟨List.mem_of_getElem? (i := 494) (by decide +kernel), fun _ h => absurd h List.not_mem_nil⟩⟩⟩
theorem pmk_7 : ∀ e ∈ pm_kcL 7, pm_okK 7 e := List.forall_mem_cons.mpr ⟨List.mem_of_getElem? (i := 320) (by decide +kernel), List.forall_mem_cons.mpr ⟨List.mem_of_getElem? (i := 326) (by decide +kernel), List.forall_mem_cons.mpr ⟨List.mem_of_getElem? (i := 350) (by decide +kernel), List.forall_mem_cons.mpr ⟨List.mem_of_getElem? (i := 371) (by decide +kernel), List.forall_mem_cons.mpr ⟨List.mem_of_getElem? (i := 422) (by decide +kernel), List.forall_mem_cons.mpr ⟨List.mem_of_getElem? (i := 440) (by decide +kernel), List.forall_mem_cons.mpr ⟨List.mem_of_getElem? (i := 485) (by decide +kernel), List.forall_mem_cons.mpr ⟨List.mem_of_getElem? (i := 616) (by decide +kernel), List.forall_mem_cons.mpr ⟨List.mem_of_getElem? (i := 325) (by decide +kernel), fun _ h => absurd h List.not_mem_nil⟩⟩⟩⟩⟩⟩⟩⟩⟩
theorem pmk_8 : ∀ e ∈ pm_kcL 8, pm_okK 8 e := List.forall_mem_cons.mpr ⟨List.mem_of_getElem? (i := 817) (by decide +kernel), List.forall_mem_cons.mpr ⟨List.mem_of_getElem? (i := 838) (by decide +kernel), List.forall_mem_cons.mpr ⟨List.mem_of_getElem? (i := 883) (by decide +kernel), List.forall_mem_cons.mpr ⟨List.mem_of_getElem? (i := 990) (by decide +kernel), fun _ h => absurd h List.not_mem_nil⟩⟩⟩⟩
theorem pmk_all : ∀ own, ∀ e ∈ pm_kcL own, pm_okK own e
  | 0 => fun _ h => absurd h List.not_mem_nil
  | 1 => fun _ h => absurd h List.not_mem_nil
  | 2 => fun _ h => absurd h List.not_mem_nil
  | 3 => pmk_3
  | 4 => fun _ h => absurd h List.not_mem_nil
  | 5 => fun _ h => absurd h List.not_mem_nil
  | 6 => fun _ h => absurd h List.not_mem_nil
  | 7 => pmk_7
  | 8 => pmk_8
  | _ + 9 => fun _ h => absurd h List.not_mem_nil
def pm_okN (own : Nat) (e : Nat × Nat) : Prop := e.2 < 9 ∧ Cond.classLink (pm_cn own) e.1 (pm_cn e.2) ∈ lw_tbl
theorem pmw_7 : ∀ e ∈ pm_nwL 7, pm_okN 7 e := List.forall_mem_cons.mpr ⟨⟨by decide, List.mem_of_getElem? (i := 59) (by decide +kernel)⟩, List.forall_mem_cons.mpr ⟨⟨by decide, List.mem_of_getElem? (i := 87) (by decide +kernel)⟩, List.forall_mem_cons.mpr ⟨⟨by decide, List.mem_of_getElem? (i := 160) (by decide +kernel)⟩, List.forall_mem_cons.mpr ⟨⟨by decide, List.mem_of_getElem? (i := 194) (by decide +kernel)⟩, List.forall_mem_cons.mpr ⟨⟨by decide, List.mem_of_getElem? (i := 214) (by decide +kernel)⟩, List.forall_mem_cons.mpr ⟨⟨by decide, List.mem_of_getElem? (i := 259) (by decide +kernel)⟩, List.forall_mem_cons.mpr ⟨⟨by decide, List.mem_of_getElem? (i := 274) (by decide +kernel)⟩, fun _ h => absurd h List.not_mem_nil⟩⟩⟩⟩⟩⟩⟩
theorem pmw_9 : ∀ e ∈ pm_nwL 9, pm_okN 9 e := List.forall_mem_cons.mpr ⟨⟨by decide, List.mem_of_getElem? (i := 51) (by decide +kernel)⟩, List.forall_mem_cons.mpr ⟨⟨by decide, List.mem_of_getElem? (i := 688) (by decide +kernel)⟩, fun _ h => absurd h List.not_mem_nil⟩⟩
theorem pmw_all : ∀ own, ∀ e ∈ pm_nwL own, pm_okN own e
  | 0 => fun _ h => absurd h List.not_mem_nil
  | 1 => fun _ h => absurd h List.not_mem_nil
  | 2 => fun _ h => absurd h List.not_mem_nil
  | 3 => fun _ h => absurd h List.not_mem_nil
  | 4 => fun _ h => absurd h List.not_mem_nil
  | 5 => fun _ h => absurd h List.not_mem_nil
  | 6 => fun _ h => absurd h List.not_mem_nil
  | 7 => pmw_7
  | 8 => fun _ h => absurd h List.not_mem_nil
  | 9 => pmw_9
  | _ + 10 => fun _ h => absurd h List.not_mem_nil
def pm_T : Nat → u_T := fun k => match k with
  | 0 => TX0
  | 1 => TX1
  | 2 => TX2
  | 3 => TX3
  | 4 => TX4
  | 5 => TX5
  | 6 => TX6
  | 7 => TX7
  | _ => TX8
def pm_ty : Nat → Nat → FieldType := fun k => match k with
  | 0 => tyX0
  | 1 => tyX1
  | 2 => tyX2
  | 3 => tyX3
  | 4 => tyX4
  | 5 => tyX5
  | 6 => tyX6
  | 7 => tyX7
  | _ => tyX8
def pm_N : Nat → Nat := fun k => match k with
  | 0 => 2
  | 1 => 7
  | 2 => 5
  | 3 => 4
  | 4 => 10
  | 5 => 13
  | 6 => 2
  | 7 => 8
  | _ => 37
def pm_okC (i : Nat) : Prop := vwCl[i]? = some (pm_cn i, pm_T i, pm_N i) ∧ (∀ w ∈ u_ws (pm_cn i) (pm_T i) (pm_N i), w ∈ lw_tbl) ∧ (∀ k, k < pm_N i → parseFieldDescriptor (pm_T i k).2.2.1 = some (pm_ty i k)) ∧ (∀ a, a < pm_N i → ∀ b, b < pm_N i → a ≠ b → (pm_T i a).2.1 ≠ (pm_T i b).2.1) ∧ Cond.instantiable (pm_cn i) (pm_N i) ∈ lw_tbl ∧ Cond.initialized (pm_cn i) ∈ lw_tbl ∧ (pm_f0 i).length = pm_N i
def pm_okF (i k : Nat) : Prop := (pm_T i k).1 = pm_cn i ∧ (((pm_f0 i)[k]? = some none ∧ pm_ty i k = .int ∧ (pm_T i k).2.2.2 = false) ∨ ((pm_f0 i)[k]? = some (some none) ∧ (pm_T i k).2.2.2 = true ∧ ((∃ n, pm_ty i k = .object n) ∨ ∃ t, pm_ty i k = .array t)))
theorem pmC_0 : pm_okC 0 := ⟨rfl, by decide +kernel, by decide +kernel, by decide +kernel, List.mem_of_getElem? (i := 260) (by decide +kernel), List.mem_of_getElem? (i := 47) (by decide +kernel), rfl⟩
theorem pmF_0_0 : pm_okF 0 0 := ⟨rfl, Or.inr ⟨rfl, rfl, Or.inr ⟨_, rfl⟩⟩⟩
theorem pmF_0_1 : pm_okF 0 1 := ⟨rfl, Or.inl ⟨rfl, rfl, rfl⟩⟩
theorem pmF_0 : ∀ k, k < 2 → pm_okF 0 k
  | 0, _ => pmF_0_0
  | 1, _ => pmF_0_1
  | k + 2, h => absurd h (by omega)
theorem pmC_1 : pm_okC 1 := ⟨rfl, by decide +kernel, by decide +kernel, by decide +kernel, List.mem_of_getElem? (i := 161) (by decide +kernel), List.mem_of_getElem? (i := 43) (by decide +kernel), rfl⟩
theorem pmF_1_0 : pm_okF 1 0 := ⟨rfl, Or.inr ⟨rfl, rfl, Or.inl ⟨_, rfl⟩⟩⟩
theorem pmF_1_1 : pm_okF 1 1 := ⟨rfl, Or.inl ⟨rfl, rfl, rfl⟩⟩
theorem pmF_1_2 : pm_okF 1 2 := ⟨rfl, Or.inr ⟨rfl, rfl, Or.inr ⟨_, rfl⟩⟩⟩
theorem pmF_1_3 : pm_okF 1 3 := ⟨rfl, Or.inr ⟨rfl, rfl, Or.inr ⟨_, rfl⟩⟩⟩
theorem pmF_1_4 : pm_okF 1 4 := ⟨rfl, Or.inr ⟨rfl, rfl, Or.inr ⟨_, rfl⟩⟩⟩
theorem pmF_1_5 : pm_okF 1 5 := ⟨rfl, Or.inr ⟨rfl, rfl, Or.inr ⟨_, rfl⟩⟩⟩
theorem pmF_1_6 : pm_okF 1 6 := ⟨rfl, Or.inr ⟨rfl, rfl, Or.inr ⟨_, rfl⟩⟩⟩
theorem pmF_1 : ∀ k, k < 7 → pm_okF 1 k
  | 0, _ => pmF_1_0
  | 1, _ => pmF_1_1
  | 2, _ => pmF_1_2
  | 3, _ => pmF_1_3
  | 4, _ => pmF_1_4
  | 5, _ => pmF_1_5
  | 6, _ => pmF_1_6
  | k + 7, h => absurd h (by omega)
theorem pmC_2 : pm_okC 2 := ⟨rfl, by decide +kernel, by decide +kernel, by decide +kernel, List.mem_of_getElem? (i := 60) (by decide +kernel), List.mem_of_getElem? (i := 41) (by decide +kernel), rfl⟩
theorem pmF_2_0 : pm_okF 2 0 := ⟨rfl, Or.inl ⟨rfl, rfl, rfl⟩⟩
theorem pmF_2_1 : pm_okF 2 1 := ⟨rfl, Or.inr ⟨rfl, rfl, Or.inr ⟨_, rfl⟩⟩⟩
theorem pmF_2_2 : pm_okF 2 2 := ⟨rfl, Or.inr ⟨rfl, rfl, Or.inr ⟨_, rfl⟩⟩⟩
theorem pmF_2_3 : pm_okF 2 3 := ⟨rfl, Or.inr ⟨rfl, rfl, Or.inr ⟨_, rfl⟩⟩⟩
theorem pmF_2_4 : pm_okF 2 4 := ⟨rfl, Or.inr ⟨rfl, rfl, Or.inr ⟨_, rfl⟩⟩⟩
theorem pmF_2 : ∀ k, k < 5 → pm_okF 2 k
  | 0, _ => pmF_2_0
  | 1, _ => pmF_2_1
  | 2, _ => pmF_2_2
  | 3, _ => pmF_2_3
  | 4, _ => pmF_2_4
  | k + 5, h => absurd h (by omega)
theorem pmC_3 : pm_okC 3 := ⟨rfl, by decide +kernel, by decide +kernel, by decide +kernel, List.mem_of_getElem? (i := 195) (by decide +kernel), List.mem_of_getElem? (i := 44) (by decide +kernel), rfl⟩
theorem pmF_3_0 : pm_okF 3 0 := ⟨rfl, Or.inr ⟨rfl, rfl, Or.inl ⟨_, rfl⟩⟩⟩
theorem pmF_3_1 : pm_okF 3 1 := ⟨rfl, Or.inr ⟨rfl, rfl, Or.inl ⟨_, rfl⟩⟩⟩
theorem pmF_3_2 : pm_okF 3 2 := ⟨rfl, Or.inr ⟨rfl, rfl, Or.inr ⟨_, rfl⟩⟩⟩
theorem pmF_3_3 : pm_okF 3 3 := ⟨rfl, Or.inl ⟨rfl, rfl, rfl⟩⟩
theorem pmF_3 : ∀ k, k < 4 → pm_okF 3 k
  | 0, _ => pmF_3_0
  | 1, _ => pmF_3_1
  | 2, _ => pmF_3_2
  | 3, _ => pmF_3_3
  | k + 4, h => absurd h (by omega)
theorem pmC_4 : pm_okC 4 := ⟨rfl, by decide +kernel, by decide +kernel, by decide +kernel, List.mem_of_getElem? (i := 215) (by decide +kernel), List.mem_of_getElem? (i := 45) (by decide +kernel), rfl⟩
theorem pmF_4_0 : pm_okF 4 0 := ⟨rfl, Or.inr ⟨rfl, rfl, Or.inl ⟨_, rfl⟩⟩⟩
theorem pmF_4_1 : pm_okF 4 1 := ⟨rfl, Or.inl ⟨rfl, rfl, rfl⟩⟩
theorem pmF_4_2 : pm_okF 4 2 := ⟨rfl, Or.inl ⟨rfl, rfl, rfl⟩⟩
theorem pmF_4_3 : pm_okF 4 3 := ⟨rfl, Or.inr ⟨rfl, rfl, Or.inr ⟨_, rfl⟩⟩⟩
theorem pmF_4_4 : pm_okF 4 4 := ⟨rfl, Or.inr ⟨rfl, rfl, Or.inr ⟨_, rfl⟩⟩⟩
theorem pmF_4_5 : pm_okF 4 5 := ⟨rfl, Or.inr ⟨rfl, rfl, Or.inr ⟨_, rfl⟩⟩⟩
theorem pmF_4_6 : pm_okF 4 6 := ⟨rfl, Or.inr ⟨rfl, rfl, Or.inr ⟨_, rfl⟩⟩⟩
theorem pmF_4_7 : pm_okF 4 7 := ⟨rfl, Or.inr ⟨rfl, rfl, Or.inr ⟨_, rfl⟩⟩⟩
theorem pmF_4_8 : pm_okF 4 8 := ⟨rfl, Or.inr ⟨rfl, rfl, Or.inr ⟨_, rfl⟩⟩⟩
theorem pmF_4_9 : pm_okF 4 9 := ⟨rfl, Or.inl ⟨rfl, rfl, rfl⟩⟩
theorem pmF_4 : ∀ k, k < 10 → pm_okF 4 k
  | 0, _ => pmF_4_0
  | 1, _ => pmF_4_1
  | 2, _ => pmF_4_2
  | 3, _ => pmF_4_3
  | 4, _ => pmF_4_4
  | 5, _ => pmF_4_5
  | 6, _ => pmF_4_6
  | 7, _ => pmF_4_7
  | 8, _ => pmF_4_8
  | 9, _ => pmF_4_9
  | k + 10, h => absurd h (by omega)
theorem pmC_5 : pm_okC 5 := ⟨rfl, by decide +kernel, by decide +kernel, by decide +kernel, List.mem_of_getElem? (i := 88) (by decide +kernel), List.mem_of_getElem? (i := 42) (by decide +kernel), rfl⟩
theorem pmF_5_0 : pm_okF 5 0 := ⟨rfl, Or.inl ⟨rfl, rfl, rfl⟩⟩
theorem pmF_5_1 : pm_okF 5 1 := ⟨rfl, Or.inr ⟨rfl, rfl, Or.inr ⟨_, rfl⟩⟩⟩
theorem pmF_5_2 : pm_okF 5 2 := ⟨rfl, Or.inr ⟨rfl, rfl, Or.inr ⟨_, rfl⟩⟩⟩
theorem pmF_5_3 : pm_okF 5 3 := ⟨rfl, Or.inr ⟨rfl, rfl, Or.inr ⟨_, rfl⟩⟩⟩
theorem pmF_5_4 : pm_okF 5 4 := ⟨rfl, Or.inr ⟨rfl, rfl, Or.inr ⟨_, rfl⟩⟩⟩
theorem pmF_5_5 : pm_okF 5 5 := ⟨rfl, Or.inr ⟨rfl, rfl, Or.inr ⟨_, rfl⟩⟩⟩
theorem pmF_5_6 : pm_okF 5 6 := ⟨rfl, Or.inr ⟨rfl, rfl, Or.inr ⟨_, rfl⟩⟩⟩
theorem pmF_5_7 : pm_okF 5 7 := ⟨rfl, Or.inr ⟨rfl, rfl, Or.inr ⟨_, rfl⟩⟩⟩
theorem pmF_5_8 : pm_okF 5 8 := ⟨rfl, Or.inr ⟨rfl, rfl, Or.inr ⟨_, rfl⟩⟩⟩
theorem pmF_5_9 : pm_okF 5 9 := ⟨rfl, Or.inr ⟨rfl, rfl, Or.inr ⟨_, rfl⟩⟩⟩
theorem pmF_5_10 : pm_okF 5 10 := ⟨rfl, Or.inr ⟨rfl, rfl, Or.inr ⟨_, rfl⟩⟩⟩
theorem pmF_5_11 : pm_okF 5 11 := ⟨rfl, Or.inr ⟨rfl, rfl, Or.inr ⟨_, rfl⟩⟩⟩
theorem pmF_5_12 : pm_okF 5 12 := ⟨rfl, Or.inr ⟨rfl, rfl, Or.inr ⟨_, rfl⟩⟩⟩
theorem pmF_5 : ∀ k, k < 13 → pm_okF 5 k
  | 0, _ => pmF_5_0
  | 1, _ => pmF_5_1
  | 2, _ => pmF_5_2
  | 3, _ => pmF_5_3
  | 4, _ => pmF_5_4
  | 5, _ => pmF_5_5
  | 6, _ => pmF_5_6
  | 7, _ => pmF_5_7
  | 8, _ => pmF_5_8
  | 9, _ => pmF_5_9
  | 10, _ => pmF_5_10
  | 11, _ => pmF_5_11
  | 12, _ => pmF_5_12
  | k + 13, h => absurd h (by omega)
theorem pmC_6 : pm_okC 6 := ⟨rfl, by decide +kernel, by decide +kernel, by decide +kernel, List.mem_of_getElem? (i := 275) (by decide +kernel), List.mem_of_getElem? (i := 48) (by decide +kernel), rfl⟩
theorem pmF_6_0 : pm_okF 6 0 := ⟨rfl, Or.inl ⟨rfl, rfl, rfl⟩⟩
theorem pmF_6_1 : pm_okF 6 1 := ⟨rfl, Or.inr ⟨rfl, rfl, Or.inr ⟨_, rfl⟩⟩⟩
theorem pmF_6 : ∀ k, k < 2 → pm_okF 6 k
  | 0, _ => pmF_6_0
  | 1, _ => pmF_6_1
  | k + 2, h => absurd h (by omega)
theorem pmC_7 : pm_okC 7 := ⟨rfl, by decide +kernel, by decide +kernel, by decide +kernel, List.mem_of_getElem? (i := 52) (by decide +kernel), List.mem_of_getElem? (i := 40) (by decide +kernel), rfl⟩
theorem pmF_7_0 : pm_okF 7 0 := ⟨rfl, Or.inr ⟨rfl, rfl, Or.inr ⟨_, rfl⟩⟩⟩
theorem pmF_7_1 : pm_okF 7 1 := ⟨rfl, Or.inr ⟨rfl, rfl, Or.inl ⟨_, rfl⟩⟩⟩
theorem pmF_7_2 : pm_okF 7 2 := ⟨rfl, Or.inr ⟨rfl, rfl, Or.inl ⟨_, rfl⟩⟩⟩
theorem pmF_7_3 : pm_okF 7 3 := ⟨rfl, Or.inr ⟨rfl, rfl, Or.inl ⟨_, rfl⟩⟩⟩
theorem pmF_7_4 : pm_okF 7 4 := ⟨rfl, Or.inr ⟨rfl, rfl, Or.inl ⟨_, rfl⟩⟩⟩
theorem pmF_7_5 : pm_okF 7 5 := ⟨rfl, Or.inr ⟨rfl, rfl, Or.inl ⟨_, rfl⟩⟩⟩
theorem pmF_7_6 : pm_okF 7 6 := ⟨rfl, Or.inr ⟨rfl, rfl, Or.inl ⟨_, rfl⟩⟩⟩
theorem pmF_7_7 : pm_okF 7 7 := ⟨rfl, Or.inr ⟨rfl, rfl, Or.inl ⟨_, rfl⟩⟩⟩
theorem pmF_7 : ∀ k, k < 8 → pm_okF 7 k
  | 0, _ => pmF_7_0
  | 1, _ => pmF_7_1
  | 2, _ => pmF_7_2
  | 3, _ => pmF_7_3
  | 4, _ => pmF_7_4
  | 5, _ => pmF_7_5
  | 6, _ => pmF_7_6
  | 7, _ => pmF_7_7
  | k + 8, h => absurd h (by omega)
theorem pmC_8 : pm_okC 8 := ⟨rfl, by decide +kernel, by decide +kernel, by decide +kernel, List.mem_of_getElem? (i := 689) (by decide +kernel), List.mem_of_getElem? (i := 49) (by decide +kernel), rfl⟩
theorem pmF_8_0 : pm_okF 8 0 := ⟨rfl, Or.inl ⟨rfl, rfl, rfl⟩⟩
theorem pmF_8_1 : pm_okF 8 1 := ⟨rfl, Or.inl ⟨rfl, rfl, rfl⟩⟩
theorem pmF_8_2 : pm_okF 8 2 := ⟨rfl, Or.inl ⟨rfl, rfl, rfl⟩⟩
theorem pmF_8_3 : pm_okF 8 3 := ⟨rfl, Or.inl ⟨rfl, rfl, rfl⟩⟩
theorem pmF_8_4 : pm_okF 8 4 := ⟨rfl, Or.inl ⟨rfl, rfl, rfl⟩⟩
theorem pmF_8_5 : pm_okF 8 5 := ⟨rfl, Or.inl ⟨rfl, rfl, rfl⟩⟩
theorem pmF_8_6 : pm_okF 8 6 := ⟨rfl, Or.inl ⟨rfl, rfl, rfl⟩⟩
theorem pmF_8_7 : pm_okF 8 7 := ⟨rfl, Or.inr ⟨rfl, rfl, Or.inr ⟨_, rfl⟩⟩⟩
theorem pmF_8_8 : pm_okF 8 8 := ⟨rfl, Or.inr ⟨rfl, rfl, Or.inr ⟨_, rfl⟩⟩⟩
theorem pmF_8_9 : pm_okF 8 9 := ⟨rfl, Or.inr ⟨rfl, rfl, Or.inr ⟨_, rfl⟩⟩⟩
theorem pmF_8_10 : pm_okF 8 10 := ⟨rfl, Or.inr ⟨rfl, rfl, Or.inr ⟨_, rfl⟩⟩⟩
theorem pmF_8_11 : pm_okF 8 11 := ⟨rfl, Or.inr ⟨rfl, rfl, Or.inr ⟨_, rfl⟩⟩⟩
theorem pmF_8_12 : pm_okF 8 12 := ⟨rfl, Or.inr ⟨rfl, rfl, Or.inr ⟨_, rfl⟩⟩⟩
theorem pmF_8_13 : pm_okF 8 13 := ⟨rfl, Or.inr ⟨rfl, rfl, Or.inr ⟨_, rfl⟩⟩⟩
theorem pmF_8_14 : pm_okF 8 14 := ⟨rfl, Or.inr ⟨rfl, rfl, Or.inr ⟨_, rfl⟩⟩⟩
theorem pmF_8_15 : pm_okF 8 15 := ⟨rfl, Or.inr ⟨rfl, rfl, Or.inr ⟨_, rfl⟩⟩⟩
theorem pmF_8_16 : pm_okF 8 16 := ⟨rfl, Or.inr ⟨rfl, rfl, Or.inr ⟨_, rfl⟩⟩⟩
theorem pmF_8_17 : pm_okF 8 17 := ⟨rfl, Or.inr ⟨rfl, rfl, Or.inr ⟨_, rfl⟩⟩⟩
theorem pmF_8_18 : pm_okF 8 18 := ⟨rfl, Or.inr ⟨rfl, rfl, Or.inr ⟨_, rfl⟩⟩⟩
theorem pmF_8_19 : pm_okF 8 19 := ⟨rfl, Or.inr ⟨rfl, rfl, Or.inr ⟨_, rfl⟩⟩⟩
theorem pmF_8_20 : pm_okF 8 20 := ⟨rfl, Or.inr ⟨rfl, rfl, Or.inr ⟨_, rfl⟩⟩⟩
theorem pmF_8_21 : pm_okF 8 21 := ⟨rfl, Or.inr ⟨rfl, rfl, Or.inr ⟨_, rfl⟩⟩⟩
theorem pmF_8_22 : pm_okF 8 22 := ⟨rfl, Or.inr ⟨rfl, rfl, Or.inr ⟨_, rfl⟩⟩⟩
theorem pmF_8_23 : pm_okF 8 23 := ⟨rfl, Or.inr ⟨rfl, rfl, Or.inr ⟨_, rfl⟩⟩⟩
theorem pmF_8_24 : pm_okF 8 24 := ⟨rfl, Or.inr ⟨rfl, rfl, Or.inr ⟨_, rfl⟩⟩⟩
theorem pmF_8_25 : pm_okF 8 25 := ⟨rfl, Or.inr ⟨rfl, rfl, Or.inr ⟨_, rfl⟩⟩⟩
theorem pmF_8_26 : pm_okF 8 26 := ⟨rfl, Or.inr ⟨rfl, rfl, Or.inr ⟨_, rfl⟩⟩⟩
theorem pmF_8_27 : pm_okF 8 27 := ⟨rfl, Or.inr ⟨rfl, rfl, Or.inr ⟨_, rfl⟩⟩⟩
theorem pmF_8_28 : pm_okF 8 28 := ⟨rfl, Or.inr ⟨rfl, rfl, Or.inr ⟨_, rfl⟩⟩⟩
theorem pmF_8_29 : pm_okF 8 29 := ⟨rfl, Or.inr ⟨rfl, rfl, Or.inr ⟨_, rfl⟩⟩⟩
theorem pmF_8_30 : pm_okF 8 30 := ⟨rfl, Or.inr ⟨rfl, rfl, Or.inr ⟨_, rfl⟩⟩⟩
theorem pmF_8_31 : pm_okF 8 31 := ⟨rfl, Or.inl ⟨rfl, rfl, rfl⟩⟩
theorem pmF_8_32 : pm_okF 8 32 := ⟨rfl, Or.inr ⟨rfl, rfl, Or.inr ⟨_, rfl⟩⟩⟩
theorem pmF_8_33 : pm_okF 8 33 := ⟨rfl, Or.inr ⟨rfl, rfl, Or.inr ⟨_, rfl⟩⟩⟩
theorem pmF_8_34 : pm_okF 8 34 := ⟨rfl, Or.inr ⟨rfl, rfl, Or.inr ⟨_, rfl⟩⟩⟩
theorem pmF_8_35 : pm_okF 8 35 := ⟨rfl, Or.inr ⟨rfl, rfl, Or.inr ⟨_, rfl⟩⟩⟩
theorem pmF_8_36 : pm_okF 8 36 := ⟨rfl, Or.inr ⟨rfl, rfl, Or.inr ⟨_, rfl⟩⟩⟩
theorem pmF_8 : ∀ k, k < 37 → pm_okF 8 k
  | 0, _ => pmF_8_0
  | 1, _ => pmF_8_1
  | 2, _ => pmF_8_2
  | 3, _ => pmF_8_3
  | 4, _ => pmF_8_4
  | 5, _ => pmF_8_5
  | 6, _ => pmF_8_6
  | 7, _ => pmF_8_7
  | 8, _ => pmF_8_8
  | 9, _ => pmF_8_9
  | 10, _ => pmF_8_10
  | 11, _ => pmF_8_11
  | 12, _ => pmF_8_12
  | 13, _ => pmF_8_13
  | 14, _ => pmF_8_14
  | 15, _ => pmF_8_15
  | 16, _ => pmF_8_16
  | 17, _ => pmF_8_17
  | 18, _ => pmF_8_18
  | 19, _ => pmF_8_19
  | 20, _ => pmF_8_20
  | 21, _ => pmF_8_21
  | 22, _ => pmF_8_22
  | 23, _ => pmF_8_23
  | 24, _ => pmF_8_24
  | 25, _ => pmF_8_25
  | 26, _ => pmF_8_26
  | 27, _ => pmF_8_27
  | 28, _ => pmF_8_28
  | 29, _ => pmF_8_29
  | 30, _ => pmF_8_30
  | 31, _ => pmF_8_31
  | 32, _ => pmF_8_32
  | 33, _ => pmF_8_33
  | 34, _ => pmF_8_34
  | 35, _ => pmF_8_35
  | 36, _ => pmF_8_36
  | k + 37, h => absurd h (by omega)
theorem pmC_all : ∀ i, i < 9 → pm_okC i
  | 0, _ => pmC_0
  | 1, _ => pmC_1
  | 2, _ => pmC_2
  | 3, _ => pmC_3
  | 4, _ => pmC_4
  | 5, _ => pmC_5
  | 6, _ => pmC_6
  | 7, _ => pmC_7
  | 8, _ => pmC_8
  | k + 9, h => absurd h (by omega)
theorem pmF_all : ∀ i, i < 9 → ∀ k, k < pm_N i → pm_okF i k
  | 0, _ => pmF_0
  | 1, _ => pmF_1
  | 2, _ => pmF_2
  | 3, _ => pmF_3
  | 4, _ => pmF_4
  | 5, _ => pmF_5
  | 6, _ => pmF_6
  | 7, _ => pmF_7
  | 8, _ => pmF_8
  | k + 9, h => absurd h (by omega)
def pm_okL (own : Nat) (e : Nat × Nat × Nat) : Prop := e.2.1 < 9 ∧ e.2.2 < pm_N e.2.1 ∧ Cond.fieldLink (pm_cn own) e.1 (pm_T e.2.1 e.2.2).1 (pm_T e.2.1 e.2.2).2.1 (pm_T e.2.1 e.2.2).2.2.1 ∈ lw_tbl
theorem pmf_0 : ∀ e ∈ pm_flL 0, pm_okL 0 e := List.forall_mem_cons.mpr ⟨⟨by decide, by decide, List.mem_of_getElem? (i := 265) (by decide +kernel)⟩, List.forall_mem_cons.mpr ⟨⟨by decide, by decide, List.mem_of_getElem? (i := 267) (by decide +kernel)⟩, fun _ h => absurd h List.not_mem_nil⟩⟩
theorem pmf_1 : ∀ e ∈ pm_flL 1, pm_okL 1 e := List.forall_mem_cons.mpr ⟨⟨by decide, by decide, List.mem_of_getElem? (i := 166) (by decide +kernel)⟩, List.forall_mem_cons.mpr ⟨⟨by decide, by decide, List.mem_of_getElem? (i := 167) (by decide +kernel)⟩, List.forall_mem_cons.mpr ⟨⟨by decide, by decide, List.mem_of_getElem? (i := 169) (by decide +kernel)⟩, List.forall_mem_cons.mpr ⟨⟨by decide, by decide, List.mem_of_getElem? (i := 171) (by decide +kernel)⟩, List.forall_mem_cons.mpr ⟨⟨by decide, by decide, List.mem_of_getElem? (i := 173) (by decide +kernel)⟩, List.forall_mem_cons.mpr ⟨⟨by decide, by decide, List.mem_of_getElem? (i := 176) (by decide +kernel)⟩, List.forall_mem_cons.mpr ⟨⟨by decide, by decide, List.mem_of_getElem? (i := 178) (by decide +kernel)⟩, List.forall_mem_cons.mpr ⟨⟨by decide, by decide, List.mem_of_getElem? (i := 95) (by decide +kernel)⟩, List.forall_mem_cons.mpr ⟨⟨by decide, by decide, List.mem_of_getElem? (i := 104) (by decide +kernel)⟩, List.forall_mem_cons.mpr ⟨⟨by decide, by decide, List.mem_of_getElem? (i := 125) (by decide +kernel)⟩, List.forall_mem_cons.mpr ⟨⟨by decide, by decide, List.mem_of_getElem? (i := 111) (by decide +kernel)⟩, List.forall_mem_cons.mpr ⟨⟨by decide, by decide, List.mem_of_getElem? (i := 114) (by decide +kernel)⟩, List.forall_mem_cons.mpr ⟨⟨by decide, by decide, List.mem_of_getElem? (i := 122) (by decide +kernel)⟩, List.forall_mem_cons.mpr ⟨⟨by decide, by decide, List.mem_of_getElem? (i := 100) (by decide +kernel)⟩, fun _ h => absurd h List.not_mem_nil⟩⟩⟩⟩⟩⟩⟩⟩⟩⟩⟩⟩⟩⟩
theorem pmf_2 : ∀ e ∈ pm_flL 2, pm_okL 2 e := List.forall_mem_cons.mpr ⟨⟨by decide, by decide, List.mem_of_getElem? (i := 67) (by decide +kernel)⟩, List.forall_mem_cons.mpr ⟨⟨by decide, by decide, List.mem_of_getElem? (i := 69) (by decide +kernel)⟩, List.forall_mem_cons.mpr ⟨⟨by decide, by decide, List.mem_of_getElem? (i := 71) (by decide +kernel)⟩, List.forall_mem_cons.mpr ⟨⟨by decide, by decide, List.mem_of_getElem? (i := 73) (by decide +kernel)⟩, List.forall_mem_cons.mpr ⟨⟨by decide, by decide, List.mem_of_getElem? (i := 65) (by decide +kernel)⟩, fun _ h => absurd h List.not_mem_nil⟩⟩⟩⟩⟩
theorem pmf_3 : ∀ e ∈ pm_flL 3, pm_okL 3 e := List.forall_mem_cons.mpr ⟨⟨by decide, by decide, List.mem_of_getElem? (i := 201) (by decide +kernel)⟩, List.forall_mem_cons.mpr ⟨⟨by decide, by decide, List.mem_of_getElem? (i := 202) (by decide +kernel)⟩, List.forall_mem_cons.mpr ⟨⟨by decide, by decide, List.mem_of_getElem? (i := 203) (by decide +kernel)⟩, List.forall_mem_cons.mpr ⟨⟨by decide, by decide, List.mem_of_getElem? (i := 204) (by decide +kernel)⟩, List.forall_mem_cons.mpr ⟨⟨by decide, by decide, List.mem_of_getElem? (i := 94) (by decide +kernel)⟩, List.forall_mem_cons.mpr ⟨⟨by decide, by decide, List.mem_of_getElem? (i := 103) (by decide +kernel)⟩, List.forall_mem_cons.mpr ⟨⟨by decide, by decide, List.mem_of_getElem? (i := 174) (by decide +kernel)⟩, List.forall_mem_cons.mpr ⟨⟨by decide, by decide, List.mem_of_getElem? (i := 99) (by decide +kernel)⟩, List.forall_mem_cons.mpr ⟨⟨by decide, by decide, List.mem_of_getElem? (i := 123) (by decide +kernel)⟩, fun _ h => absurd h List.not_mem_nil⟩⟩⟩⟩⟩⟩⟩⟩⟩
theorem pmf_4 : ∀ e ∈ pm_flL 4, pm_okL 4 e := List.forall_mem_cons.mpr ⟨⟨by decide, by decide, List.mem_of_getElem? (i := 223) (by decide +kernel)⟩, List.forall_mem_cons.mpr ⟨⟨by decide, by decide, List.mem_of_getElem? (i := 224) (by decide +kernel)⟩, List.forall_mem_cons.mpr ⟨⟨by decide, by decide, List.mem_of_getElem? (i := 226) (by decide +kernel)⟩, List.forall_mem_cons.mpr ⟨⟨by decide, by decide, List.mem_of_getElem? (i := 228) (by decide +kernel)⟩, List.forall_mem_cons.mpr ⟨⟨by decide, by decide, List.mem_of_getElem? (i := 230) (by decide +kernel)⟩, List.forall_mem_cons.mpr ⟨⟨by decide, by decide, List.mem_of_getElem? (i := 231) (by decide +kernel)⟩, List.forall_mem_cons.mpr ⟨⟨by decide, by decide, List.mem_of_getElem? (i := 233) (by decide +kernel)⟩, List.forall_mem_cons.mpr ⟨⟨by decide, by decide, List.mem_of_getElem? (i := 235) (by decide +kernel)⟩, List.forall_mem_cons.mpr ⟨⟨by decide, by decide, List.mem_of_getElem? (i := 236) (by decide +kernel)⟩, List.forall_mem_cons.mpr ⟨⟨by decide, by decide, List.mem_of_getElem? (i := 96) (by decide +kernel)⟩, List.forall_mem_cons.mpr ⟨⟨by decide, by decide, List.mem_of_getElem? (i := 106) (by decide +kernel)⟩, List.forall_mem_cons.mpr ⟨⟨by decide, by decide, List.mem_of_getElem? (i := 109) (by decide +kernel)⟩, List.forall_mem_cons.mpr ⟨⟨by decide, by decide, List.mem_of_getElem? (i := 237) (by decide +kernel)⟩, fun _ h => absurd h List.not_mem_nil⟩⟩⟩⟩⟩⟩⟩⟩⟩⟩⟩⟩⟩
theorem pmf_5 : ∀ e ∈ pm_flL 5, pm_okL 5 e := List.forall_mem_cons.mpr ⟨⟨by decide, by decide, List.mem_of_getElem? (i := 98) (by decide +kernel)⟩, List.forall_mem_cons.mpr ⟨⟨by decide, by decide, List.mem_of_getElem? (i := 102) (by decide +kernel)⟩, List.forall_mem_cons.mpr ⟨⟨by decide, by decide, List.mem_of_getElem? (i := 107) (by decide +kernel)⟩, List.forall_mem_cons.mpr ⟨⟨by decide, by decide, List.mem_of_getElem? (i := 110) (by decide +kernel)⟩, List.forall_mem_cons.mpr ⟨⟨by decide, by decide, List.mem_of_getElem? (i := 113) (by decide +kernel)⟩, List.forall_mem_cons.mpr ⟨⟨by decide, by decide, List.mem_of_getElem? (i := 116) (by decide +kernel)⟩, List.forall_mem_cons.mpr ⟨⟨by decide, by decide, List.mem_of_getElem? (i := 118) (by decide +kernel)⟩, List.forall_mem_cons.mpr ⟨⟨by decide, by decide, List.mem_of_getElem? (i := 120) (by decide +kernel)⟩, List.forall_mem_cons.mpr ⟨⟨by decide, by decide, List.mem_of_getElem? (i := 124) (by decide +kernel)⟩, List.forall_mem_cons.mpr ⟨⟨by decide, by decide, List.mem_of_getElem? (i := 127) (by decide +kernel)⟩, List.forall_mem_cons.mpr ⟨⟨by decide, by decide, List.mem_of_getElem? (i := 129) (by decide +kernel)⟩, List.forall_mem_cons.mpr ⟨⟨by decide, by decide, List.mem_of_getElem? (i := 131) (by decide +kernel)⟩, List.forall_mem_cons.mpr ⟨⟨by decide, by decide, List.mem_of_getElem? (i := 93) (by decide +kernel)⟩, fun _ h => absurd h List.not_mem_nil⟩⟩⟩⟩⟩⟩⟩⟩⟩⟩⟩⟩⟩
theorem pmf_6 : ∀ e ∈ pm_flL 6, pm_okL 6 e := List.forall_mem_cons.mpr ⟨⟨by decide, by decide, List.mem_of_getElem? (i := 282) (by decide +kernel)⟩, List.forall_mem_cons.mpr ⟨⟨by decide, by decide, List.mem_of_getElem? (i := 280) (by decide +kernel)⟩, fun _ h => absurd h List.not_mem_nil⟩⟩
theorem pmf_7 : ∀ e ∈ pm_flL 7, pm_okL 7 e := List.forall_mem_cons.mpr ⟨⟨by decide, by decide, List.mem_of_getElem? (i := 288) (by decide +kernel)⟩, List.forall_mem_cons.mpr ⟨⟨by decide, by decide, List.mem_of_getElem? (i := 289) (by decide +kernel)⟩, List.forall_mem_cons.mpr ⟨⟨by decide, by decide, List.mem_of_getElem? (i := 290) (by decide +kernel)⟩, List.forall_mem_cons.mpr ⟨⟨by decide, by decide, List.mem_of_getElem? (i := 291) (by decide +kernel)⟩, List.forall_mem_cons.mpr ⟨⟨by decide, by decide, List.mem_of_getElem? (i := 292) (by decide +kernel)⟩, List.forall_mem_cons.mpr ⟨⟨by decide, by decide, List.mem_of_getElem? (i := 293) (by decide +kernel)⟩, List.forall_mem_cons.mpr ⟨⟨by decide, by decide, List.mem_of_getElem? (i := 294) (by decide +kernel)⟩, List.forall_mem_cons.mpr ⟨⟨by decide, by decide, List.mem_of_getElem? (i := 295) (by decide +kernel)⟩, List.forall_mem_cons.mpr ⟨⟨by decide, by decide, List.mem_of_getElem? (i := 66) (by decide +kernel)⟩, List.forall_mem_cons.mpr ⟨⟨by decide, by decide, List.mem_of_getElem? (i := 97) (by decide +kernel)⟩, List.forall_mem_cons.mpr ⟨⟨by decide, by decide, List.mem_of_getElem? (i := 121) (by decide +kernel)⟩, List.forall_mem_cons.mpr ⟨⟨by decide, by decide, List.mem_of_getElem? (i := 126) (by decide +kernel)⟩, List.forall_mem_cons.mpr ⟨⟨by decide, by decide, List.mem_of_getElem? (i := 101) (by decide +kernel)⟩, List.forall_mem_cons.mpr ⟨⟨by decide, by decide, List.mem_of_getElem? (i := 105) (by decide +kernel)⟩, List.forall_mem_cons.mpr ⟨⟨by decide, by decide, List.mem_of_getElem? (i := 108) (by decide +kernel)⟩, List.forall_mem_cons.mpr ⟨⟨by decide, by decide, List.mem_of_getElem? (i := 112) (by decide +kernel)⟩, List.forall_mem_cons.mpr ⟨⟨by decide, by decide, List.mem_of_getElem? (i := 115) (by decide +kernel)⟩, List.forall_mem_cons.mpr ⟨⟨by decide, by decide, List.mem_of_getElem? (i := 117) (by decide +kernel)⟩, List.forall_mem_cons.mpr ⟨⟨by decide, by decide, List.mem_of_getElem? (i := 119) (by decide +kernel)⟩, List.forall_mem_cons.mpr ⟨⟨by decide, by decide, List.mem_of_getElem? (i := 172) (by decide +kernel)⟩, List.forall_mem_cons.mpr ⟨⟨by decide, by decide, List.mem_of_getElem? (i := 175) (by decide +kernel)⟩, List.forall_mem_cons.mpr ⟨⟨by decide, by decide, List.mem_of_getElem? (i := 177) (by decide +kernel)⟩, List.forall_mem_cons.mpr ⟨⟨by decide, by decide, List.mem_of_getElem? (i := 168) (by decide +kernel)⟩, List.forall_mem_cons.mpr ⟨⟨by decide, by decide, List.mem_of_getElem? (i := 128) (by decide +kernel)⟩, List.forall_mem_cons.mpr ⟨⟨by decide, by decide, List.mem_of_getElem? (i := 130) (by decide +kernel)⟩, List.forall_mem_cons.mpr ⟨⟨by decide, by decide, List.mem_of_getElem? (i := 225) (by decide +kernel)⟩, List.forall_mem_cons.mpr ⟨⟨by decide, by decide, List.mem_of_getElem? (i := 227) (by decide +kernel)⟩, List.forall_mem_cons.mpr ⟨⟨by decide, by decide, List.mem_of_getElem? (i := 229) (by decide +kernel)⟩, List.forall_mem_cons.mpr ⟨⟨by decide, by decide, List.mem_of_getElem? (i := 232) (by decide +kernel)⟩, List.forall_mem_cons.mpr ⟨⟨by decide, by decide, List.mem_of_getElem? (i := 234) (by decide +kernel)⟩, List.forall_mem_cons.mpr ⟨⟨by decide, by decide, List.mem_of_getElem? (i := 266) (by decide +kernel)⟩, List.forall_mem_cons.mpr ⟨⟨by decide, by decide, List.mem_of_getElem? (i := 268) (by decide +kernel)⟩, List.forall_mem_cons.mpr ⟨⟨by decide, by decide, List.mem_of_getElem? (i := 68) (by decide +kernel)⟩, List.forall_mem_cons.mpr ⟨⟨by decide, by decide, List.mem_of_getElem? (i := 70) (by decide +kernel)⟩, List.forall_mem_cons.mpr ⟨⟨by decide, by decide, List.mem_of_getElem? (i := 72) (by decide +kernel)⟩, List.forall_mem_cons.mpr ⟨⟨by decide, by decide, List.mem_of_getElem? (i := 74) (by decide +kernel)⟩, List.forall_mem_cons.mpr ⟨⟨by decide, by decide, List.mem_of_getElem? (i := 281) (by decide +kernel)⟩, List.forall_mem_cons.mpr ⟨⟨by decide, by decide, List.mem_of_getElem? (i := 170) (by decide +kernel)⟩, fun _ h => absurd h List.not_mem_nil⟩⟩⟩⟩⟩⟩⟩⟩⟩⟩⟩⟩⟩⟩⟩⟩⟩⟩⟩⟩⟩⟩⟩⟩⟩⟩⟩⟩⟩⟩⟩⟩⟩⟩⟩⟩⟩⟩
theorem pmf_8 : ∀ e ∈ pm_flL 8, pm_okL 8 e := List.forall_mem_cons.mpr ⟨⟨by decide, by decide, List.mem_of_getElem? (i := 696) (by decide +kernel)⟩, List.forall_mem_cons.mpr ⟨⟨by decide, by decide, List.mem_of_getElem? (i := 697) (by decide +kernel)⟩, List.forall_mem_cons.mpr ⟨⟨by decide, by decide, List.mem_of_getElem? (i := 698) (by decide +kernel)⟩, List.forall_mem_cons.mpr ⟨⟨by decide, by decide, List.mem_of_getElem? (i := 699) (by decide +kernel)⟩, List.forall_mem_cons.mpr ⟨⟨by decide, by decide, List.mem_of_getElem? (i := 701) (by decide +kernel)⟩, List.forall_mem_cons.mpr ⟨⟨by decide, by decide, List.mem_of_getElem? (i := 702) (by decide +kernel)⟩, List.forall_mem_cons.mpr ⟨⟨by decide, by decide, List.mem_of_getElem? (i := 703) (by decide +kernel)⟩, List.forall_mem_cons.mpr ⟨⟨by decide, by decide, List.mem_of_getElem? (i := 704) (by decide +kernel)⟩, List.forall_mem_cons.mpr ⟨⟨by decide, by decide, List.mem_of_getElem? (i := 705) (by decide +kernel)⟩, List.forall_mem_cons.mpr ⟨⟨by decide, by decide, List.mem_of_getElem? (i := 706) (by decide +kernel)⟩, List.forall_mem_cons.mpr ⟨⟨by decide, by decide, List.mem_of_getElem? (i := 707) (by decide +kernel)⟩, List.forall_mem_cons.mpr ⟨⟨by decide, by decide, List.mem_of_getElem? (i := 708) (by decide +kernel)⟩, List.forall_mem_cons.mpr ⟨⟨by decide, by decide, List.mem_of_getElem? (i := 709) (by decide +kernel)⟩, List.forall_mem_cons.mpr ⟨⟨by decide, by decide, List.mem_of_getElem? (i := 710) (by decide +kernel)⟩, List.forall_mem_cons.mpr ⟨⟨by decide, by decide, List.mem_of_getElem? (i := 711) (by decide +kernel)⟩, List.forall_mem_cons.mpr ⟨⟨by decide, by decide, List.mem_of_getElem? (i := 712) (by decide +kernel)⟩, List.forall_mem_cons.mpr ⟨⟨by decide, by decide, List.mem_of_getElem? (i := 713) (by decide +kernel)⟩, List.forall_mem_cons.mpr ⟨⟨by decide, by decide, List.mem_of_getElem? (i := 714) (by decide +kernel)⟩, List.forall_mem_cons.mpr ⟨⟨by decide, by decide, List.mem_of_getElem? (i := 715) (by decide +kernel)⟩, List.forall_mem_cons.mpr ⟨⟨by decide, by decide, List.mem_of_getElem? (i := 716) (by decide +kernel)⟩, List.forall_mem_cons.mpr ⟨⟨by decide, by decide, List.mem_of_getElem? (i := 717) (by decide +kernel)⟩, List.forall_mem_cons.mpr ⟨⟨by decide, by decide, List.mem_of_getElem? (i := 718) (by decide +kernel)⟩, List.forall_mem_cons.mpr ⟨⟨by decide, by decide, List.mem_of_getElem? (i := 719) (by decide +kernel)⟩, List.forall_mem_cons.mpr ⟨⟨by decide, by decide, List.mem_of_getElem? (i := 720) (by decide +kernel)⟩, List.forall_mem_cons.mpr ⟨⟨by decide, by decide, List.mem_of_getElem? (i := 721) (by decide +kernel)⟩, List.forall_mem_cons.mpr ⟨⟨by decide, by decide, List.mem_of_getElem? (i := 722) (by decide +kernel)⟩, List.forall_mem_cons.mpr ⟨⟨by decide, by decide, List.mem_of_getElem? (i := 723) (by decide +kernel)⟩, List.forall_mem_cons.mpr ⟨⟨by decide, by decide, List.mem_of_getElem? (i := 724) (by decide +kernel)⟩, List.forall_mem_cons.mpr ⟨⟨by decide, by decide, List.mem_of_getElem? (i := 726) (by decide +kernel)⟩, List.forall_mem_cons.mpr ⟨⟨by decide, by decide, List.mem_of_getElem? (i := 727) (by decide +kernel)⟩, List.forall_mem_cons.mpr ⟨⟨by decide, by decide, List.mem_of_getElem? (i := 728) (by decide +kernel)⟩, List.forall_mem_cons.mpr ⟨⟨by decide, by decide, List.mem_of_getElem? (i := 729) (by decide +kernel)⟩, List.forall_mem_cons.mpr ⟨⟨by decide, by decide, List.mem_of_getElem? (i := 730) (by decide +kernel)⟩, List.forall_mem_cons.mpr ⟨⟨by decide, by decide, List.mem_of_getElem? (i := 695) (by decide +kernel)⟩, List.forall_mem_cons.mpr ⟨⟨by decide, by decide, List.mem_of_getElem? (i := 694) (by decide +kernel)⟩, List.forall_mem_cons.mpr ⟨⟨by decide, by decide, List.mem_of_getElem? (i := 725) (by decide +kernel)⟩, List.forall_mem_cons.mpr ⟨⟨by decide, by decide, List.mem_of_getElem? (i := 700) (by decide +kernel)⟩, fun _ h => absurd h List.not_mem_nil⟩⟩⟩⟩⟩⟩⟩⟩⟩⟩⟩⟩⟩⟩⟩⟩⟩⟩⟩⟩⟩⟩⟩⟩⟩⟩⟩⟩⟩⟩⟩⟩⟩⟩⟩⟩⟩
theorem pmf_all : ∀ own, ∀ e ∈ pm_flL own, pm_okL own e
  | 0 => pmf_0
  | 1 => pmf_1
  | 2 => pmf_2
  | 3 => pmf_3
  | 4 => pmf_4
  | 5 => pmf_5
  | 6 => pmf_6
  | 7 => pmf_7
  | 8 => pmf_8
  | _ + 9 => fun _ h => absurd h List.not_mem_nil
theorem pm_arr : Cond.arrayClass .int ∈ lw_tbl ∧ Cond.arrayClass .boolean ∈ lw_tbl := ⟨List.mem_of_getElem? (i := 86) (by decide +kernel), List.mem_of_getElem? (i := 159) (by decide +kernel)⟩
set_option maxRecDepth 50000 in
theorem pm_max_ok : Cond.static Lib.Math.max.name ∈ lw_tbl ∧ Cond.initialized "java/lang/Math" ∈ lw_tbl ∧ Cond.code Lib.Math.max.name Lib.Math.max.code 2 (some .int) ∈ lw_tbl := ⟨List.mem_of_getElem? (i := 412) (by decide +kernel), List.mem_of_getElem? (i := 50) (by decide +kernel), List.mem_of_getElem? (i := 413) rfl⟩
set_option maxRecDepth 50000 in
theorem pm_min_ok : Cond.static Lib.Math.min.name ∈ lw_tbl ∧ Cond.initialized "java/lang/Math" ∈ lw_tbl ∧ Cond.code Lib.Math.min.name Lib.Math.min.code 2 (some .int) ∈ lw_tbl := ⟨List.mem_of_getElem? (i := 475) (by decide +kernel), List.mem_of_getElem? (i := 50) (by decide +kernel), List.mem_of_getElem? (i := 476) rfl⟩
def pm_okX (own : Nat) (e : Nat × Nat) : Prop := (e.2 = 0 ∧ Cond.methodLink (pm_cn own) e.1 Lib.Math.max.name ∈ lw_tbl) ∨ (e.2 = 1 ∧ Cond.methodLink (pm_cn own) e.1 Lib.Math.min.name ∈ lw_tbl)
theorem pmx_1 : ∀ e ∈ pm_mxL 1, pm_okX 1 e := List.forall_mem_cons.mpr ⟨Or.inl ⟨rfl, List.mem_of_getElem? (i := 411) (by decide +kernel)⟩, fun _ h => absurd h List.not_mem_nil⟩
theorem pmx_3 : ∀ e ∈ pm_mxL 3, pm_okX 3 e := List.forall_mem_cons.mpr ⟨Or.inr ⟨rfl, List.mem_of_getElem? (i := 474) (by decide +kernel)⟩, fun _ h => absurd h List.not_mem_nil⟩
theorem pmx_4 : ∀ e ∈ pm_mxL 4, pm_okX 4 e := List.forall_mem_cons.mpr ⟨Or.inl ⟨rfl, List.mem_of_getElem? (i := 576) (by decide +kernel)⟩, fun _ h => absurd h List.not_mem_nil⟩
theorem pmx_7 : ∀ e ∈ pm_mxL 7, pm_okX 7 e := List.forall_mem_cons.mpr ⟨Or.inl ⟨rfl, List.mem_of_getElem? (i := 521) (by decide +kernel)⟩, List.forall_mem_cons.mpr ⟨Or.inr ⟨rfl, List.mem_of_getElem? (i := 522) (by decide +kernel)⟩, fun _ h => absurd h List.not_mem_nil⟩⟩
theorem pmx_all : ∀ own, ∀ e ∈ pm_mxL own, pm_okX own e
  | 0 => fun _ h => absurd h List.not_mem_nil
  | 1 => pmx_1
  | 2 => fun _ h => absurd h List.not_mem_nil
  | 3 => pmx_3
  | 4 => pmx_4
  | 5 => fun _ h => absurd h List.not_mem_nil
  | 6 => fun _ h => absurd h List.not_mem_nil
  | 7 => pmx_7
  | 8 => fun _ h => absurd h List.not_mem_nil
  | _ + 9 => fun _ h => absurd h List.not_mem_nil
