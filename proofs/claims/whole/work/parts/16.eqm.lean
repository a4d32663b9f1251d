/-! equations of the reference: blocks of its methods -/
theorem qX8_in_0 {sl : Nat} {xs : Nat → Int32} {d : Nat} {a0 a1 a2 : Int32} {h : pmH} : pm_cf (pm_Ev sl xs) (d + 1) 95 [.int a0, .int a1, .int a2] (SH, h) = if a0 < a1 then (some (some (.int (nI 0)), (SH, h))) else (if a2 < a0 then (some (some (.int (nI 0)), (SH, h))) else (some (some (.int (nI 1)), (SH, h)))) := by
  have hM : pm_mt 95 = some mt_95 := rfl
  refine e_call (L := [some (.int a0), some (.int a1), some (.int a2)]) hM rfl rfl ?_
  refine e_iload_n (pc2 := 1) hM rfl rfl rfl ?_
  refine e_iload_n (pc2 := 2) hM rfl rfl rfl ?_
  refine e_icmp_lt (pc2 := 5) (tgt := 14) hM rfl rfl rfl ?_ ?_
  · refine e_iconst (pc2 := 15) (v := nI 0) hM rfl rfl rfl ?_
    exact e_zret hM rfl rfl pm_01a
  · refine e_iload_n (pc2 := 6) hM rfl rfl rfl ?_
    refine e_iload_n (pc2 := 7) hM rfl rfl rfl ?_
    refine e_icmp_gt (pc2 := 10) (tgt := 14) hM rfl rfl rfl ?_ ?_
    · refine e_iconst (pc2 := 15) (v := nI 0) hM rfl rfl rfl ?_
      exact e_zret hM rfl rfl pm_01a
    · refine e_iconst (pc2 := 11) (v := nI 1) hM rfl rfl rfl ?_
      refine e_goto (tgt := 15) hM rfl rfl ?_
      exact e_zret hM rfl rfl pm_01b
theorem qX8_finds_0 {sl : Nat} {xs : Nat → Int32} {d : Nat} {a0 : Int32} {h : pmH} : pm_cf (pm_Ev sl xs) (d + 1) 96 [.ref 40, .int a0] (SH, h) = pm_ix none a0 6 fun j1 => pm_ix none a0 6 fun j2 => some (some (.int ((-1000000000) - a0)), (SH, (pm_up h 58 j2 ((h 58 j1) + (nI 1))))) := by
  have hM : pm_mt 96 = some mt_96 := rfl
  refine e_call (L := [some (.ref 40), some (.int a0)]) hM rfl rfl ?_
  refine e_aload_n (pc2 := 1) hM rfl rfl rfl ?_
  refine e_getfr (pc2 := 4) (k := 39) (b := 59) hM rfl rfl rfl rfl rfl ?_
  refine e_iload_n (pc2 := 5) hM rfl rfl rfl ?_
  refine e_dup2 (pc2 := 6) hM rfl rfl rfl rfl ?_
  refine e_iald (pc2 := 7) (k := 58) (V := fun j1 => (h 58 j1)) hM rfl rfl rfl (fun _ => rfl) (fun j1 => ?_)
  refine e_iconst (pc2 := 8) (v := nI 1) hM rfl rfl rfl ?_
  refine e_iadd (pc2 := 9) hM rfl rfl ?_
  refine e_iast (pc2 := 10) (k := 58) hM rfl rfl rfl (fun j2 => ?_)
  refine e_ldc (pc2 := 12) (v := (-1000000000)) hM rfl rfl rfl ?_
  refine e_iload_n (pc2 := 13) hM rfl rfl rfl ?_
  refine e_isub (pc2 := 14) hM rfl rfl ?_
  exact e_iret hM rfl rfl
theorem qX8_isString_0 {sl : Nat} {xs : Nat → Int32} {d : Nat} {a0 : Int32} {h : pmH} : pm_cf (pm_Ev sl xs) (d + 2) 97 [.ref 40, .int a0] (SH, h) = pm_ri (pm_cf (pm_Ev sl xs) (d + 1) 95 [.int a0, .int (nI 0), .int ((h 39 1) - (nI 1))] (SH, h)) SH fun x2 h1 => if x2 = 0 ∨ x2 = 1 then some (some (.int x2), (SH, h1)) else none := by
  have hM : pm_mt 97 = some mt_97 := rfl
  refine e_call (L := [some (.ref 40), some (.int a0)]) hM rfl rfl ?_
  refine e_iload_n (pc2 := 1) hM rfl rfl rfl ?_
  refine e_iconst (pc2 := 2) (v := nI 0) hM rfl rfl rfl ?_
  refine e_aload_n (pc2 := 3) hM rfl rfl rfl ?_
  refine e_getfi (pc2 := 6) (k := 39) (v := (h 39 1)) hM rfl rfl rfl rfl rfl rfl ?_
  refine e_iconst (pc2 := 7) (v := nI 1) hM rfl rfl rfl ?_
  refine e_isub (pc2 := 8) hM rfl rfl ?_
  refine e_csi (pc2 := 11) (As := [.int a0, .int (nI 0), .int ((h 39 1) - (nI 1))]) (rest := []) hM rfl rfl rfl rfl rfl rfl rfl (fun x2 h1 => ?_)
  exact e_zretX hM rfl rfl
theorem qX8_has_0 {sl : Nat} {xs : Nat → Int32} {d : Nat} {a0 a1 : Int32} {h : pmH} : pm_cf (pm_Ev sl xs) (d + 1) 98 [.int a0, .int a1] (SH, h) = if ((a0 >>> (a1 &&& 31)) &&& (nI 1)) = (nI 1) then (some (some (.int (nI 1)), (SH, h))) else (some (some (.int (nI 0)), (SH, h))) := by
  have hM : pm_mt 98 = some mt_98 := rfl
  refine e_call (L := [some (.int a0), some (.int a1)]) hM rfl rfl ?_
  refine e_iload_n (pc2 := 1) hM rfl rfl rfl ?_
  refine e_iload_n (pc2 := 2) hM rfl rfl rfl ?_
  refine e_ishr (pc2 := 3) hM rfl rfl ?_
  refine e_iconst (pc2 := 4) (v := nI 1) hM rfl rfl rfl ?_
  refine e_iand (pc2 := 5) hM rfl rfl ?_
  refine e_iconst (pc2 := 6) (v := nI 1) hM rfl rfl rfl ?_
  refine e_icmp_ne (pc2 := 9) (tgt := 13) hM rfl rfl rfl ?_ ?_
  · refine e_iconst (pc2 := 14) (v := nI 0) hM rfl rfl rfl ?_
    exact e_zret hM rfl rfl pm_01a
  · refine e_iconst (pc2 := 10) (v := nI 1) hM rfl rfl rfl ?_
    refine e_goto (tgt := 14) hM rfl rfl ?_
    exact e_zret hM rfl rfl pm_01b
theorem qX8_crate_0 {sl : Nat} {xs : Nat → Int32} {d : Nat} {a0 : Int32} {h : pmH} : pm_cf (pm_Ev sl xs) (d + 2) 99 [.ref 40, .int a0] (SH, h) = pm_ri (pm_cf (pm_Ev sl xs) (d + 1) 95 [.int a0, .int (nI 1), .int (nI 1000)] (SH, h)) SH fun x2 h1 => if x2 = 0 then (pm_ri (pm_cf (pm_Ev sl xs) (d + 1) 96 [.ref 40, .int (nI 1)] (SH, h1)) SH fun x8 h7 => some (some (.int x8), (SH, h7))) else (if (h1 39 0) = (nI 12) then (pm_ri (pm_cf (pm_Ev sl xs) (d + 1) 96 [.ref 40, .int (nI 4)] (SH, h1)) SH fun x6 h5 => some (some (.int x6), (SH, h5))) else (pm_ix none (h1 39 0) 12 fun j3 => pm_ix none (h1 39 0) 12 fun j4 => some (some (.int (((h1 39 0) + (nI 1)) - (nI 1))), (SH, (pm_up (pm_up (pm_up h1 40 j3 a0) 41 j4 a0) 39 0 ((h1 39 0) + (nI 1))))))) := by
  have hM : pm_mt 99 = some mt_99 := rfl
  refine e_call (L := [some (.ref 40), some (.int a0)]) hM rfl rfl ?_
  refine e_iload_n (pc2 := 1) hM rfl rfl rfl ?_
  refine e_iconst (pc2 := 2) (v := nI 1) hM rfl rfl rfl ?_
  refine e_sipush (pc2 := 5) (v := nI 1000) hM rfl rfl rfl rfl ?_
  refine e_csi (pc2 := 8) (As := [.int a0, .int (nI 1), .int (nI 1000)]) (rest := []) hM rfl rfl rfl rfl rfl rfl rfl (fun x2 h1 => ?_)
  refine e_if_ne (pc2 := 11) (tgt := 17) hM rfl rfl rfl ?_ ?_
  · refine e_aload_n (pc2 := 18) hM rfl rfl rfl ?_
    refine e_getfi (pc2 := 21) (k := 39) (v := (h1 39 0)) hM rfl rfl rfl rfl rfl rfl ?_
    refine e_bipush (pc2 := 23) (v := nI 12) hM rfl rfl rfl rfl ?_
    refine e_icmp_ne (pc2 := 26) (tgt := 32) hM rfl rfl rfl ?_ ?_
    · refine e_aload_n (pc2 := 33) hM rfl rfl rfl ?_
      refine e_getfr (pc2 := 36) (k := 39) (b := 41) hM rfl rfl rfl rfl rfl ?_
      refine e_aload_n (pc2 := 37) hM rfl rfl rfl ?_
      refine e_getfi (pc2 := 40) (k := 39) (v := (h1 39 0)) hM rfl rfl rfl rfl rfl rfl ?_
      refine e_iload_n (pc2 := 41) hM rfl rfl rfl ?_
      refine e_iast (pc2 := 42) (k := 40) hM rfl rfl rfl (fun j3 => ?_)
      refine e_aload_n (pc2 := 43) hM rfl rfl rfl ?_
      refine e_getfr (pc2 := 46) (k := 39) (b := 42) hM rfl rfl rfl rfl rfl ?_
      refine e_aload_n (pc2 := 47) hM rfl rfl rfl ?_
      refine e_getfi (pc2 := 50) (k := 39) (v := (h1 39 0)) hM rfl rfl rfl rfl rfl rfl ?_
      refine e_iload_n (pc2 := 51) hM rfl rfl rfl ?_
      refine e_iast (pc2 := 52) (k := 41) hM rfl rfl rfl (fun j4 => ?_)
      refine e_aload_n (pc2 := 53) hM rfl rfl rfl ?_
      refine e_dup (pc2 := 54) hM rfl rfl rfl ?_
      refine e_getfi (pc2 := 57) (k := 39) (v := (h1 39 0)) hM rfl rfl rfl rfl rfl rfl ?_
      refine e_iconst (pc2 := 58) (v := nI 1) hM rfl rfl rfl ?_
      refine e_iadd (pc2 := 59) hM rfl rfl ?_
      refine e_putf (pc2 := 62) (k := 39) hM rfl rfl rfl rfl rfl rfl ?_
      refine e_aload_n (pc2 := 63) hM rfl rfl rfl ?_
      refine e_getfi (pc2 := 66) (k := 39) (v := ((h1 39 0) + (nI 1))) hM rfl rfl rfl rfl rfl rfl ?_
      refine e_iconst (pc2 := 67) (v := nI 1) hM rfl rfl rfl ?_
      refine e_isub (pc2 := 68) hM rfl rfl ?_
      exact e_iret hM rfl rfl
    · refine e_aload_n (pc2 := 27) hM rfl rfl rfl ?_
      refine e_iconst (pc2 := 28) (v := nI 4) hM rfl rfl rfl ?_
      refine e_cvi (pc2 := 31) (k := 39) (As := [.ref 40, .int (nI 4)]) (rest := []) hM rfl rfl rfl rfl rfl rfl rfl (fun x6 h5 => ?_)
      exact e_iret hM rfl rfl
  · refine e_aload_n (pc2 := 12) hM rfl rfl rfl ?_
    refine e_iconst (pc2 := 13) (v := nI 1) hM rfl rfl rfl ?_
    refine e_cvi (pc2 := 16) (k := 39) (As := [.ref 40, .int (nI 1)]) (rest := []) hM rfl rfl rfl rfl rfl rfl rfl (fun x8 h7 => ?_)
    exact e_iret hM rfl rfl
theorem qX8_lampsLeft_0 {sl : Nat} {xs : Nat → Int32} {d : Nat} {h : pmH} : pm_cf (pm_Ev sl xs) (d + 1) 100 [.ref 40] (SH, h) = pm_Ev sl xs d 100 4 [some (.ref 40), some (.int (nI 0)), some (.int (nI 0))] [] (SH, h) := by
  have hM : pm_mt 100 = some mt_100 := rfl
  refine e_call (L := [some (.ref 40), none, none]) hM rfl rfl ?_
  refine e_iconst (pc2 := 1) (v := nI 0) hM rfl rfl rfl ?_
  refine e_istore_n (pc2 := 2) (L2 := [some (.ref 40), some (.int (nI 0)), none]) hM rfl rfl rfl rfl ?_
  refine e_iconst (pc2 := 3) (v := nI 0) hM rfl rfl rfl ?_
  refine e_istore_n (pc2 := 4) (L2 := [some (.ref 40), some (.int (nI 0)), some (.int (nI 0))]) hM rfl rfl rfl rfl ?_
  exact rfl
theorem qX8_lampsLeft_4 {sl : Nat} {xs : Nat → Int32} {d : Nat} {b1 b2 : Int32} {h : pmH} : pm_Ev sl xs d 100 4 [some (.ref 40), some (.int b1), some (.int b2)] [] (SH, h) = if (h 39 0) ≤ b2 then (some (some (.int b1), (SH, h))) else (pm_ix none b2 12 fun j1 => pm_Ev sl xs d 100 4 [some (.ref 40), some (.int (b1 + (h 41 j1))), some (.int (b2 + (nI 1)))] [] (SH, h)) := by
  have hM : pm_mt 100 = some mt_100 := rfl
  refine e_iload_n (pc2 := 5) hM rfl rfl rfl ?_
  refine e_aload_n (pc2 := 6) hM rfl rfl rfl ?_
  refine e_getfi (pc2 := 9) (k := 39) (v := (h 39 0)) hM rfl rfl rfl rfl rfl rfl ?_
  refine e_icmp_ge (pc2 := 12) (tgt := 27) hM rfl rfl rfl ?_ ?_
  · refine e_iload_n (pc2 := 28) hM rfl rfl rfl ?_
    exact e_iret hM rfl rfl
  · refine e_iload_n (pc2 := 13) hM rfl rfl rfl ?_
    refine e_aload_n (pc2 := 14) hM rfl rfl rfl ?_
    refine e_getfr (pc2 := 17) (k := 39) (b := 42) hM rfl rfl rfl rfl rfl ?_
    refine e_iload_n (pc2 := 18) hM rfl rfl rfl ?_
    refine e_iald (pc2 := 19) (k := 41) (V := fun j1 => (h 41 j1)) hM rfl rfl rfl (fun _ => rfl) (fun j1 => ?_)
    refine e_iadd (pc2 := 20) hM rfl rfl ?_
    refine e_istore_n (pc2 := 21) (L2 := [some (.ref 40), some (.int (b1 + (h 41 j1))), some (.int b2)]) hM rfl rfl rfl rfl ?_
    refine e_iinc (pc2 := 24) (v := nI 1) (L2 := [some (.ref 40), some (.int (b1 + (h 41 j1))), some (.int (b2 + (nI 1)))]) hM rfl rfl rfl rfl rfl ?_
    refine e_goto (tgt := 4) hM rfl rfl ?_
    exact rfl
theorem qX8_taken_0 {sl : Nat} {xs : Nat → Int32} {d : Nat} {h : pmH} : pm_cf (pm_Ev sl xs) (d + 1) 101 [.ref 40] (SH, h) = pm_Ev sl xs d 101 2 [some (.ref 40), some (.int (nI 0))] [] (SH, h) := by
  have hM : pm_mt 101 = some mt_101 := rfl
  refine e_call (L := [some (.ref 40), none]) hM rfl rfl ?_
  refine e_iconst (pc2 := 1) (v := nI 0) hM rfl rfl rfl ?_
  refine e_istore_n (pc2 := 2) (L2 := [some (.ref 40), some (.int (nI 0))]) hM rfl rfl rfl rfl ?_
  exact rfl
theorem qX8_taken_2 {sl : Nat} {xs : Nat → Int32} {d : Nat} {b1 : Int32} {h : pmH} : pm_Ev sl xs d 101 2 [some (.ref 40), some (.int b1)] [] (SH, h) = pm_ix none b1 12 fun j1 => if (h 41 j1) = 0 then (pm_Ev sl xs d 101 2 [some (.ref 40), some (.int (b1 + (nI 1)))] [] (SH, h)) else (pm_ix none b1 12 fun j2 => pm_ix none b1 12 fun j3 => some (some (.int b1), (SH, (pm_up h 41 j3 ((h 41 j2) - (nI 1)))))) := by
  have hM : pm_mt 101 = some mt_101 := rfl
  refine e_aload_n (pc2 := 3) hM rfl rfl rfl ?_
  refine e_getfr (pc2 := 6) (k := 39) (b := 42) hM rfl rfl rfl rfl rfl ?_
  refine e_iload_n (pc2 := 7) hM rfl rfl rfl ?_
  refine e_iald (pc2 := 8) (k := 41) (V := fun j1 => (h 41 j1)) hM rfl rfl rfl (fun _ => rfl) (fun j1 => ?_)
  refine e_if_ne (pc2 := 11) (tgt := 17) hM rfl rfl rfl ?_ ?_
  · refine e_aload_n (pc2 := 18) hM rfl rfl rfl ?_
    refine e_getfr (pc2 := 21) (k := 39) (b := 42) hM rfl rfl rfl rfl rfl ?_
    refine e_iload_n (pc2 := 22) hM rfl rfl rfl ?_
    refine e_dup2 (pc2 := 23) hM rfl rfl rfl rfl ?_
    refine e_iald (pc2 := 24) (k := 41) (V := fun j2 => (h 41 j2)) hM rfl rfl rfl (fun _ => rfl) (fun j2 => ?_)
    refine e_iconst (pc2 := 25) (v := nI 1) hM rfl rfl rfl ?_
    refine e_isub (pc2 := 26) hM rfl rfl ?_
    refine e_iast (pc2 := 27) (k := 41) hM rfl rfl rfl (fun j3 => ?_)
    refine e_iload_n (pc2 := 28) hM rfl rfl rfl ?_
    exact e_iret hM rfl rfl
  · refine e_iinc (pc2 := 14) (v := nI 1) (L2 := [some (.ref 40), some (.int (b1 + (nI 1)))]) hM rfl rfl rfl rfl rfl ?_
    refine e_goto (tgt := 2) hM rfl rfl ?_
    exact rfl
theorem qX8_string_0 {sl : Nat} {xs : Nat → Int32} {d : Nat} {a0 a1 a2 a3 a4 a5 : Int32} {h : pmH} : pm_cf (pm_Ev sl xs) (d + 2) 102 [.ref 40, .int a0, .int a1, .int a2, .int a3, .int a4, .int a5] (SH, h) = if nI 10 = 0 then none else (if (a0 - a0 / (nI 10) * (nI 10)) = (nI 1) then (if a0 < 0 then (pm_ri (pm_cf (pm_Ev sl xs) (d + 1) 96 [.ref 40, .int (nI 1)] (SH, h)) SH fun x94 h93 => some (some (.int x94), (SH, h93))) else (if nI 100 = 0 then none else (if (nI 7) < (a0 / (nI 100)) then (pm_ri (pm_cf (pm_Ev sl xs) (d + 1) 96 [.ref 40, .int (nI 1)] (SH, h)) SH fun x96 h95 => some (some (.int x96), (SH, h95))) else (if nI 10 = 0 then none else (if nI 10 = 0 then none else (if (nI 2) < ((a0 / (nI 10)) - (a0 / (nI 10)) / (nI 10) * (nI 10)) then (pm_ri (pm_cf (pm_Ev sl xs) (d + 1) 96 [.ref 40, .int (nI 1)] (SH, h)) SH fun x98 h97 => some (some (.int x98), (SH, h97))) else (if nI 10 = 0 then none else (if (nI 1) < (a0 - a0 / (nI 10) * (nI 10)) then (pm_ri (pm_cf (pm_Ev sl xs) (d + 1) 96 [.ref 40, .int (nI 1)] (SH, h)) SH fun x100 h99 => some (some (.int x100), (SH, h99))) else (if (nI 1) = 0 then (if a1 = 0 then (pm_ri (pm_cf (pm_Ev sl xs) (d + 1) 95 [.int a2, .int (nI 1), .int (nI 100)] (SH, h)) SH fun x102 h101 => if x102 = 0 then (pm_ri (pm_cf (pm_Ev sl xs) (d + 1) 96 [.ref 40, .int (nI 1)] (SH, h101)) SH fun x104 h103 => some (some (.int x104), (SH, h103))) else (pm_ri (pm_cf (pm_Ev sl xs) (d + 1) 95 [.int a3, .int (nI 1), .int (nI 10)] (SH, h101)) SH fun x106 h105 => if x106 = 0 then (pm_ri (pm_cf (pm_Ev sl xs) (d + 1) 96 [.ref 40, .int (nI 1)] (SH, h105)) SH fun x108 h107 => some (some (.int x108), (SH, h107))) else (pm_ri (pm_cf (pm_Ev sl xs) (d + 1) 95 [.int a4, .int (nI 1), .int (nI 60)] (SH, h105)) SH fun x110 h109 => if x110 = 0 then (pm_ri (pm_cf (pm_Ev sl xs) (d + 1) 96 [.ref 40, .int (nI 1)] (SH, h109)) SH fun x112 h111 => some (some (.int x112), (SH, h111))) else (pm_ri (pm_cf (pm_Ev sl xs) (d + 1) 95 [.int a5, .int (nI 1), .int (nI 20)] (SH, h109)) SH fun x114 h113 => if x114 = 0 then (pm_ri (pm_cf (pm_Ev sl xs) (d + 1) 96 [.ref 40, .int (nI 1)] (SH, h113)) SH fun x139 h138 => some (some (.int x139), (SH, h138))) else (pm_ri (pm_cf (pm_Ev sl xs) (d + 1) 100 [.ref 40] (SH, h113)) SH fun x116 h115 => if a4 ≤ x116 then (if (h115 39 1) = (nI 24) then (pm_ri (pm_cf (pm_Ev sl xs) (d + 1) 96 [.ref 40, .int (nI 4)] (SH, h115)) SH fun x135 h134 => some (some (.int x135), (SH, h134))) else (if nI 10 = 0 then none else (if nI 10 = 0 then none else (pm_ix none (h115 39 1) 24 fun j117 => if (nI 1) = 0 then (pm_ix none (h115 39 1) 24 fun j118 => if nI 100 = 0 then none else (pm_ix none (h115 39 1) 24 fun j119 => pm_ix none (h115 39 1) 24 fun j120 => pm_ix none (h115 39 1) 24 fun j121 => pm_ix none (h115 39 1) 24 fun j122 => pm_ix none (h115 39 1) 24 fun j123 => pm_ix none (h115 39 1) 24 fun j124 => pm_ix none (h115 39 1) 24 fun j125 => pm_Ev sl xs (d + 1) 102 254 [some (.ref 40), some (.int a0), some (.int a1), some (.int a2), some (.int a3), some (.int a4), some (.int a5), some (.int (nI 1)), some (.int (h115 39 1)), some (.int (nI 0))] [] (SH, (pm_up (pm_up (pm_up (pm_up (pm_up (pm_up (pm_up (pm_up (pm_up h115 43 j117 ((a0 / (nI 10)) - (a0 / (nI 10)) / (nI 10) * (nI 10))) 44 j118 (-nI 1)) 45 j119 (a0 / (nI 100))) 46 j120 a2) 47 j121 a3) 48 j122 a4) 49 j123 a5) 50 j124 (nI 0)) 53 j125 (nI 0))))) else (pm_ix none (h115 39 1) 24 fun j126 => if nI 100 = 0 then none else (pm_ix none (h115 39 1) 24 fun j127 => pm_ix none (h115 39 1) 24 fun j128 => pm_ix none (h115 39 1) 24 fun j129 => pm_ix none (h115 39 1) 24 fun j130 => pm_ix none (h115 39 1) 24 fun j131 => pm_ix none (h115 39 1) 24 fun j132 => pm_ix none (h115 39 1) 24 fun j133 => pm_Ev sl xs (d + 1) 102 254 [some (.ref 40), some (.int a0), some (.int a1), some (.int a2), some (.int a3), some (.int a4), some (.int a5), some (.int (nI 1)), some (.int (h115 39 1)), some (.int (nI 0))] [] (SH, (pm_up (pm_up (pm_up (pm_up (pm_up (pm_up (pm_up (pm_up (pm_up h115 43 j117 ((a0 / (nI 10)) - (a0 / (nI 10)) / (nI 10) * (nI 10))) 44 j126 a1) 45 j127 (a0 / (nI 100))) 46 j128 a2) 47 j129 a3) 48 j130 a4) 49 j131 a5) 50 j132 (nI 0)) 53 j133 (nI 0))))))))) else (pm_ri (pm_cf (pm_Ev sl xs) (d + 1) 96 [.ref 40, .int (nI 3)] (SH, h115)) SH fun x137 h136 => some (some (.int x137), (SH, h136)))))))) else (pm_ri (pm_cf (pm_Ev sl xs) (d + 1) 96 [.ref 40, .int (nI 1)] (SH, h)) SH fun x141 h140 => some (some (.int x141), (SH, h140)))) else (pm_ri (pm_cf (pm_Ev sl xs) (d + 1) 97 [.ref 40, .int a1] (SH, h)) SH fun x143 h142 => if x143 = 0 then (pm_ri (pm_cf (pm_Ev sl xs) (d + 1) 96 [.ref 40, .int (nI 1)] (SH, h142)) SH fun x184 h183 => some (some (.int x184), (SH, h183))) else (pm_ri (pm_cf (pm_Ev sl xs) (d + 1) 95 [.int a2, .int (nI 1), .int (nI 100)] (SH, h142)) SH fun x145 h144 => if x145 = 0 then (pm_ri (pm_cf (pm_Ev sl xs) (d + 1) 96 [.ref 40, .int (nI 1)] (SH, h144)) SH fun x147 h146 => some (some (.int x147), (SH, h146))) else (pm_ri (pm_cf (pm_Ev sl xs) (d + 1) 95 [.int a3, .int (nI 1), .int (nI 10)] (SH, h144)) SH fun x149 h148 => if x149 = 0 then (pm_ri (pm_cf (pm_Ev sl xs) (d + 1) 96 [.ref 40, .int (nI 1)] (SH, h148)) SH fun x151 h150 => some (some (.int x151), (SH, h150))) else (pm_ri (pm_cf (pm_Ev sl xs) (d + 1) 95 [.int a4, .int (nI 1), .int (nI 60)] (SH, h148)) SH fun x153 h152 => if x153 = 0 then (pm_ri (pm_cf (pm_Ev sl xs) (d + 1) 96 [.ref 40, .int (nI 1)] (SH, h152)) SH fun x155 h154 => some (some (.int x155), (SH, h154))) else (pm_ri (pm_cf (pm_Ev sl xs) (d + 1) 95 [.int a5, .int (nI 1), .int (nI 20)] (SH, h152)) SH fun x157 h156 => if x157 = 0 then (pm_ri (pm_cf (pm_Ev sl xs) (d + 1) 96 [.ref 40, .int (nI 1)] (SH, h156)) SH fun x182 h181 => some (some (.int x182), (SH, h181))) else (pm_ri (pm_cf (pm_Ev sl xs) (d + 1) 100 [.ref 40] (SH, h156)) SH fun x159 h158 => if a4 ≤ x159 then (if (h158 39 1) = (nI 24) then (pm_ri (pm_cf (pm_Ev sl xs) (d + 1) 96 [.ref 40, .int (nI 4)] (SH, h158)) SH fun x178 h177 => some (some (.int x178), (SH, h177))) else (if nI 10 = 0 then none else (if nI 10 = 0 then none else (pm_ix none (h158 39 1) 24 fun j160 => if (nI 1) = 0 then (pm_ix none (h158 39 1) 24 fun j161 => if nI 100 = 0 then none else (pm_ix none (h158 39 1) 24 fun j162 => pm_ix none (h158 39 1) 24 fun j163 => pm_ix none (h158 39 1) 24 fun j164 => pm_ix none (h158 39 1) 24 fun j165 => pm_ix none (h158 39 1) 24 fun j166 => pm_ix none (h158 39 1) 24 fun j167 => pm_ix none (h158 39 1) 24 fun j168 => pm_Ev sl xs (d + 1) 102 254 [some (.ref 40), some (.int a0), some (.int a1), some (.int a2), some (.int a3), some (.int a4), some (.int a5), some (.int (nI 1)), some (.int (h158 39 1)), some (.int (nI 0))] [] (SH, (pm_up (pm_up (pm_up (pm_up (pm_up (pm_up (pm_up (pm_up (pm_up h158 43 j160 ((a0 / (nI 10)) - (a0 / (nI 10)) / (nI 10) * (nI 10))) 44 j161 (-nI 1)) 45 j162 (a0 / (nI 100))) 46 j163 a2) 47 j164 a3) 48 j165 a4) 49 j166 a5) 50 j167 (nI 0)) 53 j168 (nI 0))))) else (pm_ix none (h158 39 1) 24 fun j169 => if nI 100 = 0 then none else (pm_ix none (h158 39 1) 24 fun j170 => pm_ix none (h158 39 1) 24 fun j171 => pm_ix none (h158 39 1) 24 fun j172 => pm_ix none (h158 39 1) 24 fun j173 => pm_ix none (h158 39 1) 24 fun j174 => pm_ix none (h158 39 1) 24 fun j175 => pm_ix none (h158 39 1) 24 fun j176 => pm_Ev sl xs (d + 1) 102 254 [some (.ref 40), some (.int a0), some (.int a1), some (.int a2), some (.int a3), some (.int a4), some (.int a5), some (.int (nI 1)), some (.int (h158 39 1)), some (.int (nI 0))] [] (SH, (pm_up (pm_up (pm_up (pm_up (pm_up (pm_up (pm_up (pm_up (pm_up h158 43 j160 ((a0 / (nI 10)) - (a0 / (nI 10)) / (nI 10) * (nI 10))) 44 j169 a1) 45 j170 (a0 / (nI 100))) 46 j171 a2) 47 j172 a3) 48 j173 a4) 49 j174 a5) 50 j175 (nI 0)) 53 j176 (nI 0))))))))) else (pm_ri (pm_cf (pm_Ev sl xs) (d + 1) 96 [.ref 40, .int (nI 3)] (SH, h158)) SH fun x180 h179 => some (some (.int x180), (SH, h179)))))))))))))))))) else (if a0 < 0 then (pm_ri (pm_cf (pm_Ev sl xs) (d + 1) 96 [.ref 40, .int (nI 1)] (SH, h)) SH fun x2 h1 => some (some (.int x2), (SH, h1))) else (if nI 100 = 0 then none else (if (nI 7) < (a0 / (nI 100)) then (pm_ri (pm_cf (pm_Ev sl xs) (d + 1) 96 [.ref 40, .int (nI 1)] (SH, h)) SH fun x4 h3 => some (some (.int x4), (SH, h3))) else (if nI 10 = 0 then none else (if nI 10 = 0 then none else (if (nI 2) < ((a0 / (nI 10)) - (a0 / (nI 10)) / (nI 10) * (nI 10)) then (pm_ri (pm_cf (pm_Ev sl xs) (d + 1) 96 [.ref 40, .int (nI 1)] (SH, h)) SH fun x6 h5 => some (some (.int x6), (SH, h5))) else (if nI 10 = 0 then none else (if (nI 1) < (a0 - a0 / (nI 10) * (nI 10)) then (pm_ri (pm_cf (pm_Ev sl xs) (d + 1) 96 [.ref 40, .int (nI 1)] (SH, h)) SH fun x8 h7 => some (some (.int x8), (SH, h7))) else (if (nI 0) = 0 then (if a1 = 0 then (pm_ri (pm_cf (pm_Ev sl xs) (d + 1) 95 [.int a2, .int (nI 1), .int (nI 100)] (SH, h)) SH fun x10 h9 => if x10 = 0 then (pm_ri (pm_cf (pm_Ev sl xs) (d + 1) 96 [.ref 40, .int (nI 1)] (SH, h9)) SH fun x12 h11 => some (some (.int x12), (SH, h11))) else (pm_ri (pm_cf (pm_Ev sl xs) (d + 1) 95 [.int a3, .int (nI 1), .int (nI 10)] (SH, h9)) SH fun x14 h13 => if x14 = 0 then (pm_ri (pm_cf (pm_Ev sl xs) (d + 1) 96 [.ref 40, .int (nI 1)] (SH, h13)) SH fun x16 h15 => some (some (.int x16), (SH, h15))) else (pm_ri (pm_cf (pm_Ev sl xs) (d + 1) 95 [.int a4, .int (nI 1), .int (nI 60)] (SH, h13)) SH fun x18 h17 => if x18 = 0 then (pm_ri (pm_cf (pm_Ev sl xs) (d + 1) 96 [.ref 40, .int (nI 1)] (SH, h17)) SH fun x20 h19 => some (some (.int x20), (SH, h19))) else (pm_ri (pm_cf (pm_Ev sl xs) (d + 1) 95 [.int a5, .int (nI 1), .int (nI 20)] (SH, h17)) SH fun x22 h21 => if x22 = 0 then (pm_ri (pm_cf (pm_Ev sl xs) (d + 1) 96 [.ref 40, .int (nI 1)] (SH, h21)) SH fun x47 h46 => some (some (.int x47), (SH, h46))) else (pm_ri (pm_cf (pm_Ev sl xs) (d + 1) 100 [.ref 40] (SH, h21)) SH fun x24 h23 => if a4 ≤ x24 then (if (h23 39 1) = (nI 24) then (pm_ri (pm_cf (pm_Ev sl xs) (d + 1) 96 [.ref 40, .int (nI 4)] (SH, h23)) SH fun x43 h42 => some (some (.int x43), (SH, h42))) else (if nI 10 = 0 then none else (if nI 10 = 0 then none else (pm_ix none (h23 39 1) 24 fun j25 => if (nI 0) = 0 then (pm_ix none (h23 39 1) 24 fun j26 => if nI 100 = 0 then none else (pm_ix none (h23 39 1) 24 fun j27 => pm_ix none (h23 39 1) 24 fun j28 => pm_ix none (h23 39 1) 24 fun j29 => pm_ix none (h23 39 1) 24 fun j30 => pm_ix none (h23 39 1) 24 fun j31 => pm_ix none (h23 39 1) 24 fun j32 => pm_ix none (h23 39 1) 24 fun j33 => pm_Ev sl xs (d + 1) 102 254 [some (.ref 40), some (.int a0), some (.int a1), some (.int a2), some (.int a3), some (.int a4), some (.int a5), some (.int (nI 0)), some (.int (h23 39 1)), some (.int (nI 0))] [] (SH, (pm_up (pm_up (pm_up (pm_up (pm_up (pm_up (pm_up (pm_up (pm_up h23 43 j25 ((a0 / (nI 10)) - (a0 / (nI 10)) / (nI 10) * (nI 10))) 44 j26 (-nI 1)) 45 j27 (a0 / (nI 100))) 46 j28 a2) 47 j29 a3) 48 j30 a4) 49 j31 a5) 50 j32 (nI 0)) 53 j33 (nI 0))))) else (pm_ix none (h23 39 1) 24 fun j34 => if nI 100 = 0 then none else (pm_ix none (h23 39 1) 24 fun j35 => pm_ix none (h23 39 1) 24 fun j36 => pm_ix none (h23 39 1) 24 fun j37 => pm_ix none (h23 39 1) 24 fun j38 => pm_ix none (h23 39 1) 24 fun j39 => pm_ix none (h23 39 1) 24 fun j40 => pm_ix none (h23 39 1) 24 fun j41 => pm_Ev sl xs (d + 1) 102 254 [some (.ref 40), some (.int a0), some (.int a1), some (.int a2), some (.int a3), some (.int a4), some (.int a5), some (.int (nI 0)), some (.int (h23 39 1)), some (.int (nI 0))] [] (SH, (pm_up (pm_up (pm_up (pm_up (pm_up (pm_up (pm_up (pm_up (pm_up h23 43 j25 ((a0 / (nI 10)) - (a0 / (nI 10)) / (nI 10) * (nI 10))) 44 j34 a1) 45 j35 (a0 / (nI 100))) 46 j36 a2) 47 j37 a3) 48 j38 a4) 49 j39 a5) 50 j40 (nI 0)) 53 j41 (nI 0))))))))) else (pm_ri (pm_cf (pm_Ev sl xs) (d + 1) 96 [.ref 40, .int (nI 3)] (SH, h23)) SH fun x45 h44 => some (some (.int x45), (SH, h44)))))))) else (pm_ri (pm_cf (pm_Ev sl xs) (d + 1) 96 [.ref 40, .int (nI 1)] (SH, h)) SH fun x49 h48 => some (some (.int x49), (SH, h48)))) else (pm_ri (pm_cf (pm_Ev sl xs) (d + 1) 97 [.ref 40, .int a1] (SH, h)) SH fun x51 h50 => if x51 = 0 then (pm_ri (pm_cf (pm_Ev sl xs) (d + 1) 96 [.ref 40, .int (nI 1)] (SH, h50)) SH fun x92 h91 => some (some (.int x92), (SH, h91))) else (pm_ri (pm_cf (pm_Ev sl xs) (d + 1) 95 [.int a2, .int (nI 1), .int (nI 100)] (SH, h50)) SH fun x53 h52 => if x53 = 0 then (pm_ri (pm_cf (pm_Ev sl xs) (d + 1) 96 [.ref 40, .int (nI 1)] (SH, h52)) SH fun x55 h54 => some (some (.int x55), (SH, h54))) else (pm_ri (pm_cf (pm_Ev sl xs) (d + 1) 95 [.int a3, .int (nI 1), .int (nI 10)] (SH, h52)) SH fun x57 h56 => if x57 = 0 then (pm_ri (pm_cf (pm_Ev sl xs) (d + 1) 96 [.ref 40, .int (nI 1)] (SH, h56)) SH fun x59 h58 => some (some (.int x59), (SH, h58))) else (pm_ri (pm_cf (pm_Ev sl xs) (d + 1) 95 [.int a4, .int (nI 1), .int (nI 60)] (SH, h56)) SH fun x61 h60 => if x61 = 0 then (pm_ri (pm_cf (pm_Ev sl xs) (d + 1) 96 [.ref 40, .int (nI 1)] (SH, h60)) SH fun x63 h62 => some (some (.int x63), (SH, h62))) else (pm_ri (pm_cf (pm_Ev sl xs) (d + 1) 95 [.int a5, .int (nI 1), .int (nI 20)] (SH, h60)) SH fun x65 h64 => if x65 = 0 then (pm_ri (pm_cf (pm_Ev sl xs) (d + 1) 96 [.ref 40, .int (nI 1)] (SH, h64)) SH fun x90 h89 => some (some (.int x90), (SH, h89))) else (pm_ri (pm_cf (pm_Ev sl xs) (d + 1) 100 [.ref 40] (SH, h64)) SH fun x67 h66 => if a4 ≤ x67 then (if (h66 39 1) = (nI 24) then (pm_ri (pm_cf (pm_Ev sl xs) (d + 1) 96 [.ref 40, .int (nI 4)] (SH, h66)) SH fun x86 h85 => some (some (.int x86), (SH, h85))) else (if nI 10 = 0 then none else (if nI 10 = 0 then none else (pm_ix none (h66 39 1) 24 fun j68 => if (nI 0) = 0 then (pm_ix none (h66 39 1) 24 fun j69 => if nI 100 = 0 then none else (pm_ix none (h66 39 1) 24 fun j70 => pm_ix none (h66 39 1) 24 fun j71 => pm_ix none (h66 39 1) 24 fun j72 => pm_ix none (h66 39 1) 24 fun j73 => pm_ix none (h66 39 1) 24 fun j74 => pm_ix none (h66 39 1) 24 fun j75 => pm_ix none (h66 39 1) 24 fun j76 => pm_Ev sl xs (d + 1) 102 254 [some (.ref 40), some (.int a0), some (.int a1), some (.int a2), some (.int a3), some (.int a4), some (.int a5), some (.int (nI 0)), some (.int (h66 39 1)), some (.int (nI 0))] [] (SH, (pm_up (pm_up (pm_up (pm_up (pm_up (pm_up (pm_up (pm_up (pm_up h66 43 j68 ((a0 / (nI 10)) - (a0 / (nI 10)) / (nI 10) * (nI 10))) 44 j69 (-nI 1)) 45 j70 (a0 / (nI 100))) 46 j71 a2) 47 j72 a3) 48 j73 a4) 49 j74 a5) 50 j75 (nI 0)) 53 j76 (nI 0))))) else (pm_ix none (h66 39 1) 24 fun j77 => if nI 100 = 0 then none else (pm_ix none (h66 39 1) 24 fun j78 => pm_ix none (h66 39 1) 24 fun j79 => pm_ix none (h66 39 1) 24 fun j80 => pm_ix none (h66 39 1) 24 fun j81 => pm_ix none (h66 39 1) 24 fun j82 => pm_ix none (h66 39 1) 24 fun j83 => pm_ix none (h66 39 1) 24 fun j84 => pm_Ev sl xs (d + 1) 102 254 [some (.ref 40), some (.int a0), some (.int a1), some (.int a2), some (.int a3), some (.int a4), some (.int a5), some (.int (nI 0)), some (.int (h66 39 1)), some (.int (nI 0))] [] (SH, (pm_up (pm_up (pm_up (pm_up (pm_up (pm_up (pm_up (pm_up (pm_up h66 43 j68 ((a0 / (nI 10)) - (a0 / (nI 10)) / (nI 10) * (nI 10))) 44 j77 a1) 45 j78 (a0 / (nI 100))) 46 j79 a2) 47 j80 a3) 48 j81 a4) 49 j82 a5) 50 j83 (nI 0)) 53 j84 (nI 0))))))))) else (pm_ri (pm_cf (pm_Ev sl xs) (d + 1) 96 [.ref 40, .int (nI 3)] (SH, h66)) SH fun x88 h87 => some (some (.int x88), (SH, h87))))))))))))))))))) := by
  have hM : pm_mt 102 = some mt_102 := rfl
  refine e_call (L := [some (.ref 40), some (.int a0), some (.int a1), some (.int a2), some (.int a3), some (.int a4), some (.int a5), none, none, none]) hM rfl rfl ?_
  refine e_iload_n (pc2 := 1) hM rfl rfl rfl ?_
  refine e_bipush (pc2 := 3) (v := nI 10) hM rfl rfl rfl rfl ?_
  refine e_irem (pc2 := 4) hM rfl rfl ?_
  refine e_iconst (pc2 := 5) (v := nI 1) hM rfl rfl rfl ?_
  refine e_icmp_ne (pc2 := 8) (tgt := 12) hM rfl rfl rfl ?_ ?_
  · refine e_iconst (pc2 := 13) (v := nI 0) hM rfl rfl rfl ?_
    refine e_istore (pc2 := 15) (L2 := [some (.ref 40), some (.int a0), some (.int a1), some (.int a2), some (.int a3), some (.int a4), some (.int a5), some (.int (nI 0)), none, none]) hM rfl rfl rfl rfl ?_
    refine e_iload_n (pc2 := 16) hM rfl rfl rfl ?_
    refine e_if_lt (pc2 := 19) (tgt := 67) hM rfl rfl rfl ?_ ?_
    · refine e_aload_n (pc2 := 68) hM rfl rfl rfl ?_
      refine e_iconst (pc2 := 69) (v := nI 1) hM rfl rfl rfl ?_
      refine e_cvi (pc2 := 72) (k := 39) (As := [.ref 40, .int (nI 1)]) (rest := []) hM rfl rfl rfl rfl rfl rfl rfl (fun x2 h1 => ?_)
      exact e_iret hM rfl rfl
    · refine e_iload_n (pc2 := 20) hM rfl rfl rfl ?_
      refine e_bipush (pc2 := 22) (v := nI 100) hM rfl rfl rfl rfl ?_
      refine e_idiv (pc2 := 23) hM rfl rfl ?_
      refine e_bipush (pc2 := 25) (v := nI 7) hM rfl rfl rfl rfl ?_
      refine e_icmp_gt (pc2 := 28) (tgt := 67) hM rfl rfl rfl ?_ ?_
      · refine e_aload_n (pc2 := 68) hM rfl rfl rfl ?_
        refine e_iconst (pc2 := 69) (v := nI 1) hM rfl rfl rfl ?_
        refine e_cvi (pc2 := 72) (k := 39) (As := [.ref 40, .int (nI 1)]) (rest := []) hM rfl rfl rfl rfl rfl rfl rfl (fun x4 h3 => ?_)
        exact e_iret hM rfl rfl
      · refine e_iload_n (pc2 := 29) hM rfl rfl rfl ?_
        refine e_bipush (pc2 := 31) (v := nI 10) hM rfl rfl rfl rfl ?_
        refine e_idiv (pc2 := 32) hM rfl rfl ?_
        refine e_bipush (pc2 := 34) (v := nI 10) hM rfl rfl rfl rfl ?_
        refine e_irem (pc2 := 35) hM rfl rfl ?_
        refine e_iconst (pc2 := 36) (v := nI 2) hM rfl rfl rfl ?_
        refine e_icmp_gt (pc2 := 39) (tgt := 67) hM rfl rfl rfl ?_ ?_
        · refine e_aload_n (pc2 := 68) hM rfl rfl rfl ?_
          refine e_iconst (pc2 := 69) (v := nI 1) hM rfl rfl rfl ?_
          refine e_cvi (pc2 := 72) (k := 39) (As := [.ref 40, .int (nI 1)]) (rest := []) hM rfl rfl rfl rfl rfl rfl rfl (fun x6 h5 => ?_)
          exact e_iret hM rfl rfl
        · refine e_iload_n (pc2 := 40) hM rfl rfl rfl ?_
          refine e_bipush (pc2 := 42) (v := nI 10) hM rfl rfl rfl rfl ?_
          refine e_irem (pc2 := 43) hM rfl rfl ?_
          refine e_iconst (pc2 := 44) (v := nI 1) hM rfl rfl rfl ?_
          refine e_icmp_gt (pc2 := 47) (tgt := 67) hM rfl rfl rfl ?_ ?_
          · refine e_aload_n (pc2 := 68) hM rfl rfl rfl ?_
            refine e_iconst (pc2 := 69) (v := nI 1) hM rfl rfl rfl ?_
            refine e_cvi (pc2 := 72) (k := 39) (As := [.ref 40, .int (nI 1)]) (rest := []) hM rfl rfl rfl rfl rfl rfl rfl (fun x8 h7 => ?_)
            exact e_iret hM rfl rfl
          · refine e_iload (pc2 := 49) hM rfl rfl rfl ?_
            refine e_if_eq (pc2 := 52) (tgt := 63) hM rfl rfl rfl ?_ ?_
            · refine e_iload_n (pc2 := 64) hM rfl rfl rfl ?_
              refine e_if_eq (pc2 := 67) (tgt := 73) hM rfl rfl rfl ?_ ?_
              · refine e_iload_n (pc2 := 74) hM rfl rfl rfl ?_
                refine e_iconst (pc2 := 75) (v := nI 1) hM rfl rfl rfl ?_
                refine e_bipush (pc2 := 77) (v := nI 100) hM rfl rfl rfl rfl ?_
                refine e_csi (pc2 := 80) (As := [.int a2, .int (nI 1), .int (nI 100)]) (rest := []) hM rfl rfl rfl rfl rfl rfl rfl (fun x10 h9 => ?_)
                refine e_if_eq (pc2 := 83) (tgt := 116) hM rfl rfl rfl ?_ ?_
                · refine e_aload_n (pc2 := 117) hM rfl rfl rfl ?_
                  refine e_iconst (pc2 := 118) (v := nI 1) hM rfl rfl rfl ?_
                  refine e_cvi (pc2 := 121) (k := 39) (As := [.ref 40, .int (nI 1)]) (rest := []) hM rfl rfl rfl rfl rfl rfl rfl (fun x12 h11 => ?_)
                  exact e_iret hM rfl rfl
                · refine e_iload (pc2 := 85) hM rfl rfl rfl ?_
                  refine e_iconst (pc2 := 86) (v := nI 1) hM rfl rfl rfl ?_
                  refine e_bipush (pc2 := 88) (v := nI 10) hM rfl rfl rfl rfl ?_
                  refine e_csi (pc2 := 91) (As := [.int a3, .int (nI 1), .int (nI 10)]) (rest := []) hM rfl rfl rfl rfl rfl rfl rfl (fun x14 h13 => ?_)
                  refine e_if_eq (pc2 := 94) (tgt := 116) hM rfl rfl rfl ?_ ?_
                  · refine e_aload_n (pc2 := 117) hM rfl rfl rfl ?_
                    refine e_iconst (pc2 := 118) (v := nI 1) hM rfl rfl rfl ?_
                    refine e_cvi (pc2 := 121) (k := 39) (As := [.ref 40, .int (nI 1)]) (rest := []) hM rfl rfl rfl rfl rfl rfl rfl (fun x16 h15 => ?_)
                    exact e_iret hM rfl rfl
                  · refine e_iload (pc2 := 96) hM rfl rfl rfl ?_
                    refine e_iconst (pc2 := 97) (v := nI 1) hM rfl rfl rfl ?_
                    refine e_bipush (pc2 := 99) (v := nI 60) hM rfl rfl rfl rfl ?_
                    refine e_csi (pc2 := 102) (As := [.int a4, .int (nI 1), .int (nI 60)]) (rest := []) hM rfl rfl rfl rfl rfl rfl rfl (fun x18 h17 => ?_)
                    refine e_if_eq (pc2 := 105) (tgt := 116) hM rfl rfl rfl ?_ ?_
                    · refine e_aload_n (pc2 := 117) hM rfl rfl rfl ?_
                      refine e_iconst (pc2 := 118) (v := nI 1) hM rfl rfl rfl ?_
                      refine e_cvi (pc2 := 121) (k := 39) (As := [.ref 40, .int (nI 1)]) (rest := []) hM rfl rfl rfl rfl rfl rfl rfl (fun x20 h19 => ?_)
                      exact e_iret hM rfl rfl
                    · refine e_iload (pc2 := 107) hM rfl rfl rfl ?_
                      refine e_iconst (pc2 := 108) (v := nI 1) hM rfl rfl rfl ?_
                      refine e_bipush (pc2 := 110) (v := nI 20) hM rfl rfl rfl rfl ?_
                      refine e_csi (pc2 := 113) (As := [.int a5, .int (nI 1), .int (nI 20)]) (rest := []) hM rfl rfl rfl rfl rfl rfl rfl (fun x22 h21 => ?_)
                      refine e_if_ne (pc2 := 116) (tgt := 122) hM rfl rfl rfl ?_ ?_
                      · refine e_aload_n (pc2 := 123) hM rfl rfl rfl ?_
                        refine e_cvi (pc2 := 126) (k := 39) (As := [.ref 40]) (rest := []) hM rfl rfl rfl rfl rfl rfl rfl (fun x24 h23 => ?_)
                        refine e_iload (pc2 := 128) hM rfl rfl rfl ?_
                        refine e_icmp_ge (pc2 := 131) (tgt := 137) hM rfl rfl rfl ?_ ?_
                        · refine e_aload_n (pc2 := 138) hM rfl rfl rfl ?_
                          refine e_getfi (pc2 := 141) (k := 39) (v := (h23 39 1)) hM rfl rfl rfl rfl rfl rfl ?_
                          refine e_bipush (pc2 := 143) (v := nI 24) hM rfl rfl rfl rfl ?_
                          refine e_icmp_ne (pc2 := 146) (tgt := 152) hM rfl rfl rfl ?_ ?_
                          · refine e_aload_n (pc2 := 153) hM rfl rfl rfl ?_
                            refine e_getfi (pc2 := 156) (k := 39) (v := (h23 39 1)) hM rfl rfl rfl rfl rfl rfl ?_
                            refine e_istore (pc2 := 158) (L2 := [some (.ref 40), some (.int a0), some (.int a1), some (.int a2), some (.int a3), some (.int a4), some (.int a5), some (.int (nI 0)), some (.int (h23 39 1)), none]) hM rfl rfl rfl rfl ?_
                            refine e_aload_n (pc2 := 159) hM rfl rfl rfl ?_
                            refine e_getfr (pc2 := 162) (k := 39) (b := 44) hM rfl rfl rfl rfl rfl ?_
                            refine e_iload (pc2 := 164) hM rfl rfl rfl ?_
                            refine e_iload_n (pc2 := 165) hM rfl rfl rfl ?_
                            refine e_bipush (pc2 := 167) (v := nI 10) hM rfl rfl rfl rfl ?_
                            refine e_idiv (pc2 := 168) hM rfl rfl ?_
                            refine e_bipush (pc2 := 170) (v := nI 10) hM rfl rfl rfl rfl ?_
                            refine e_irem (pc2 := 171) hM rfl rfl ?_
                            refine e_iast (pc2 := 172) (k := 43) hM rfl rfl rfl (fun j25 => ?_)
                            refine e_aload_n (pc2 := 173) hM rfl rfl rfl ?_
                            refine e_getfr (pc2 := 176) (k := 39) (b := 45) hM rfl rfl rfl rfl rfl ?_
                            refine e_iload (pc2 := 178) hM rfl rfl rfl ?_
                            refine e_iload (pc2 := 180) hM rfl rfl rfl ?_
                            refine e_if_eq (pc2 := 183) (tgt := 187) hM rfl rfl rfl ?_ ?_
                            · refine e_iconst (pc2 := 188) (v := -nI 1) hM rfl rfl rfl ?_
                              refine e_iast (pc2 := 189) (k := 44) hM rfl rfl rfl (fun j26 => ?_)
                              refine e_aload_n (pc2 := 190) hM rfl rfl rfl ?_
                              refine e_getfr (pc2 := 193) (k := 39) (b := 46) hM rfl rfl rfl rfl rfl ?_
                              refine e_iload (pc2 := 195) hM rfl rfl rfl ?_
                              refine e_iload_n (pc2 := 196) hM rfl rfl rfl ?_
                              refine e_bipush (pc2 := 198) (v := nI 100) hM rfl rfl rfl rfl ?_
                              refine e_idiv (pc2 := 199) hM rfl rfl ?_
                              refine e_iast (pc2 := 200) (k := 45) hM rfl rfl rfl (fun j27 => ?_)
                              refine e_aload_n (pc2 := 201) hM rfl rfl rfl ?_
                              refine e_getfr (pc2 := 204) (k := 39) (b := 47) hM rfl rfl rfl rfl rfl ?_
                              refine e_iload (pc2 := 206) hM rfl rfl rfl ?_
                              refine e_iload_n (pc2 := 207) hM rfl rfl rfl ?_
                              refine e_iast (pc2 := 208) (k := 46) hM rfl rfl rfl (fun j28 => ?_)
                              refine e_aload_n (pc2 := 209) hM rfl rfl rfl ?_
                              refine e_getfr (pc2 := 212) (k := 39) (b := 48) hM rfl rfl rfl rfl rfl ?_
                              refine e_iload (pc2 := 214) hM rfl rfl rfl ?_
                              refine e_iload (pc2 := 216) hM rfl rfl rfl ?_
                              refine e_iast (pc2 := 217) (k := 47) hM rfl rfl rfl (fun j29 => ?_)
                              refine e_aload_n (pc2 := 218) hM rfl rfl rfl ?_
                              refine e_getfr (pc2 := 221) (k := 39) (b := 49) hM rfl rfl rfl rfl rfl ?_
                              refine e_iload (pc2 := 223) hM rfl rfl rfl ?_
                              refine e_iload (pc2 := 225) hM rfl rfl rfl ?_
                              refine e_iast (pc2 := 226) (k := 48) hM rfl rfl rfl (fun j30 => ?_)
                              refine e_aload_n (pc2 := 227) hM rfl rfl rfl ?_
                              refine e_getfr (pc2 := 230) (k := 39) (b := 50) hM rfl rfl rfl rfl rfl ?_
                              refine e_iload (pc2 := 232) hM rfl rfl rfl ?_
                              refine e_iload (pc2 := 234) hM rfl rfl rfl ?_
                              refine e_iast (pc2 := 235) (k := 49) hM rfl rfl rfl (fun j31 => ?_)
                              refine e_aload_n (pc2 := 236) hM rfl rfl rfl ?_
                              refine e_getfr (pc2 := 239) (k := 39) (b := 51) hM rfl rfl rfl rfl rfl ?_
                              refine e_iload (pc2 := 241) hM rfl rfl rfl ?_
                              refine e_iconst (pc2 := 242) (v := nI 0) hM rfl rfl rfl ?_
                              refine e_iast (pc2 := 243) (k := 50) hM rfl rfl rfl (fun j32 => ?_)
                              refine e_aload_n (pc2 := 244) hM rfl rfl rfl ?_
                              refine e_getfr (pc2 := 247) (k := 39) (b := 54) hM rfl rfl rfl rfl rfl ?_
                              refine e_iload (pc2 := 249) hM rfl rfl rfl ?_
                              refine e_iconst (pc2 := 250) (v := nI 0) hM rfl rfl rfl ?_
                              refine e_bast (pc2 := 251) (k := 53) hM rfl rfl rfl pm_01a (fun j33 => ?_)
                              refine e_iconst (pc2 := 252) (v := nI 0) hM rfl rfl rfl ?_
                              refine e_istore (pc2 := 254) (L2 := [some (.ref 40), some (.int a0), some (.int a1), some (.int a2), some (.int a3), some (.int a4), some (.int a5), some (.int (nI 0)), some (.int (h23 39 1)), some (.int (nI 0))]) hM rfl rfl rfl rfl ?_
                              exact rfl
                            · refine e_iload_n (pc2 := 184) hM rfl rfl rfl ?_
                              refine e_goto (tgt := 188) hM rfl rfl ?_
                              refine e_iast (pc2 := 189) (k := 44) hM rfl rfl rfl (fun j34 => ?_)
                              refine e_aload_n (pc2 := 190) hM rfl rfl rfl ?_
                              refine e_getfr (pc2 := 193) (k := 39) (b := 46) hM rfl rfl rfl rfl rfl ?_
                              refine e_iload (pc2 := 195) hM rfl rfl rfl ?_
                              refine e_iload_n (pc2 := 196) hM rfl rfl rfl ?_
                              refine e_bipush (pc2 := 198) (v := nI 100) hM rfl rfl rfl rfl ?_
                              refine e_idiv (pc2 := 199) hM rfl rfl ?_
                              refine e_iast (pc2 := 200) (k := 45) hM rfl rfl rfl (fun j35 => ?_)
                              refine e_aload_n (pc2 := 201) hM rfl rfl rfl ?_
                              refine e_getfr (pc2 := 204) (k := 39) (b := 47) hM rfl rfl rfl rfl rfl ?_
                              refine e_iload (pc2 := 206) hM rfl rfl rfl ?_
                              refine e_iload_n (pc2 := 207) hM rfl rfl rfl ?_
                              refine e_iast (pc2 := 208) (k := 46) hM rfl rfl rfl (fun j36 => ?_)
                              refine e_aload_n (pc2 := 209) hM rfl rfl rfl ?_
                              refine e_getfr (pc2 := 212) (k := 39) (b := 48) hM rfl rfl rfl rfl rfl ?_
                              refine e_iload (pc2 := 214) hM rfl rfl rfl ?_
                              refine e_iload (pc2 := 216) hM rfl rfl rfl ?_
                              refine e_iast (pc2 := 217) (k := 47) hM rfl rfl rfl (fun j37 => ?_)
                              refine e_aload_n (pc2 := 218) hM rfl rfl rfl ?_
                              refine e_getfr (pc2 := 221) (k := 39) (b := 49) hM rfl rfl rfl rfl rfl ?_
                              refine e_iload (pc2 := 223) hM rfl rfl rfl ?_
                              refine e_iload (pc2 := 225) hM rfl rfl rfl ?_
                              refine e_iast (pc2 := 226) (k := 48) hM rfl rfl rfl (fun j38 => ?_)
                              refine e_aload_n (pc2 := 227) hM rfl rfl rfl ?_
                              refine e_getfr (pc2 := 230) (k := 39) (b := 50) hM rfl rfl rfl rfl rfl ?_
                              refine e_iload (pc2 := 232) hM rfl rfl rfl ?_
                              refine e_iload (pc2 := 234) hM rfl rfl rfl ?_
                              refine e_iast (pc2 := 235) (k := 49) hM rfl rfl rfl (fun j39 => ?_)
                              refine e_aload_n (pc2 := 236) hM rfl rfl rfl ?_
                              refine e_getfr (pc2 := 239) (k := 39) (b := 51) hM rfl rfl rfl rfl rfl ?_
                              refine e_iload (pc2 := 241) hM rfl rfl rfl ?_
                              refine e_iconst (pc2 := 242) (v := nI 0) hM rfl rfl rfl ?_
                              refine e_iast (pc2 := 243) (k := 50) hM rfl rfl rfl (fun j40 => ?_)
                              refine e_aload_n (pc2 := 244) hM rfl rfl rfl ?_
                              refine e_getfr (pc2 := 247) (k := 39) (b := 54) hM rfl rfl rfl rfl rfl ?_
                              refine e_iload (pc2 := 249) hM rfl rfl rfl ?_
                              refine e_iconst (pc2 := 250) (v := nI 0) hM rfl rfl rfl ?_
                              refine e_bast (pc2 := 251) (k := 53) hM rfl rfl rfl pm_01a (fun j41 => ?_)
                              refine e_iconst (pc2 := 252) (v := nI 0) hM rfl rfl rfl ?_
                              refine e_istore (pc2 := 254) (L2 := [some (.ref 40), some (.int a0), some (.int a1), some (.int a2), some (.int a3), some (.int a4), some (.int a5), some (.int (nI 0)), some (.int (h23 39 1)), some (.int (nI 0))]) hM rfl rfl rfl rfl ?_
                              exact rfl
                          · refine e_aload_n (pc2 := 147) hM rfl rfl rfl ?_
                            refine e_iconst (pc2 := 148) (v := nI 4) hM rfl rfl rfl ?_
                            refine e_cvi (pc2 := 151) (k := 39) (As := [.ref 40, .int (nI 4)]) (rest := []) hM rfl rfl rfl rfl rfl rfl rfl (fun x43 h42 => ?_)
                            exact e_iret hM rfl rfl
                        · refine e_aload_n (pc2 := 132) hM rfl rfl rfl ?_
                          refine e_iconst (pc2 := 133) (v := nI 3) hM rfl rfl rfl ?_
                          refine e_cvi (pc2 := 136) (k := 39) (As := [.ref 40, .int (nI 3)]) (rest := []) hM rfl rfl rfl rfl rfl rfl rfl (fun x45 h44 => ?_)
                          exact e_iret hM rfl rfl
                      · refine e_aload_n (pc2 := 117) hM rfl rfl rfl ?_
                        refine e_iconst (pc2 := 118) (v := nI 1) hM rfl rfl rfl ?_
                        refine e_cvi (pc2 := 121) (k := 39) (As := [.ref 40, .int (nI 1)]) (rest := []) hM rfl rfl rfl rfl rfl rfl rfl (fun x47 h46 => ?_)
                        exact e_iret hM rfl rfl
              · refine e_aload_n (pc2 := 68) hM rfl rfl rfl ?_
                refine e_iconst (pc2 := 69) (v := nI 1) hM rfl rfl rfl ?_
                refine e_cvi (pc2 := 72) (k := 39) (As := [.ref 40, .int (nI 1)]) (rest := []) hM rfl rfl rfl rfl rfl rfl rfl (fun x49 h48 => ?_)
                exact e_iret hM rfl rfl
            · refine e_aload_n (pc2 := 53) hM rfl rfl rfl ?_
              refine e_iload_n (pc2 := 54) hM rfl rfl rfl ?_
              refine e_cvi (pc2 := 57) (k := 39) (As := [.ref 40, .int a1]) (rest := []) hM rfl rfl rfl rfl rfl rfl rfl (fun x51 h50 => ?_)
              refine e_if_ne (pc2 := 60) (tgt := 73) hM rfl rfl rfl ?_ ?_
              · refine e_iload_n (pc2 := 74) hM rfl rfl rfl ?_
                refine e_iconst (pc2 := 75) (v := nI 1) hM rfl rfl rfl ?_
                refine e_bipush (pc2 := 77) (v := nI 100) hM rfl rfl rfl rfl ?_
                refine e_csi (pc2 := 80) (As := [.int a2, .int (nI 1), .int (nI 100)]) (rest := []) hM rfl rfl rfl rfl rfl rfl rfl (fun x53 h52 => ?_)
                refine e_if_eq (pc2 := 83) (tgt := 116) hM rfl rfl rfl ?_ ?_
                · refine e_aload_n (pc2 := 117) hM rfl rfl rfl ?_
                  refine e_iconst (pc2 := 118) (v := nI 1) hM rfl rfl rfl ?_
                  refine e_cvi (pc2 := 121) (k := 39) (As := [.ref 40, .int (nI 1)]) (rest := []) hM rfl rfl rfl rfl rfl rfl rfl (fun x55 h54 => ?_)
                  exact e_iret hM rfl rfl
                · refine e_iload (pc2 := 85) hM rfl rfl rfl ?_
                  refine e_iconst (pc2 := 86) (v := nI 1) hM rfl rfl rfl ?_
                  refine e_bipush (pc2 := 88) (v := nI 10) hM rfl rfl rfl rfl ?_
                  refine e_csi (pc2 := 91) (As := [.int a3, .int (nI 1), .int (nI 10)]) (rest := []) hM rfl rfl rfl rfl rfl rfl rfl (fun x57 h56 => ?_)
                  refine e_if_eq (pc2 := 94) (tgt := 116) hM rfl rfl rfl ?_ ?_
                  · refine e_aload_n (pc2 := 117) hM rfl rfl rfl ?_
                    refine e_iconst (pc2 := 118) (v := nI 1) hM rfl rfl rfl ?_
                    refine e_cvi (pc2 := 121) (k := 39) (As := [.ref 40, .int (nI 1)]) (rest := []) hM rfl rfl rfl rfl rfl rfl rfl (fun x59 h58 => ?_)
                    exact e_iret hM rfl rfl
                  · refine e_iload (pc2 := 96) hM rfl rfl rfl ?_
                    refine e_iconst (pc2 := 97) (v := nI 1) hM rfl rfl rfl ?_
                    refine e_bipush (pc2 := 99) (v := nI 60) hM rfl rfl rfl rfl ?_
                    refine e_csi (pc2 := 102) (As := [.int a4, .int (nI 1), .int (nI 60)]) (rest := []) hM rfl rfl rfl rfl rfl rfl rfl (fun x61 h60 => ?_)
                    refine e_if_eq (pc2 := 105) (tgt := 116) hM rfl rfl rfl ?_ ?_
                    · refine e_aload_n (pc2 := 117) hM rfl rfl rfl ?_
                      refine e_iconst (pc2 := 118) (v := nI 1) hM rfl rfl rfl ?_
                      refine e_cvi (pc2 := 121) (k := 39) (As := [.ref 40, .int (nI 1)]) (rest := []) hM rfl rfl rfl rfl rfl rfl rfl (fun x63 h62 => ?_)
                      exact e_iret hM rfl rfl
                    · refine e_iload (pc2 := 107) hM rfl rfl rfl ?_
                      refine e_iconst (pc2 := 108) (v := nI 1) hM rfl rfl rfl ?_
                      refine e_bipush (pc2 := 110) (v := nI 20) hM rfl rfl rfl rfl ?_
                      refine e_csi (pc2 := 113) (As := [.int a5, .int (nI 1), .int (nI 20)]) (rest := []) hM rfl rfl rfl rfl rfl rfl rfl (fun x65 h64 => ?_)
                      refine e_if_ne (pc2 := 116) (tgt := 122) hM rfl rfl rfl ?_ ?_
                      · refine e_aload_n (pc2 := 123) hM rfl rfl rfl ?_
                        refine e_cvi (pc2 := 126) (k := 39) (As := [.ref 40]) (rest := []) hM rfl rfl rfl rfl rfl rfl rfl (fun x67 h66 => ?_)
                        refine e_iload (pc2 := 128) hM rfl rfl rfl ?_
                        refine e_icmp_ge (pc2 := 131) (tgt := 137) hM rfl rfl rfl ?_ ?_
                        · refine e_aload_n (pc2 := 138) hM rfl rfl rfl ?_
                          refine e_getfi (pc2 := 141) (k := 39) (v := (h66 39 1)) hM rfl rfl rfl rfl rfl rfl ?_
                          refine e_bipush (pc2 := 143) (v := nI 24) hM rfl rfl rfl rfl ?_
                          refine e_icmp_ne (pc2 := 146) (tgt := 152) hM rfl rfl rfl ?_ ?_
                          · refine e_aload_n (pc2 := 153) hM rfl rfl rfl ?_
                            refine e_getfi (pc2 := 156) (k := 39) (v := (h66 39 1)) hM rfl rfl rfl rfl rfl rfl ?_
                            refine e_istore (pc2 := 158) (L2 := [some (.ref 40), some (.int a0), some (.int a1), some (.int a2), some (.int a3), some (.int a4), some (.int a5), some (.int (nI 0)), some (.int (h66 39 1)), none]) hM rfl rfl rfl rfl ?_
                            refine e_aload_n (pc2 := 159) hM rfl rfl rfl ?_
                            refine e_getfr (pc2 := 162) (k := 39) (b := 44) hM rfl rfl rfl rfl rfl ?_
                            refine e_iload (pc2 := 164) hM rfl rfl rfl ?_
                            refine e_iload_n (pc2 := 165) hM rfl rfl rfl ?_
                            refine e_bipush (pc2 := 167) (v := nI 10) hM rfl rfl rfl rfl ?_
                            refine e_idiv (pc2 := 168) hM rfl rfl ?_
                            refine e_bipush (pc2 := 170) (v := nI 10) hM rfl rfl rfl rfl ?_
                            refine e_irem (pc2 := 171) hM rfl rfl ?_
                            refine e_iast (pc2 := 172) (k := 43) hM rfl rfl rfl (fun j68 => ?_)
                            refine e_aload_n (pc2 := 173) hM rfl rfl rfl ?_
                            refine e_getfr (pc2 := 176) (k := 39) (b := 45) hM rfl rfl rfl rfl rfl ?_
                            refine e_iload (pc2 := 178) hM rfl rfl rfl ?_
                            refine e_iload (pc2 := 180) hM rfl rfl rfl ?_
                            refine e_if_eq (pc2 := 183) (tgt := 187) hM rfl rfl rfl ?_ ?_
                            · refine e_iconst (pc2 := 188) (v := -nI 1) hM rfl rfl rfl ?_
                              refine e_iast (pc2 := 189) (k := 44) hM rfl rfl rfl (fun j69 => ?_)
                              refine e_aload_n (pc2 := 190) hM rfl rfl rfl ?_
                              refine e_getfr (pc2 := 193) (k := 39) (b := 46) hM rfl rfl rfl rfl rfl ?_
                              refine e_iload (pc2 := 195) hM rfl rfl rfl ?_
                              refine e_iload_n (pc2 := 196) hM rfl rfl rfl ?_
                              refine e_bipush (pc2 := 198) (v := nI 100) hM rfl rfl rfl rfl ?_
                              refine e_idiv (pc2 := 199) hM rfl rfl ?_
                              refine e_iast (pc2 := 200) (k := 45) hM rfl rfl rfl (fun j70 => ?_)
                              refine e_aload_n (pc2 := 201) hM rfl rfl rfl ?_
                              refine e_getfr (pc2 := 204) (k := 39) (b := 47) hM rfl rfl rfl rfl rfl ?_
                              refine e_iload (pc2 := 206) hM rfl rfl rfl ?_
                              refine e_iload_n (pc2 := 207) hM rfl rfl rfl ?_
                              refine e_iast (pc2 := 208) (k := 46) hM rfl rfl rfl (fun j71 => ?_)
                              refine e_aload_n (pc2 := 209) hM rfl rfl rfl ?_
                              refine e_getfr (pc2 := 212) (k := 39) (b := 48) hM rfl rfl rfl rfl rfl ?_
                              refine e_iload (pc2 := 214) hM rfl rfl rfl ?_
                              refine e_iload (pc2 := 216) hM rfl rfl rfl ?_
                              refine e_iast (pc2 := 217) (k := 47) hM rfl rfl rfl (fun j72 => ?_)
                              refine e_aload_n (pc2 := 218) hM rfl rfl rfl ?_
                              refine e_getfr (pc2 := 221) (k := 39) (b := 49) hM rfl rfl rfl rfl rfl ?_
                              refine e_iload (pc2 := 223) hM rfl rfl rfl ?_
                              refine e_iload (pc2 := 225) hM rfl rfl rfl ?_
                              refine e_iast (pc2 := 226) (k := 48) hM rfl rfl rfl (fun j73 => ?_)
                              refine e_aload_n (pc2 := 227) hM rfl rfl rfl ?_
                              refine e_getfr (pc2 := 230) (k := 39) (b := 50) hM rfl rfl rfl rfl rfl ?_
                              refine e_iload (pc2 := 232) hM rfl rfl rfl ?_
                              refine e_iload (pc2 := 234) hM rfl rfl rfl ?_
                              refine e_iast (pc2 := 235) (k := 49) hM rfl rfl rfl (fun j74 => ?_)
                              refine e_aload_n (pc2 := 236) hM rfl rfl rfl ?_
                              refine e_getfr (pc2 := 239) (k := 39) (b := 51) hM rfl rfl rfl rfl rfl ?_
                              refine e_iload (pc2 := 241) hM rfl rfl rfl ?_
                              refine e_iconst (pc2 := 242) (v := nI 0) hM rfl rfl rfl ?_
                              refine e_iast (pc2 := 243) (k := 50) hM rfl rfl rfl (fun j75 => ?_)
                              refine e_aload_n (pc2 := 244) hM rfl rfl rfl ?_
                              refine e_getfr (pc2 := 247) (k := 39) (b := 54) hM rfl rfl rfl rfl rfl ?_
                              refine e_iload (pc2 := 249) hM rfl rfl rfl ?_
                              refine e_iconst (pc2 := 250) (v := nI 0) hM rfl rfl rfl ?_
                              refine e_bast (pc2 := 251) (k := 53) hM rfl rfl rfl pm_01a (fun j76 => ?_)
                              refine e_iconst (pc2 := 252) (v := nI 0) hM rfl rfl rfl ?_
                              refine e_istore (pc2 := 254) (L2 := [some (.ref 40), some (.int a0), some (.int a1), some (.int a2), some (.int a3), some (.int a4), some (.int a5), some (.int (nI 0)), some (.int (h66 39 1)), some (.int (nI 0))]) hM rfl rfl rfl rfl ?_
                              exact rfl
                            · refine e_iload_n (pc2 := 184) hM rfl rfl rfl ?_
                              refine e_goto (tgt := 188) hM rfl rfl ?_
                              refine e_iast (pc2 := 189) (k := 44) hM rfl rfl rfl (fun j77 => ?_)
                              refine e_aload_n (pc2 := 190) hM rfl rfl rfl ?_
                              refine e_getfr (pc2 := 193) (k := 39) (b := 46) hM rfl rfl rfl rfl rfl ?_
                              refine e_iload (pc2 := 195) hM rfl rfl rfl ?_
                              refine e_iload_n (pc2 := 196) hM rfl rfl rfl ?_
                              refine e_bipush (pc2 := 198) (v := nI 100) hM rfl rfl rfl rfl ?_
                              refine e_idiv (pc2 := 199) hM rfl rfl ?_
                              refine e_iast (pc2 := 200) (k := 45) hM rfl rfl rfl (fun j78 => ?_)
                              refine e_aload_n (pc2 := 201) hM rfl rfl rfl ?_
                              refine e_getfr (pc2 := 204) (k := 39) (b := 47) hM rfl rfl rfl rfl rfl ?_
                              refine e_iload (pc2 := 206) hM rfl rfl rfl ?_
                              refine e_iload_n (pc2 := 207) hM rfl rfl rfl ?_
                              refine e_iast (pc2 := 208) (k := 46) hM rfl rfl rfl (fun j79 => ?_)
                              refine e_aload_n (pc2 := 209) hM rfl rfl rfl ?_
                              refine e_getfr (pc2 := 212) (k := 39) (b := 48) hM rfl rfl rfl rfl rfl ?_
                              refine e_iload (pc2 := 214) hM rfl rfl rfl ?_
                              refine e_iload (pc2 := 216) hM rfl rfl rfl ?_
                              refine e_iast (pc2 := 217) (k := 47) hM rfl rfl rfl (fun j80 => ?_)
                              refine e_aload_n (pc2 := 218) hM rfl rfl rfl ?_
                              refine e_getfr (pc2 := 221) (k := 39) (b := 49) hM rfl rfl rfl rfl rfl ?_
                              refine e_iload (pc2 := 223) hM rfl rfl rfl ?_
                              refine e_iload (pc2 := 225) hM rfl rfl rfl ?_
                              refine e_iast (pc2 := 226) (k := 48) hM rfl rfl rfl (fun j81 => ?_)
                              refine e_aload_n (pc2 := 227) hM rfl rfl rfl ?_
                              refine e_getfr (pc2 := 230) (k := 39) (b := 50) hM rfl rfl rfl rfl rfl ?_
                              refine e_iload (pc2 := 232) hM rfl rfl rfl ?_
                              refine e_iload (pc2 := 234) hM rfl rfl rfl ?_
                              refine e_iast (pc2 := 235) (k := 49) hM rfl rfl rfl (fun j82 => ?_)
                              refine e_aload_n (pc2 := 236) hM rfl rfl rfl ?_
                              refine e_getfr (pc2 := 239) (k := 39) (b := 51) hM rfl rfl rfl rfl rfl ?_
                              refine e_iload (pc2 := 241) hM rfl rfl rfl ?_
                              refine e_iconst (pc2 := 242) (v := nI 0) hM rfl rfl rfl ?_
                              refine e_iast (pc2 := 243) (k := 50) hM rfl rfl rfl (fun j83 => ?_)
                              refine e_aload_n (pc2 := 244) hM rfl rfl rfl ?_
                              refine e_getfr (pc2 := 247) (k := 39) (b := 54) hM rfl rfl rfl rfl rfl ?_
                              refine e_iload (pc2 := 249) hM rfl rfl rfl ?_
                              refine e_iconst (pc2 := 250) (v := nI 0) hM rfl rfl rfl ?_
                              refine e_bast (pc2 := 251) (k := 53) hM rfl rfl rfl pm_01a (fun j84 => ?_)
                              refine e_iconst (pc2 := 252) (v := nI 0) hM rfl rfl rfl ?_
                              refine e_istore (pc2 := 254) (L2 := [some (.ref 40), some (.int a0), some (.int a1), some (.int a2), some (.int a3), some (.int a4), some (.int a5), some (.int (nI 0)), some (.int (h66 39 1)), some (.int (nI 0))]) hM rfl rfl rfl rfl ?_
                              exact rfl
                          · refine e_aload_n (pc2 := 147) hM rfl rfl rfl ?_
                            refine e_iconst (pc2 := 148) (v := nI 4) hM rfl rfl rfl ?_
                            refine e_cvi (pc2 := 151) (k := 39) (As := [.ref 40, .int (nI 4)]) (rest := []) hM rfl rfl rfl rfl rfl rfl rfl (fun x86 h85 => ?_)
                            exact e_iret hM rfl rfl
                        · refine e_aload_n (pc2 := 132) hM rfl rfl rfl ?_
                          refine e_iconst (pc2 := 133) (v := nI 3) hM rfl rfl rfl ?_
                          refine e_cvi (pc2 := 136) (k := 39) (As := [.ref 40, .int (nI 3)]) (rest := []) hM rfl rfl rfl rfl rfl rfl rfl (fun x88 h87 => ?_)
                          exact e_iret hM rfl rfl
                      · refine e_aload_n (pc2 := 117) hM rfl rfl rfl ?_
                        refine e_iconst (pc2 := 118) (v := nI 1) hM rfl rfl rfl ?_
                        refine e_cvi (pc2 := 121) (k := 39) (As := [.ref 40, .int (nI 1)]) (rest := []) hM rfl rfl rfl rfl rfl rfl rfl (fun x90 h89 => ?_)
                        exact e_iret hM rfl rfl
              · refine e_goto (tgt := 67) hM rfl rfl ?_
                refine e_aload_n (pc2 := 68) hM rfl rfl rfl ?_
                refine e_iconst (pc2 := 69) (v := nI 1) hM rfl rfl rfl ?_
                refine e_cvi (pc2 := 72) (k := 39) (As := [.ref 40, .int (nI 1)]) (rest := []) hM rfl rfl rfl rfl rfl rfl rfl (fun x92 h91 => ?_)
                exact e_iret hM rfl rfl
  · refine e_iconst (pc2 := 9) (v := nI 1) hM rfl rfl rfl ?_
    refine e_goto (tgt := 13) hM rfl rfl ?_
    refine e_istore (pc2 := 15) (L2 := [some (.ref 40), some (.int a0), some (.int a1), some (.int a2), some (.int a3), some (.int a4), some (.int a5), some (.int (nI 1)), none, none]) hM rfl rfl rfl rfl ?_
    refine e_iload_n (pc2 := 16) hM rfl rfl rfl ?_
    refine e_if_lt (pc2 := 19) (tgt := 67) hM rfl rfl rfl ?_ ?_
    · refine e_aload_n (pc2 := 68) hM rfl rfl rfl ?_
      refine e_iconst (pc2 := 69) (v := nI 1) hM rfl rfl rfl ?_
      refine e_cvi (pc2 := 72) (k := 39) (As := [.ref 40, .int (nI 1)]) (rest := []) hM rfl rfl rfl rfl rfl rfl rfl (fun x94 h93 => ?_)
      exact e_iret hM rfl rfl
    · refine e_iload_n (pc2 := 20) hM rfl rfl rfl ?_
      refine e_bipush (pc2 := 22) (v := nI 100) hM rfl rfl rfl rfl ?_
      refine e_idiv (pc2 := 23) hM rfl rfl ?_
      refine e_bipush (pc2 := 25) (v := nI 7) hM rfl rfl rfl rfl ?_
      refine e_icmp_gt (pc2 := 28) (tgt := 67) hM rfl rfl rfl ?_ ?_
      · refine e_aload_n (pc2 := 68) hM rfl rfl rfl ?_
        refine e_iconst (pc2 := 69) (v := nI 1) hM rfl rfl rfl ?_
        refine e_cvi (pc2 := 72) (k := 39) (As := [.ref 40, .int (nI 1)]) (rest := []) hM rfl rfl rfl rfl rfl rfl rfl (fun x96 h95 => ?_)
        exact e_iret hM rfl rfl
      · refine e_iload_n (pc2 := 29) hM rfl rfl rfl ?_
        refine e_bipush (pc2 := 31) (v := nI 10) hM rfl rfl rfl rfl ?_
        refine e_idiv (pc2 := 32) hM rfl rfl ?_
        refine e_bipush (pc2 := 34) (v := nI 10) hM rfl rfl rfl rfl ?_
        refine e_irem (pc2 := 35) hM rfl rfl ?_
        refine e_iconst (pc2 := 36) (v := nI 2) hM rfl rfl rfl ?_
        refine e_icmp_gt (pc2 := 39) (tgt := 67) hM rfl rfl rfl ?_ ?_
        · refine e_aload_n (pc2 := 68) hM rfl rfl rfl ?_
          refine e_iconst (pc2 := 69) (v := nI 1) hM rfl rfl rfl ?_
          refine e_cvi (pc2 := 72) (k := 39) (As := [.ref 40, .int (nI 1)]) (rest := []) hM rfl rfl rfl rfl rfl rfl rfl (fun x98 h97 => ?_)
          exact e_iret hM rfl rfl
        · refine e_iload_n (pc2 := 40) hM rfl rfl rfl ?_
          refine e_bipush (pc2 := 42) (v := nI 10) hM rfl rfl rfl rfl ?_
          refine e_irem (pc2 := 43) hM rfl rfl ?_
          refine e_iconst (pc2 := 44) (v := nI 1) hM rfl rfl rfl ?_
          refine e_icmp_gt (pc2 := 47) (tgt := 67) hM rfl rfl rfl ?_ ?_
          · refine e_aload_n (pc2 := 68) hM rfl rfl rfl ?_
            refine e_iconst (pc2 := 69) (v := nI 1) hM rfl rfl rfl ?_
            refine e_cvi (pc2 := 72) (k := 39) (As := [.ref 40, .int (nI 1)]) (rest := []) hM rfl rfl rfl rfl rfl rfl rfl (fun x100 h99 => ?_)
            exact e_iret hM rfl rfl
          · refine e_iload (pc2 := 49) hM rfl rfl rfl ?_
            refine e_if_eq (pc2 := 52) (tgt := 63) hM rfl rfl rfl ?_ ?_
            · refine e_iload_n (pc2 := 64) hM rfl rfl rfl ?_
              refine e_if_eq (pc2 := 67) (tgt := 73) hM rfl rfl rfl ?_ ?_
              · refine e_iload_n (pc2 := 74) hM rfl rfl rfl ?_
                refine e_iconst (pc2 := 75) (v := nI 1) hM rfl rfl rfl ?_
                refine e_bipush (pc2 := 77) (v := nI 100) hM rfl rfl rfl rfl ?_
                refine e_csi (pc2 := 80) (As := [.int a2, .int (nI 1), .int (nI 100)]) (rest := []) hM rfl rfl rfl rfl rfl rfl rfl (fun x102 h101 => ?_)
                refine e_if_eq (pc2 := 83) (tgt := 116) hM rfl rfl rfl ?_ ?_
                · refine e_aload_n (pc2 := 117) hM rfl rfl rfl ?_
                  refine e_iconst (pc2 := 118) (v := nI 1) hM rfl rfl rfl ?_
                  refine e_cvi (pc2 := 121) (k := 39) (As := [.ref 40, .int (nI 1)]) (rest := []) hM rfl rfl rfl rfl rfl rfl rfl (fun x104 h103 => ?_)
                  exact e_iret hM rfl rfl
                · refine e_iload (pc2 := 85) hM rfl rfl rfl ?_
                  refine e_iconst (pc2 := 86) (v := nI 1) hM rfl rfl rfl ?_
                  refine e_bipush (pc2 := 88) (v := nI 10) hM rfl rfl rfl rfl ?_
                  refine e_csi (pc2 := 91) (As := [.int a3, .int (nI 1), .int (nI 10)]) (rest := []) hM rfl rfl rfl rfl rfl rfl rfl (fun x106 h105 => ?_)
                  refine e_if_eq (pc2 := 94) (tgt := 116) hM rfl rfl rfl ?_ ?_
                  · refine e_aload_n (pc2 := 117) hM rfl rfl rfl ?_
                    refine e_iconst (pc2 := 118) (v := nI 1) hM rfl rfl rfl ?_
                    refine e_cvi (pc2 := 121) (k := 39) (As := [.ref 40, .int (nI 1)]) (rest := []) hM rfl rfl rfl rfl rfl rfl rfl (fun x108 h107 => ?_)
                    exact e_iret hM rfl rfl
                  · refine e_iload (pc2 := 96) hM rfl rfl rfl ?_
                    refine e_iconst (pc2 := 97) (v := nI 1) hM rfl rfl rfl ?_
                    refine e_bipush (pc2 := 99) (v := nI 60) hM rfl rfl rfl rfl ?_
                    refine e_csi (pc2 := 102) (As := [.int a4, .int (nI 1), .int (nI 60)]) (rest := []) hM rfl rfl rfl rfl rfl rfl rfl (fun x110 h109 => ?_)
                    refine e_if_eq (pc2 := 105) (tgt := 116) hM rfl rfl rfl ?_ ?_
                    · refine e_aload_n (pc2 := 117) hM rfl rfl rfl ?_
                      refine e_iconst (pc2 := 118) (v := nI 1) hM rfl rfl rfl ?_
                      refine e_cvi (pc2 := 121) (k := 39) (As := [.ref 40, .int (nI 1)]) (rest := []) hM rfl rfl rfl rfl rfl rfl rfl (fun x112 h111 => ?_)
                      exact e_iret hM rfl rfl
                    · refine e_iload (pc2 := 107) hM rfl rfl rfl ?_
                      refine e_iconst (pc2 := 108) (v := nI 1) hM rfl rfl rfl ?_
                      refine e_bipush (pc2 := 110) (v := nI 20) hM rfl rfl rfl rfl ?_
                      refine e_csi (pc2 := 113) (As := [.int a5, .int (nI 1), .int (nI 20)]) (rest := []) hM rfl rfl rfl rfl rfl rfl rfl (fun x114 h113 => ?_)
                      refine e_if_ne (pc2 := 116) (tgt := 122) hM rfl rfl rfl ?_ ?_
                      · refine e_aload_n (pc2 := 123) hM rfl rfl rfl ?_
                        refine e_cvi (pc2 := 126) (k := 39) (As := [.ref 40]) (rest := []) hM rfl rfl rfl rfl rfl rfl rfl (fun x116 h115 => ?_)
                        refine e_iload (pc2 := 128) hM rfl rfl rfl ?_
                        refine e_icmp_ge (pc2 := 131) (tgt := 137) hM rfl rfl rfl ?_ ?_
                        · refine e_aload_n (pc2 := 138) hM rfl rfl rfl ?_
                          refine e_getfi (pc2 := 141) (k := 39) (v := (h115 39 1)) hM rfl rfl rfl rfl rfl rfl ?_
                          refine e_bipush (pc2 := 143) (v := nI 24) hM rfl rfl rfl rfl ?_
                          refine e_icmp_ne (pc2 := 146) (tgt := 152) hM rfl rfl rfl ?_ ?_
                          · refine e_aload_n (pc2 := 153) hM rfl rfl rfl ?_
                            refine e_getfi (pc2 := 156) (k := 39) (v := (h115 39 1)) hM rfl rfl rfl rfl rfl rfl ?_
                            refine e_istore (pc2 := 158) (L2 := [some (.ref 40), some (.int a0), some (.int a1), some (.int a2), some (.int a3), some (.int a4), some (.int a5), some (.int (nI 1)), some (.int (h115 39 1)), none]) hM rfl rfl rfl rfl ?_
                            refine e_aload_n (pc2 := 159) hM rfl rfl rfl ?_
                            refine e_getfr (pc2 := 162) (k := 39) (b := 44) hM rfl rfl rfl rfl rfl ?_
                            refine e_iload (pc2 := 164) hM rfl rfl rfl ?_
                            refine e_iload_n (pc2 := 165) hM rfl rfl rfl ?_
                            refine e_bipush (pc2 := 167) (v := nI 10) hM rfl rfl rfl rfl ?_
                            refine e_idiv (pc2 := 168) hM rfl rfl ?_
                            refine e_bipush (pc2 := 170) (v := nI 10) hM rfl rfl rfl rfl ?_
                            refine e_irem (pc2 := 171) hM rfl rfl ?_
                            refine e_iast (pc2 := 172) (k := 43) hM rfl rfl rfl (fun j117 => ?_)
                            refine e_aload_n (pc2 := 173) hM rfl rfl rfl ?_
                            refine e_getfr (pc2 := 176) (k := 39) (b := 45) hM rfl rfl rfl rfl rfl ?_
                            refine e_iload (pc2 := 178) hM rfl rfl rfl ?_
                            refine e_iload (pc2 := 180) hM rfl rfl rfl ?_
                            refine e_if_eq (pc2 := 183) (tgt := 187) hM rfl rfl rfl ?_ ?_
                            · refine e_iconst (pc2 := 188) (v := -nI 1) hM rfl rfl rfl ?_
                              refine e_iast (pc2 := 189) (k := 44) hM rfl rfl rfl (fun j118 => ?_)
                              refine e_aload_n (pc2 := 190) hM rfl rfl rfl ?_
                              refine e_getfr (pc2 := 193) (k := 39) (b := 46) hM rfl rfl rfl rfl rfl ?_
                              refine e_iload (pc2 := 195) hM rfl rfl rfl ?_
                              refine e_iload_n (pc2 := 196) hM rfl rfl rfl ?_
                              refine e_bipush (pc2 := 198) (v := nI 100) hM rfl rfl rfl rfl ?_
                              refine e_idiv (pc2 := 199) hM rfl rfl ?_
                              refine e_iast (pc2 := 200) (k := 45) hM rfl rfl rfl (fun j119 => ?_)
                              refine e_aload_n (pc2 := 201) hM rfl rfl rfl ?_
                              refine e_getfr (pc2 := 204) (k := 39) (b := 47) hM rfl rfl rfl rfl rfl ?_
                              refine e_iload (pc2 := 206) hM rfl rfl rfl ?_
                              refine e_iload_n (pc2 := 207) hM rfl rfl rfl ?_
                              refine e_iast (pc2 := 208) (k := 46) hM rfl rfl rfl (fun j120 => ?_)
                              refine e_aload_n (pc2 := 209) hM rfl rfl rfl ?_
                              refine e_getfr (pc2 := 212) (k := 39) (b := 48) hM rfl rfl rfl rfl rfl ?_
                              refine e_iload (pc2 := 214) hM rfl rfl rfl ?_
                              refine e_iload (pc2 := 216) hM rfl rfl rfl ?_
                              refine e_iast (pc2 := 217) (k := 47) hM rfl rfl rfl (fun j121 => ?_)
                              refine e_aload_n (pc2 := 218) hM rfl rfl rfl ?_
                              refine e_getfr (pc2 := 221) (k := 39) (b := 49) hM rfl rfl rfl rfl rfl ?_
                              refine e_iload (pc2 := 223) hM rfl rfl rfl ?_
                              refine e_iload (pc2 := 225) hM rfl rfl rfl ?_
                              refine e_iast (pc2 := 226) (k := 48) hM rfl rfl rfl (fun j122 => ?_)
                              refine e_aload_n (pc2 := 227) hM rfl rfl rfl ?_
                              refine e_getfr (pc2 := 230) (k := 39) (b := 50) hM rfl rfl rfl rfl rfl ?_
                              refine e_iload (pc2 := 232) hM rfl rfl rfl ?_
                              refine e_iload (pc2 := 234) hM rfl rfl rfl ?_
                              refine e_iast (pc2 := 235) (k := 49) hM rfl rfl rfl (fun j123 => ?_)
                              refine e_aload_n (pc2 := 236) hM rfl rfl rfl ?_
                              refine e_getfr (pc2 := 239) (k := 39) (b := 51) hM rfl rfl rfl rfl rfl ?_
                              refine e_iload (pc2 := 241) hM rfl rfl rfl ?_
                              refine e_iconst (pc2 := 242) (v := nI 0) hM rfl rfl rfl ?_
                              refine e_iast (pc2 := 243) (k := 50) hM rfl rfl rfl (fun j124 => ?_)
                              refine e_aload_n (pc2 := 244) hM rfl rfl rfl ?_
                              refine e_getfr (pc2 := 247) (k := 39) (b := 54) hM rfl rfl rfl rfl rfl ?_
                              refine e_iload (pc2 := 249) hM rfl rfl rfl ?_
                              refine e_iconst (pc2 := 250) (v := nI 0) hM rfl rfl rfl ?_
                              refine e_bast (pc2 := 251) (k := 53) hM rfl rfl rfl pm_01a (fun j125 => ?_)
                              refine e_iconst (pc2 := 252) (v := nI 0) hM rfl rfl rfl ?_
                              refine e_istore (pc2 := 254) (L2 := [some (.ref 40), some (.int a0), some (.int a1), some (.int a2), some (.int a3), some (.int a4), some (.int a5), some (.int (nI 1)), some (.int (h115 39 1)), some (.int (nI 0))]) hM rfl rfl rfl rfl ?_
                              exact rfl
                            · refine e_iload_n (pc2 := 184) hM rfl rfl rfl ?_
                              refine e_goto (tgt := 188) hM rfl rfl ?_
                              refine e_iast (pc2 := 189) (k := 44) hM rfl rfl rfl (fun j126 => ?_)
                              refine e_aload_n (pc2 := 190) hM rfl rfl rfl ?_
                              refine e_getfr (pc2 := 193) (k := 39) (b := 46) hM rfl rfl rfl rfl rfl ?_
                              refine e_iload (pc2 := 195) hM rfl rfl rfl ?_
                              refine e_iload_n (pc2 := 196) hM rfl rfl rfl ?_
                              refine e_bipush (pc2 := 198) (v := nI 100) hM rfl rfl rfl rfl ?_
                              refine e_idiv (pc2 := 199) hM rfl rfl ?_
                              refine e_iast (pc2 := 200) (k := 45) hM rfl rfl rfl (fun j127 => ?_)
                              refine e_aload_n (pc2 := 201) hM rfl rfl rfl ?_
                              refine e_getfr (pc2 := 204) (k := 39) (b := 47) hM rfl rfl rfl rfl rfl ?_
                              refine e_iload (pc2 := 206) hM rfl rfl rfl ?_
                              refine e_iload_n (pc2 := 207) hM rfl rfl rfl ?_
                              refine e_iast (pc2 := 208) (k := 46) hM rfl rfl rfl (fun j128 => ?_)
                              refine e_aload_n (pc2 := 209) hM rfl rfl rfl ?_
                              refine e_getfr (pc2 := 212) (k := 39) (b := 48) hM rfl rfl rfl rfl rfl ?_
                              refine e_iload (pc2 := 214) hM rfl rfl rfl ?_
                              refine e_iload (pc2 := 216) hM rfl rfl rfl ?_
                              refine e_iast (pc2 := 217) (k := 47) hM rfl rfl rfl (fun j129 => ?_)
                              refine e_aload_n (pc2 := 218) hM rfl rfl rfl ?_
                              refine e_getfr (pc2 := 221) (k := 39) (b := 49) hM rfl rfl rfl rfl rfl ?_
                              refine e_iload (pc2 := 223) hM rfl rfl rfl ?_
                              refine e_iload (pc2 := 225) hM rfl rfl rfl ?_
                              refine e_iast (pc2 := 226) (k := 48) hM rfl rfl rfl (fun j130 => ?_)
                              refine e_aload_n (pc2 := 227) hM rfl rfl rfl ?_
                              refine e_getfr (pc2 := 230) (k := 39) (b := 50) hM rfl rfl rfl rfl rfl ?_
                              refine e_iload (pc2 := 232) hM rfl rfl rfl ?_
                              refine e_iload (pc2 := 234) hM rfl rfl rfl ?_
                              refine e_iast (pc2 := 235) (k := 49) hM rfl rfl rfl (fun j131 => ?_)
                              refine e_aload_n (pc2 := 236) hM rfl rfl rfl ?_
                              refine e_getfr (pc2 := 239) (k := 39) (b := 51) hM rfl rfl rfl rfl rfl ?_
                              refine e_iload (pc2 := 241) hM rfl rfl rfl ?_
                              refine e_iconst (pc2 := 242) (v := nI 0) hM rfl rfl rfl ?_
                              refine e_iast (pc2 := 243) (k := 50) hM rfl rfl rfl (fun j132 => ?_)
                              refine e_aload_n (pc2 := 244) hM rfl rfl rfl ?_
                              refine e_getfr (pc2 := 247) (k := 39) (b := 54) hM rfl rfl rfl rfl rfl ?_
                              refine e_iload (pc2 := 249) hM rfl rfl rfl ?_
                              refine e_iconst (pc2 := 250) (v := nI 0) hM rfl rfl rfl ?_
                              refine e_bast (pc2 := 251) (k := 53) hM rfl rfl rfl pm_01a (fun j133 => ?_)
                              refine e_iconst (pc2 := 252) (v := nI 0) hM rfl rfl rfl ?_
                              refine e_istore (pc2 := 254) (L2 := [some (.ref 40), some (.int a0), some (.int a1), some (.int a2), some (.int a3), some (.int a4), some (.int a5), some (.int (nI 1)), some (.int (h115 39 1)), some (.int (nI 0))]) hM rfl rfl rfl rfl ?_
                              exact rfl
                          · refine e_aload_n (pc2 := 147) hM rfl rfl rfl ?_
                            refine e_iconst (pc2 := 148) (v := nI 4) hM rfl rfl rfl ?_
                            refine e_cvi (pc2 := 151) (k := 39) (As := [.ref 40, .int (nI 4)]) (rest := []) hM rfl rfl rfl rfl rfl rfl rfl (fun x135 h134 => ?_)
                            exact e_iret hM rfl rfl
                        · refine e_aload_n (pc2 := 132) hM rfl rfl rfl ?_
                          refine e_iconst (pc2 := 133) (v := nI 3) hM rfl rfl rfl ?_
                          refine e_cvi (pc2 := 136) (k := 39) (As := [.ref 40, .int (nI 3)]) (rest := []) hM rfl rfl rfl rfl rfl rfl rfl (fun x137 h136 => ?_)
                          exact e_iret hM rfl rfl
                      · refine e_aload_n (pc2 := 117) hM rfl rfl rfl ?_
                        refine e_iconst (pc2 := 118) (v := nI 1) hM rfl rfl rfl ?_
                        refine e_cvi (pc2 := 121) (k := 39) (As := [.ref 40, .int (nI 1)]) (rest := []) hM rfl rfl rfl rfl rfl rfl rfl (fun x139 h138 => ?_)
                        exact e_iret hM rfl rfl
              · refine e_aload_n (pc2 := 68) hM rfl rfl rfl ?_
                refine e_iconst (pc2 := 69) (v := nI 1) hM rfl rfl rfl ?_
                refine e_cvi (pc2 := 72) (k := 39) (As := [.ref 40, .int (nI 1)]) (rest := []) hM rfl rfl rfl rfl rfl rfl rfl (fun x141 h140 => ?_)
                exact e_iret hM rfl rfl
            · refine e_aload_n (pc2 := 53) hM rfl rfl rfl ?_
              refine e_iload_n (pc2 := 54) hM rfl rfl rfl ?_
              refine e_cvi (pc2 := 57) (k := 39) (As := [.ref 40, .int a1]) (rest := []) hM rfl rfl rfl rfl rfl rfl rfl (fun x143 h142 => ?_)
              refine e_if_ne (pc2 := 60) (tgt := 73) hM rfl rfl rfl ?_ ?_
              · refine e_iload_n (pc2 := 74) hM rfl rfl rfl ?_
                refine e_iconst (pc2 := 75) (v := nI 1) hM rfl rfl rfl ?_
                refine e_bipush (pc2 := 77) (v := nI 100) hM rfl rfl rfl rfl ?_
                refine e_csi (pc2 := 80) (As := [.int a2, .int (nI 1), .int (nI 100)]) (rest := []) hM rfl rfl rfl rfl rfl rfl rfl (fun x145 h144 => ?_)
                refine e_if_eq (pc2 := 83) (tgt := 116) hM rfl rfl rfl ?_ ?_
                · refine e_aload_n (pc2 := 117) hM rfl rfl rfl ?_
                  refine e_iconst (pc2 := 118) (v := nI 1) hM rfl rfl rfl ?_
                  refine e_cvi (pc2 := 121) (k := 39) (As := [.ref 40, .int (nI 1)]) (rest := []) hM rfl rfl rfl rfl rfl rfl rfl (fun x147 h146 => ?_)
                  exact e_iret hM rfl rfl
                · refine e_iload (pc2 := 85) hM rfl rfl rfl ?_
                  refine e_iconst (pc2 := 86) (v := nI 1) hM rfl rfl rfl ?_
                  refine e_bipush (pc2 := 88) (v := nI 10) hM rfl rfl rfl rfl ?_
                  refine e_csi (pc2 := 91) (As := [.int a3, .int (nI 1), .int (nI 10)]) (rest := []) hM rfl rfl rfl rfl rfl rfl rfl (fun x149 h148 => ?_)
                  refine e_if_eq (pc2 := 94) (tgt := 116) hM rfl rfl rfl ?_ ?_
                  · refine e_aload_n (pc2 := 117) hM rfl rfl rfl ?_
                    refine e_iconst (pc2 := 118) (v := nI 1) hM rfl rfl rfl ?_
                    refine e_cvi (pc2 := 121) (k := 39) (As := [.ref 40, .int (nI 1)]) (rest := []) hM rfl rfl rfl rfl rfl rfl rfl (fun x151 h150 => ?_)
                    exact e_iret hM rfl rfl
                  · refine e_iload (pc2 := 96) hM rfl rfl rfl ?_
                    refine e_iconst (pc2 := 97) (v := nI 1) hM rfl rfl rfl ?_
                    refine e_bipush (pc2 := 99) (v := nI 60) hM rfl rfl rfl rfl ?_
                    refine e_csi (pc2 := 102) (As := [.int a4, .int (nI 1), .int (nI 60)]) (rest := []) hM rfl rfl rfl rfl rfl rfl rfl (fun x153 h152 => ?_)
                    refine e_if_eq (pc2 := 105) (tgt := 116) hM rfl rfl rfl ?_ ?_
                    · refine e_aload_n (pc2 := 117) hM rfl rfl rfl ?_
                      refine e_iconst (pc2 := 118) (v := nI 1) hM rfl rfl rfl ?_
                      refine e_cvi (pc2 := 121) (k := 39) (As := [.ref 40, .int (nI 1)]) (rest := []) hM rfl rfl rfl rfl rfl rfl rfl (fun x155 h154 => ?_)
                      exact e_iret hM rfl rfl
                    · refine e_iload (pc2 := 107) hM rfl rfl rfl ?_
                      refine e_iconst (pc2 := 108) (v := nI 1) hM rfl rfl rfl ?_
                      refine e_bipush (pc2 := 110) (v := nI 20) hM rfl rfl rfl rfl ?_
                      refine e_csi (pc2 := 113) (As := [.int a5, .int (nI 1), .int (nI 20)]) (rest := []) hM rfl rfl rfl rfl rfl rfl rfl (fun x157 h156 => ?_)
                      refine e_if_ne (pc2 := 116) (tgt := 122) hM rfl rfl rfl ?_ ?_
                      · refine e_aload_n (pc2 := 123) hM rfl rfl rfl ?_
                        refine e_cvi (pc2 := 126) (k := 39) (As := [.ref 40]) (rest := []) hM rfl rfl rfl rfl rfl rfl rfl (fun x159 h158 => ?_)
                        refine e_iload (pc2 := 128) hM rfl rfl rfl ?_
                        refine e_icmp_ge (pc2 := 131) (tgt := 137) hM rfl rfl rfl ?_ ?_
                        · refine e_aload_n (pc2 := 138) hM rfl rfl rfl ?_
                          refine e_getfi (pc2 := 141) (k := 39) (v := (h158 39 1)) hM rfl rfl rfl rfl rfl rfl ?_
                          refine e_bipush (pc2 := 143) (v := nI 24) hM rfl rfl rfl rfl ?_
                          refine e_icmp_ne (pc2 := 146) (tgt := 152) hM rfl rfl rfl ?_ ?_
                          · refine e_aload_n (pc2 := 153) hM rfl rfl rfl ?_
                            refine e_getfi (pc2 := 156) (k := 39) (v := (h158 39 1)) hM rfl rfl rfl rfl rfl rfl ?_
                            refine e_istore (pc2 := 158) (L2 := [some (.ref 40), some (.int a0), some (.int a1), some (.int a2), some (.int a3), some (.int a4), some (.int a5), some (.int (nI 1)), some (.int (h158 39 1)), none]) hM rfl rfl rfl rfl ?_
                            refine e_aload_n (pc2 := 159) hM rfl rfl rfl ?_
                            refine e_getfr (pc2 := 162) (k := 39) (b := 44) hM rfl rfl rfl rfl rfl ?_
                            refine e_iload (pc2 := 164) hM rfl rfl rfl ?_
                            refine e_iload_n (pc2 := 165) hM rfl rfl rfl ?_
                            refine e_bipush (pc2 := 167) (v := nI 10) hM rfl rfl rfl rfl ?_
                            refine e_idiv (pc2 := 168) hM rfl rfl ?_
                            refine e_bipush (pc2 := 170) (v := nI 10) hM rfl rfl rfl rfl ?_
                            refine e_irem (pc2 := 171) hM rfl rfl ?_
                            refine e_iast (pc2 := 172) (k := 43) hM rfl rfl rfl (fun j160 => ?_)
                            refine e_aload_n (pc2 := 173) hM rfl rfl rfl ?_
                            refine e_getfr (pc2 := 176) (k := 39) (b := 45) hM rfl rfl rfl rfl rfl ?_
                            refine e_iload (pc2 := 178) hM rfl rfl rfl ?_
                            refine e_iload (pc2 := 180) hM rfl rfl rfl ?_
                            refine e_if_eq (pc2 := 183) (tgt := 187) hM rfl rfl rfl ?_ ?_
                            · refine e_iconst (pc2 := 188) (v := -nI 1) hM rfl rfl rfl ?_
                              refine e_iast (pc2 := 189) (k := 44) hM rfl rfl rfl (fun j161 => ?_)
                              refine e_aload_n (pc2 := 190) hM rfl rfl rfl ?_
                              refine e_getfr (pc2 := 193) (k := 39) (b := 46) hM rfl rfl rfl rfl rfl ?_
                              refine e_iload (pc2 := 195) hM rfl rfl rfl ?_
                              refine e_iload_n (pc2 := 196) hM rfl rfl rfl ?_
                              refine e_bipush (pc2 := 198) (v := nI 100) hM rfl rfl rfl rfl ?_
                              refine e_idiv (pc2 := 199) hM rfl rfl ?_
                              refine e_iast (pc2 := 200) (k := 45) hM rfl rfl rfl (fun j162 => ?_)
                              refine e_aload_n (pc2 := 201) hM rfl rfl rfl ?_
                              refine e_getfr (pc2 := 204) (k := 39) (b := 47) hM rfl rfl rfl rfl rfl ?_
                              refine e_iload (pc2 := 206) hM rfl rfl rfl ?_
                              refine e_iload_n (pc2 := 207) hM rfl rfl rfl ?_
                              refine e_iast (pc2 := 208) (k := 46) hM rfl rfl rfl (fun j163 => ?_)
                              refine e_aload_n (pc2 := 209) hM rfl rfl rfl ?_
                              refine e_getfr (pc2 := 212) (k := 39) (b := 48) hM rfl rfl rfl rfl rfl ?_
                              refine e_iload (pc2 := 214) hM rfl rfl rfl ?_
                              refine e_iload (pc2 := 216) hM rfl rfl rfl ?_
                              refine e_iast (pc2 := 217) (k := 47) hM rfl rfl rfl (fun j164 => ?_)
                              refine e_aload_n (pc2 := 218) hM rfl rfl rfl ?_
                              refine e_getfr (pc2 := 221) (k := 39) (b := 49) hM rfl rfl rfl rfl rfl ?_
                              refine e_iload (pc2 := 223) hM rfl rfl rfl ?_
                              refine e_iload (pc2 := 225) hM rfl rfl rfl ?_
                              refine e_iast (pc2 := 226) (k := 48) hM rfl rfl rfl (fun j165 => ?_)
                              refine e_aload_n (pc2 := 227) hM rfl rfl rfl ?_
                              refine e_getfr (pc2 := 230) (k := 39) (b := 50) hM rfl rfl rfl rfl rfl ?_
                              refine e_iload (pc2 := 232) hM rfl rfl rfl ?_
                              refine e_iload (pc2 := 234) hM rfl rfl rfl ?_
                              refine e_iast (pc2 := 235) (k := 49) hM rfl rfl rfl (fun j166 => ?_)
                              refine e_aload_n (pc2 := 236) hM rfl rfl rfl ?_
                              refine e_getfr (pc2 := 239) (k := 39) (b := 51) hM rfl rfl rfl rfl rfl ?_
                              refine e_iload (pc2 := 241) hM rfl rfl rfl ?_
                              refine e_iconst (pc2 := 242) (v := nI 0) hM rfl rfl rfl ?_
                              refine e_iast (pc2 := 243) (k := 50) hM rfl rfl rfl (fun j167 => ?_)
                              refine e_aload_n (pc2 := 244) hM rfl rfl rfl ?_
                              refine e_getfr (pc2 := 247) (k := 39) (b := 54) hM rfl rfl rfl rfl rfl ?_
                              refine e_iload (pc2 := 249) hM rfl rfl rfl ?_
                              refine e_iconst (pc2 := 250) (v := nI 0) hM rfl rfl rfl ?_
                              refine e_bast (pc2 := 251) (k := 53) hM rfl rfl rfl pm_01a (fun j168 => ?_)
                              refine e_iconst (pc2 := 252) (v := nI 0) hM rfl rfl rfl ?_
                              refine e_istore (pc2 := 254) (L2 := [some (.ref 40), some (.int a0), some (.int a1), some (.int a2), some (.int a3), some (.int a4), some (.int a5), some (.int (nI 1)), some (.int (h158 39 1)), some (.int (nI 0))]) hM rfl rfl rfl rfl ?_
                              exact rfl
                            · refine e_iload_n (pc2 := 184) hM rfl rfl rfl ?_
                              refine e_goto (tgt := 188) hM rfl rfl ?_
                              refine e_iast (pc2 := 189) (k := 44) hM rfl rfl rfl (fun j169 => ?_)
                              refine e_aload_n (pc2 := 190) hM rfl rfl rfl ?_
                              refine e_getfr (pc2 := 193) (k := 39) (b := 46) hM rfl rfl rfl rfl rfl ?_
                              refine e_iload (pc2 := 195) hM rfl rfl rfl ?_
                              refine e_iload_n (pc2 := 196) hM rfl rfl rfl ?_
                              refine e_bipush (pc2 := 198) (v := nI 100) hM rfl rfl rfl rfl ?_
                              refine e_idiv (pc2 := 199) hM rfl rfl ?_
                              refine e_iast (pc2 := 200) (k := 45) hM rfl rfl rfl (fun j170 => ?_)
                              refine e_aload_n (pc2 := 201) hM rfl rfl rfl ?_
                              refine e_getfr (pc2 := 204) (k := 39) (b := 47) hM rfl rfl rfl rfl rfl ?_
                              refine e_iload (pc2 := 206) hM rfl rfl rfl ?_
                              refine e_iload_n (pc2 := 207) hM rfl rfl rfl ?_
                              refine e_iast (pc2 := 208) (k := 46) hM rfl rfl rfl (fun j171 => ?_)
                              refine e_aload_n (pc2 := 209) hM rfl rfl rfl ?_
                              refine e_getfr (pc2 := 212) (k := 39) (b := 48) hM rfl rfl rfl rfl rfl ?_
                              refine e_iload (pc2 := 214) hM rfl rfl rfl ?_
                              refine e_iload (pc2 := 216) hM rfl rfl rfl ?_
                              refine e_iast (pc2 := 217) (k := 47) hM rfl rfl rfl (fun j172 => ?_)
                              refine e_aload_n (pc2 := 218) hM rfl rfl rfl ?_
                              refine e_getfr (pc2 := 221) (k := 39) (b := 49) hM rfl rfl rfl rfl rfl ?_
                              refine e_iload (pc2 := 223) hM rfl rfl rfl ?_
                              refine e_iload (pc2 := 225) hM rfl rfl rfl ?_
                              refine e_iast (pc2 := 226) (k := 48) hM rfl rfl rfl (fun j173 => ?_)
                              refine e_aload_n (pc2 := 227) hM rfl rfl rfl ?_
                              refine e_getfr (pc2 := 230) (k := 39) (b := 50) hM rfl rfl rfl rfl rfl ?_
                              refine e_iload (pc2 := 232) hM rfl rfl rfl ?_
                              refine e_iload (pc2 := 234) hM rfl rfl rfl ?_
                              refine e_iast (pc2 := 235) (k := 49) hM rfl rfl rfl (fun j174 => ?_)
                              refine e_aload_n (pc2 := 236) hM rfl rfl rfl ?_
                              refine e_getfr (pc2 := 239) (k := 39) (b := 51) hM rfl rfl rfl rfl rfl ?_
                              refine e_iload (pc2 := 241) hM rfl rfl rfl ?_
                              refine e_iconst (pc2 := 242) (v := nI 0) hM rfl rfl rfl ?_
                              refine e_iast (pc2 := 243) (k := 50) hM rfl rfl rfl (fun j175 => ?_)
                              refine e_aload_n (pc2 := 244) hM rfl rfl rfl ?_
                              refine e_getfr (pc2 := 247) (k := 39) (b := 54) hM rfl rfl rfl rfl rfl ?_
                              refine e_iload (pc2 := 249) hM rfl rfl rfl ?_
                              refine e_iconst (pc2 := 250) (v := nI 0) hM rfl rfl rfl ?_
                              refine e_bast (pc2 := 251) (k := 53) hM rfl rfl rfl pm_01a (fun j176 => ?_)
                              refine e_iconst (pc2 := 252) (v := nI 0) hM rfl rfl rfl ?_
                              refine e_istore (pc2 := 254) (L2 := [some (.ref 40), some (.int a0), some (.int a1), some (.int a2), some (.int a3), some (.int a4), some (.int a5), some (.int (nI 1)), some (.int (h158 39 1)), some (.int (nI 0))]) hM rfl rfl rfl rfl ?_
                              exact rfl
                          · refine e_aload_n (pc2 := 147) hM rfl rfl rfl ?_
                            refine e_iconst (pc2 := 148) (v := nI 4) hM rfl rfl rfl ?_
                            refine e_cvi (pc2 := 151) (k := 39) (As := [.ref 40, .int (nI 4)]) (rest := []) hM rfl rfl rfl rfl rfl rfl rfl (fun x178 h177 => ?_)
                            exact e_iret hM rfl rfl
                        · refine e_aload_n (pc2 := 132) hM rfl rfl rfl ?_
                          refine e_iconst (pc2 := 133) (v := nI 3) hM rfl rfl rfl ?_
                          refine e_cvi (pc2 := 136) (k := 39) (As := [.ref 40, .int (nI 3)]) (rest := []) hM rfl rfl rfl rfl rfl rfl rfl (fun x180 h179 => ?_)
                          exact e_iret hM rfl rfl
                      · refine e_aload_n (pc2 := 117) hM rfl rfl rfl ?_
                        refine e_iconst (pc2 := 118) (v := nI 1) hM rfl rfl rfl ?_
                        refine e_cvi (pc2 := 121) (k := 39) (As := [.ref 40, .int (nI 1)]) (rest := []) hM rfl rfl rfl rfl rfl rfl rfl (fun x182 h181 => ?_)
                        exact e_iret hM rfl rfl
              · refine e_goto (tgt := 67) hM rfl rfl ?_
                refine e_aload_n (pc2 := 68) hM rfl rfl rfl ?_
                refine e_iconst (pc2 := 69) (v := nI 1) hM rfl rfl rfl ?_
                refine e_cvi (pc2 := 72) (k := 39) (As := [.ref 40, .int (nI 1)]) (rest := []) hM rfl rfl rfl rfl rfl rfl rfl (fun x184 h183 => ?_)
                exact e_iret hM rfl rfl
theorem qX8_string_254 {sl : Nat} {xs : Nat → Int32} {d : Nat} {b5 b8 b9 : Int32} {o1 o2 o3 o4 o6 o7 : Option Value} {h : pmH} : pm_Ev sl xs (d + 1) 102 254 [some (.ref 40), o1, o2, o3, o4, some (.int b5), o6, o7, some (.int b8), some (.int b9)] [] (SH, h) = if b5 ≤ b9 then (pm_ix none b8 24 fun j1 => some (some (.int b8), (SH, (pm_up (pm_up h 59 j1 b8) 39 1 ((h 39 1) + (nI 1)))))) else (pm_ri (pm_cf (pm_Ev sl xs) (d + 1) 101 [.ref 40] (SH, h)) SH fun x3 h2 => pm_ix none (((nI 60) * b8) + b9) 1440 fun j4 => pm_Ev sl xs (d + 1) 102 254 [some (.ref 40), o1, o2, o3, o4, some (.int b5), o6, o7, some (.int b8), some (.int (b9 + (nI 1)))] [] (SH, (pm_up h2 54 j4 x3))) := by
  have hM : pm_mt 102 = some mt_102 := rfl
  refine e_iload (pc2 := 256) hM rfl rfl rfl ?_
  refine e_iload (pc2 := 258) hM rfl rfl rfl ?_
  refine e_icmp_ge (pc2 := 261) (tgt := 284) hM rfl rfl rfl ?_ ?_
  · refine e_aload_n (pc2 := 285) hM rfl rfl rfl ?_
    refine e_getfr (pc2 := 288) (k := 39) (b := 60) hM rfl rfl rfl rfl rfl ?_
    refine e_iload (pc2 := 290) hM rfl rfl rfl ?_
    refine e_iload (pc2 := 292) hM rfl rfl rfl ?_
    refine e_iast (pc2 := 293) (k := 59) hM rfl rfl rfl (fun j1 => ?_)
    refine e_aload_n (pc2 := 294) hM rfl rfl rfl ?_
    refine e_dup (pc2 := 295) hM rfl rfl rfl ?_
    refine e_getfi (pc2 := 298) (k := 39) (v := (h 39 1)) hM rfl rfl rfl rfl rfl rfl ?_
    refine e_iconst (pc2 := 299) (v := nI 1) hM rfl rfl rfl ?_
    refine e_iadd (pc2 := 300) hM rfl rfl ?_
    refine e_putf (pc2 := 303) (k := 39) hM rfl rfl rfl rfl rfl rfl ?_
    refine e_iload (pc2 := 305) hM rfl rfl rfl ?_
    exact e_iret hM rfl rfl
  · refine e_aload_n (pc2 := 262) hM rfl rfl rfl ?_
    refine e_getfr (pc2 := 265) (k := 39) (b := 55) hM rfl rfl rfl rfl rfl ?_
    refine e_bipush (pc2 := 267) (v := nI 60) hM rfl rfl rfl rfl ?_
    refine e_iload (pc2 := 269) hM rfl rfl rfl ?_
    refine e_imul (pc2 := 270) hM rfl rfl ?_
    refine e_iload (pc2 := 272) hM rfl rfl rfl ?_
    refine e_iadd (pc2 := 273) hM rfl rfl ?_
    refine e_aload_n (pc2 := 274) hM rfl rfl rfl ?_
    refine e_cvi (pc2 := 277) (k := 39) (As := [.ref 40]) (rest := [.int (((nI 60) * b8) + b9), .ref 55]) hM rfl rfl rfl rfl rfl rfl rfl (fun x3 h2 => ?_)
    refine e_iast (pc2 := 278) (k := 54) hM rfl rfl rfl (fun j4 => ?_)
    refine e_iinc (pc2 := 281) (v := nI 1) (L2 := [some (.ref 40), o1, o2, o3, o4, some (.int b5), o6, o7, some (.int b8), some (.int (b9 + (nI 1)))]) hM rfl rfl rfl rfl rfl ?_
    refine e_goto (tgt := 254) hM rfl rfl ?_
    exact rfl
theorem qX8_fuse_0 {sl : Nat} {xs : Nat → Int32} {d : Nat} {a0 a1 : Int32} {h : pmH} : pm_cf (pm_Ev sl xs) (d + 2) 103 [.ref 40, .int a0, .int a1] (SH, h) = pm_ri (pm_cf (pm_Ev sl xs) (d + 1) 97 [.ref 40, .int a0] (SH, h)) SH fun x2 h1 => if x2 = 0 then (pm_ri (pm_cf (pm_Ev sl xs) (d + 1) 96 [.ref 40, .int (nI 1)] (SH, h1)) SH fun x4 h3 => some (some (.int x4), (SH, h3))) else (pm_ri (pm_cf (pm_Ev sl xs) (d + 1) 95 [.int a1, .int (nI 0), .int 60000] (SH, h1)) SH fun x6 h5 => if x6 = 0 then (pm_ri (pm_cf (pm_Ev sl xs) (d + 1) 96 [.ref 40, .int (nI 1)] (SH, h5)) SH fun x10 h9 => some (some (.int x10), (SH, h9))) else (pm_ix none a0 24 fun j7 => pm_ix none a0 24 fun j8 => some (some (.int (h5 50 j7)), (SH, (pm_up h5 50 j8 a1))))) := by
  have hM : pm_mt 103 = some mt_103 := rfl
  refine e_call (L := [some (.ref 40), some (.int a0), some (.int a1), none]) hM rfl rfl ?_
  refine e_aload_n (pc2 := 1) hM rfl rfl rfl ?_
  refine e_iload_n (pc2 := 2) hM rfl rfl rfl ?_
  refine e_cvi (pc2 := 5) (k := 39) (As := [.ref 40, .int a0]) (rest := []) hM rfl rfl rfl rfl rfl rfl rfl (fun x2 h1 => ?_)
  refine e_if_eq (pc2 := 8) (tgt := 18) hM rfl rfl rfl ?_ ?_
  · refine e_aload_n (pc2 := 19) hM rfl rfl rfl ?_
    refine e_iconst (pc2 := 20) (v := nI 1) hM rfl rfl rfl ?_
    refine e_cvi (pc2 := 23) (k := 39) (As := [.ref 40, .int (nI 1)]) (rest := []) hM rfl rfl rfl rfl rfl rfl rfl (fun x4 h3 => ?_)
    exact e_iret hM rfl rfl
  · refine e_iload_n (pc2 := 9) hM rfl rfl rfl ?_
    refine e_iconst (pc2 := 10) (v := nI 0) hM rfl rfl rfl ?_
    refine e_ldc (pc2 := 12) (v := 60000) hM rfl rfl rfl ?_
    refine e_csi (pc2 := 15) (As := [.int a1, .int (nI 0), .int 60000]) (rest := []) hM rfl rfl rfl rfl rfl rfl rfl (fun x6 h5 => ?_)
    refine e_if_ne (pc2 := 18) (tgt := 24) hM rfl rfl rfl ?_ ?_
    · refine e_aload_n (pc2 := 25) hM rfl rfl rfl ?_
      refine e_getfr (pc2 := 28) (k := 39) (b := 51) hM rfl rfl rfl rfl rfl ?_
      refine e_iload_n (pc2 := 29) hM rfl rfl rfl ?_
      refine e_iald (pc2 := 30) (k := 50) (V := fun j7 => (h5 50 j7)) hM rfl rfl rfl (fun _ => rfl) (fun j7 => ?_)
      refine e_istore_n (pc2 := 31) (L2 := [some (.ref 40), some (.int a0), some (.int a1), some (.int (h5 50 j7))]) hM rfl rfl rfl rfl ?_
      refine e_aload_n (pc2 := 32) hM rfl rfl rfl ?_
      refine e_getfr (pc2 := 35) (k := 39) (b := 51) hM rfl rfl rfl rfl rfl ?_
      refine e_iload_n (pc2 := 36) hM rfl rfl rfl ?_
      refine e_iload_n (pc2 := 37) hM rfl rfl rfl ?_
      refine e_iast (pc2 := 38) (k := 50) hM rfl rfl rfl (fun j8 => ?_)
      refine e_iload_n (pc2 := 39) hM rfl rfl rfl ?_
      exact e_iret hM rfl rfl
    · refine e_aload_n (pc2 := 19) hM rfl rfl rfl ?_
      refine e_iconst (pc2 := 20) (v := nI 1) hM rfl rfl rfl ?_
      refine e_cvi (pc2 := 23) (k := 39) (As := [.ref 40, .int (nI 1)]) (rest := []) hM rfl rfl rfl rfl rfl rfl rfl (fun x10 h9 => ?_)
      exact e_iret hM rfl rfl
theorem qX8_dies_0 {sl : Nat} {xs : Nat → Int32} {d : Nat} {a0 : Int32} {h : pmH} : pm_cf (pm_Ev sl xs) (d + 1) 104 [.ref 40, .int a0] (SH, h) = pm_ix none a0 24 fun j1 => pm_ix none a0 24 fun j2 => pm_ix none a0 24 fun j3 => pm_ix none a0 24 fun j4 => some (none, (SH, (pm_up (pm_up (pm_up h 53 j1 (nI 1)) 51 j2 (nI 0)) 52 j4 ((h 48 j3) - (nI 1))))) := by
  have hM : pm_mt 104 = some mt_104 := rfl
  refine e_call (L := [some (.ref 40), some (.int a0)]) hM rfl rfl ?_
  refine e_aload_n (pc2 := 1) hM rfl rfl rfl ?_
  refine e_getfr (pc2 := 4) (k := 39) (b := 54) hM rfl rfl rfl rfl rfl ?_
  refine e_iload_n (pc2 := 5) hM rfl rfl rfl ?_
  refine e_iconst (pc2 := 6) (v := nI 1) hM rfl rfl rfl ?_
  refine e_bast (pc2 := 7) (k := 53) hM rfl rfl rfl pm_01b (fun j1 => ?_)
  refine e_aload_n (pc2 := 8) hM rfl rfl rfl ?_
  refine e_getfr (pc2 := 11) (k := 39) (b := 52) hM rfl rfl rfl rfl rfl ?_
  refine e_iload_n (pc2 := 12) hM rfl rfl rfl ?_
  refine e_iconst (pc2 := 13) (v := nI 0) hM rfl rfl rfl ?_
  refine e_iast (pc2 := 14) (k := 51) hM rfl rfl rfl (fun j2 => ?_)
  refine e_aload_n (pc2 := 15) hM rfl rfl rfl ?_
  refine e_getfr (pc2 := 18) (k := 39) (b := 53) hM rfl rfl rfl rfl rfl ?_
  refine e_iload_n (pc2 := 19) hM rfl rfl rfl ?_
  refine e_aload_n (pc2 := 20) hM rfl rfl rfl ?_
  refine e_getfr (pc2 := 23) (k := 39) (b := 49) hM rfl rfl rfl rfl rfl ?_
  refine e_iload_n (pc2 := 24) hM rfl rfl rfl ?_
  refine e_iald (pc2 := 25) (k := 48) (V := fun j3 => (h 48 j3)) hM rfl rfl rfl (fun _ => rfl) (fun j3 => ?_)
  refine e_iconst (pc2 := 26) (v := nI 1) hM rfl rfl rfl ?_
  refine e_isub (pc2 := 27) hM rfl rfl ?_
  refine e_iast (pc2 := 28) (k := 52) hM rfl rfl rfl (fun j4 => ?_)
  exact e_ret hM rfl rfl
theorem qX8_dead_0 {sl : Nat} {xs : Nat → Int32} {d : Nat} {a0 a1 : Int32} {h : pmH} : pm_cf (pm_Ev sl xs) (d + 2) 105 [.ref 40, .int a0, .int a1] (SH, h) = pm_ri (pm_cf (pm_Ev sl xs) (d + 1) 97 [.ref 40, .int a0] (SH, h)) SH fun x2 h1 => if x2 = 0 then (pm_ri (pm_cf (pm_Ev sl xs) (d + 1) 96 [.ref 40, .int (nI 1)] (SH, h1)) SH fun x4 h3 => some (some (.int x4), (SH, h3))) else (pm_ri (pm_cf (pm_Ev sl xs) (d + 1) 95 [.int a1, .int (nI 0), .int (nI 1)] (SH, h1)) SH fun x6 h5 => if x6 = 0 then (pm_ri (pm_cf (pm_Ev sl xs) (d + 1) 96 [.ref 40, .int (nI 1)] (SH, h5)) SH fun x11 h10 => some (some (.int x11), (SH, h10))) else (pm_ix none a0 24 fun j7 => if a1 = 0 then (pm_ix none a0 24 fun j9 => if (h5 53 j7) = 0 then (some (some (.int (nI 0)), (SH, (pm_up h5 53 j9 (nI 0))))) else (some (some (.int (nI 1)), (SH, (pm_up h5 53 j9 (nI 0)))))) else (if (h5 53 j7) = 0 then (pm_rv (pm_cf (pm_Ev sl xs) (d + 1) 104 [.ref 40, .int a0] (SH, h5)) SH fun h8 => if (h5 53 j7) = 0 then (some (some (.int (nI 0)), (SH, h8))) else (some (some (.int (nI 1)), (SH, h8)))) else (if (h5 53 j7) = 0 then (some (some (.int (nI 0)), (SH, h5))) else (some (some (.int (nI 1)), (SH, h5))))))) := by
  have hM : pm_mt 105 = some mt_105 := rfl
  refine e_call (L := [some (.ref 40), some (.int a0), some (.int a1), none]) hM rfl rfl ?_
  refine e_aload_n (pc2 := 1) hM rfl rfl rfl ?_
  refine e_iload_n (pc2 := 2) hM rfl rfl rfl ?_
  refine e_cvi (pc2 := 5) (k := 39) (As := [.ref 40, .int a0]) (rest := []) hM rfl rfl rfl rfl rfl rfl rfl (fun x2 h1 => ?_)
  refine e_if_eq (pc2 := 8) (tgt := 17) hM rfl rfl rfl ?_ ?_
  · refine e_aload_n (pc2 := 18) hM rfl rfl rfl ?_
    refine e_iconst (pc2 := 19) (v := nI 1) hM rfl rfl rfl ?_
    refine e_cvi (pc2 := 22) (k := 39) (As := [.ref 40, .int (nI 1)]) (rest := []) hM rfl rfl rfl rfl rfl rfl rfl (fun x4 h3 => ?_)
    exact e_iret hM rfl rfl
  · refine e_iload_n (pc2 := 9) hM rfl rfl rfl ?_
    refine e_iconst (pc2 := 10) (v := nI 0) hM rfl rfl rfl ?_
    refine e_iconst (pc2 := 11) (v := nI 1) hM rfl rfl rfl ?_
    refine e_csi (pc2 := 14) (As := [.int a1, .int (nI 0), .int (nI 1)]) (rest := []) hM rfl rfl rfl rfl rfl rfl rfl (fun x6 h5 => ?_)
    refine e_if_ne (pc2 := 17) (tgt := 23) hM rfl rfl rfl ?_ ?_
    · refine e_aload_n (pc2 := 24) hM rfl rfl rfl ?_
      refine e_getfr (pc2 := 27) (k := 39) (b := 54) hM rfl rfl rfl rfl rfl ?_
      refine e_iload_n (pc2 := 28) hM rfl rfl rfl ?_
      refine e_bald (pc2 := 29) (k := 53) (V := fun j7 => (h5 53 j7)) hM rfl rfl rfl (fun _ => rfl) (fun j7 => ?_)
      refine e_istore_n (pc2 := 30) (L2 := [some (.ref 40), some (.int a0), some (.int a1), some (.int (h5 53 j7))]) hM rfl rfl rfl rfl ?_
      refine e_iload_n (pc2 := 31) hM rfl rfl rfl ?_
      refine e_if_ne (pc2 := 34) (tgt := 44) hM rfl rfl rfl ?_ ?_
      · refine e_iload_n (pc2 := 45) hM rfl rfl rfl ?_
        refine e_if_ne (pc2 := 48) (tgt := 53) hM rfl rfl rfl ?_ ?_
        · refine e_iload_n (pc2 := 54) hM rfl rfl rfl ?_
          refine e_if_eq (pc2 := 57) (tgt := 61) hM rfl rfl rfl ?_ ?_
          · refine e_iconst (pc2 := 62) (v := nI 0) hM rfl rfl rfl ?_
            exact e_iret hM rfl rfl
          · refine e_iconst (pc2 := 58) (v := nI 1) hM rfl rfl rfl ?_
            refine e_goto (tgt := 62) hM rfl rfl ?_
            exact e_iret hM rfl rfl
        · refine e_aload_n (pc2 := 49) hM rfl rfl rfl ?_
          refine e_iload_n (pc2 := 50) hM rfl rfl rfl ?_
          refine e_cvv (pc2 := 53) (k := 39) (As := [.ref 40, .int a0]) (rest := []) hM rfl rfl rfl rfl rfl rfl rfl (fun h8 => ?_)
          refine e_iload_n (pc2 := 54) hM rfl rfl rfl ?_
          refine e_if_eq (pc2 := 57) (tgt := 61) hM rfl rfl rfl ?_ ?_
          · refine e_iconst (pc2 := 62) (v := nI 0) hM rfl rfl rfl ?_
            exact e_iret hM rfl rfl
          · refine e_iconst (pc2 := 58) (v := nI 1) hM rfl rfl rfl ?_
            refine e_goto (tgt := 62) hM rfl rfl ?_
            exact e_iret hM rfl rfl
      · refine e_aload_n (pc2 := 35) hM rfl rfl rfl ?_
        refine e_getfr (pc2 := 38) (k := 39) (b := 54) hM rfl rfl rfl rfl rfl ?_
        refine e_iload_n (pc2 := 39) hM rfl rfl rfl ?_
        refine e_iconst (pc2 := 40) (v := nI 0) hM rfl rfl rfl ?_
        refine e_bast (pc2 := 41) (k := 53) hM rfl rfl rfl pm_01a (fun j9 => ?_)
        refine e_goto (tgt := 53) hM rfl rfl ?_
        refine e_iload_n (pc2 := 54) hM rfl rfl rfl ?_
        refine e_if_eq (pc2 := 57) (tgt := 61) hM rfl rfl rfl ?_ ?_
        · refine e_iconst (pc2 := 62) (v := nI 0) hM rfl rfl rfl ?_
          exact e_iret hM rfl rfl
        · refine e_iconst (pc2 := 58) (v := nI 1) hM rfl rfl rfl ?_
          refine e_goto (tgt := 62) hM rfl rfl ?_
          exact e_iret hM rfl rfl
    · refine e_aload_n (pc2 := 18) hM rfl rfl rfl ?_
      refine e_iconst (pc2 := 19) (v := nI 1) hM rfl rfl rfl ?_
      refine e_cvi (pc2 := 22) (k := 39) (As := [.ref 40, .int (nI 1)]) (rest := []) hM rfl rfl rfl rfl rfl rfl rfl (fun x11 h10 => ?_)
      exact e_iret hM rfl rfl
theorem qX8_isDark_0 {sl : Nat} {xs : Nat → Int32} {d : Nat} {a0 : Int32} {h : pmH} : pm_cf (pm_Ev sl xs) (d + 1) 106 [.ref 40, .int a0] (SH, h) = pm_Ev sl xs d 106 2 [some (.ref 40), some (.int a0), some (.int a0)] [] (SH, h) := by
  have hM : pm_mt 106 = some mt_106 := rfl
  refine e_call (L := [some (.ref 40), some (.int a0), none]) hM rfl rfl ?_
  refine e_iload_n (pc2 := 1) hM rfl rfl rfl ?_
  refine e_istore_n (pc2 := 2) (L2 := [some (.ref 40), some (.int a0), some (.int a0)]) hM rfl rfl rfl rfl ?_
  exact rfl
theorem qX8_isDark_2 {sl : Nat} {xs : Nat → Int32} {d : Nat} {b1 b2 : Int32} {h : pmH} : pm_Ev sl xs d 106 2 [some (.ref 40), some (.int b1), some (.int b2)] [] (SH, h) = if b2 < 0 then (if b2 < 0 then (some (some (.int (nI 0)), (SH, h))) else (some (some (.int (nI 1)), (SH, h)))) else (pm_ix none b2 24 fun j1 => if (h 53 j1) = 0 then (pm_ix none b2 24 fun j2 => pm_Ev sl xs d 106 2 [some (.ref 40), some (.int b1), some (.int (h 44 j2))] [] (SH, h)) else (if b2 < 0 then (some (some (.int (nI 0)), (SH, h))) else (some (some (.int (nI 1)), (SH, h))))) := by
  have hM : pm_mt 106 = some mt_106 := rfl
  refine e_iload_n (pc2 := 3) hM rfl rfl rfl ?_
  refine e_if_lt (pc2 := 6) (tgt := 25) hM rfl rfl rfl ?_ ?_
  · refine e_iload_n (pc2 := 26) hM rfl rfl rfl ?_
    refine e_if_lt (pc2 := 29) (tgt := 33) hM rfl rfl rfl ?_ ?_
    · refine e_iconst (pc2 := 34) (v := nI 0) hM rfl rfl rfl ?_
      exact e_zret hM rfl rfl pm_01a
    · refine e_iconst (pc2 := 30) (v := nI 1) hM rfl rfl rfl ?_
      refine e_goto (tgt := 34) hM rfl rfl ?_
      exact e_zret hM rfl rfl pm_01b
  · refine e_aload_n (pc2 := 7) hM rfl rfl rfl ?_
    refine e_getfr (pc2 := 10) (k := 39) (b := 54) hM rfl rfl rfl rfl rfl ?_
    refine e_iload_n (pc2 := 11) hM rfl rfl rfl ?_
    refine e_bald (pc2 := 12) (k := 53) (V := fun j1 => (h 53 j1)) hM rfl rfl rfl (fun _ => rfl) (fun j1 => ?_)
    refine e_if_ne (pc2 := 15) (tgt := 25) hM rfl rfl rfl ?_ ?_
    · refine e_iload_n (pc2 := 26) hM rfl rfl rfl ?_
      refine e_if_lt (pc2 := 29) (tgt := 33) hM rfl rfl rfl ?_ ?_
      · refine e_iconst (pc2 := 34) (v := nI 0) hM rfl rfl rfl ?_
        exact e_zret hM rfl rfl pm_01a
      · refine e_iconst (pc2 := 30) (v := nI 1) hM rfl rfl rfl ?_
        refine e_goto (tgt := 34) hM rfl rfl ?_
        exact e_zret hM rfl rfl pm_01b
    · refine e_aload_n (pc2 := 16) hM rfl rfl rfl ?_
      refine e_getfr (pc2 := 19) (k := 39) (b := 45) hM rfl rfl rfl rfl rfl ?_
      refine e_iload_n (pc2 := 20) hM rfl rfl rfl ?_
      refine e_iald (pc2 := 21) (k := 44) (V := fun j2 => (h 44 j2)) hM rfl rfl rfl (fun _ => rfl) (fun j2 => ?_)
      refine e_istore_n (pc2 := 22) (L2 := [some (.ref 40), some (.int b1), some (.int (h 44 j2))]) hM rfl rfl rfl rfl ?_
      refine e_goto (tgt := 2) hM rfl rfl ?_
      exact rfl
theorem qX8_about_0 {sl : Nat} {xs : Nat → Int32} {d : Nat} {a0 a1 : Int32} {h : pmH} : pm_cf (pm_Ev sl xs) (d + 2) 107 [.ref 40, .int a0, .int a1] (SH, h) = pm_ri (pm_cf (pm_Ev sl xs) (d + 1) 97 [.ref 40, .int a0] (SH, h)) SH fun x2 h1 => if x2 = 0 then (pm_ri (pm_cf (pm_Ev sl xs) (d + 1) 96 [.ref 40, .int (nI 1)] (SH, h1)) SH fun x17 h16 => some (some (.int x17), (SH, h16))) else (if a1 = nI 0 then (pm_ix none a0 24 fun j15 => some (some (.int (h1 43 j15)), (SH, h1))) else (if a1 = nI 1 then (pm_ix none a0 24 fun j14 => some (some (.int (h1 44 j14)), (SH, h1))) else (if a1 = nI 2 then (pm_ix none a0 24 fun j13 => some (some (.int (h1 45 j13)), (SH, h1))) else (if a1 = nI 3 then (pm_ix none a0 24 fun j12 => some (some (.int (h1 46 j12)), (SH, h1))) else (if a1 = nI 4 then (pm_ix none a0 24 fun j11 => some (some (.int (h1 47 j11)), (SH, h1))) else (if a1 = nI 5 then (pm_ix none a0 24 fun j10 => some (some (.int (h1 48 j10)), (SH, h1))) else (if a1 = nI 6 then (pm_ix none a0 24 fun j9 => some (some (.int (h1 49 j9)), (SH, h1))) else (if a1 = nI 7 then (pm_ix none a0 24 fun j8 => some (some (.int (h1 50 j8)), (SH, h1))) else (if a1 = nI 8 then (pm_ix none a0 24 fun j7 => if (h1 53 j7) = 0 then (some (some (.int (nI 0)), (SH, h1))) else (some (some (.int (nI 1)), (SH, h1)))) else (if a1 = nI 9 then (pm_ri (pm_cf (pm_Ev sl xs) (d + 1) 106 [.ref 40, .int a0] (SH, h1)) SH fun x6 h5 => if x6 = 0 then (some (some (.int (nI 0)), (SH, h5))) else (some (some (.int (nI 1)), (SH, h5)))) else (pm_ri (pm_cf (pm_Ev sl xs) (d + 1) 96 [.ref 40, .int (nI 1)] (SH, h1)) SH fun x4 h3 => some (some (.int x4), (SH, h3))))))))))))) := by
  have hM : pm_mt 107 = some mt_107 := rfl
  refine e_call (L := [some (.ref 40), some (.int a0), some (.int a1)]) hM rfl rfl ?_
  refine e_aload_n (pc2 := 1) hM rfl rfl rfl ?_
  refine e_iload_n (pc2 := 2) hM rfl rfl rfl ?_
  refine e_cvi (pc2 := 5) (k := 39) (As := [.ref 40, .int a0]) (rest := []) hM rfl rfl rfl rfl rfl rfl rfl (fun x2 h1 => ?_)
  refine e_if_ne (pc2 := 8) (tgt := 14) hM rfl rfl rfl ?_ ?_
  · refine e_iload_n (pc2 := 15) hM rfl rfl rfl ?_
    refine e_switch hM rfl rfl ?_
    refine s_cons (tgt := 68) rfl ?_ ?_
    · refine e_aload_n (pc2 := 69) hM rfl rfl rfl ?_
      refine e_getfr (pc2 := 72) (k := 39) (b := 44) hM rfl rfl rfl rfl rfl ?_
      refine e_iload_n (pc2 := 73) hM rfl rfl rfl ?_
      refine e_iald (pc2 := 74) (k := 43) (V := fun j15 => (h1 43 j15)) hM rfl rfl rfl (fun _ => rfl) (fun j15 => ?_)
      exact e_iret hM rfl rfl
    refine s_cons (tgt := 75) rfl ?_ ?_
    · refine e_aload_n (pc2 := 76) hM rfl rfl rfl ?_
      refine e_getfr (pc2 := 79) (k := 39) (b := 45) hM rfl rfl rfl rfl rfl ?_
      refine e_iload_n (pc2 := 80) hM rfl rfl rfl ?_
      refine e_iald (pc2 := 81) (k := 44) (V := fun j14 => (h1 44 j14)) hM rfl rfl rfl (fun _ => rfl) (fun j14 => ?_)
      exact e_iret hM rfl rfl
    refine s_cons (tgt := 82) rfl ?_ ?_
    · refine e_aload_n (pc2 := 83) hM rfl rfl rfl ?_
      refine e_getfr (pc2 := 86) (k := 39) (b := 46) hM rfl rfl rfl rfl rfl ?_
      refine e_iload_n (pc2 := 87) hM rfl rfl rfl ?_
      refine e_iald (pc2 := 88) (k := 45) (V := fun j13 => (h1 45 j13)) hM rfl rfl rfl (fun _ => rfl) (fun j13 => ?_)
      exact e_iret hM rfl rfl
    refine s_cons (tgt := 89) rfl ?_ ?_
    · refine e_aload_n (pc2 := 90) hM rfl rfl rfl ?_
      refine e_getfr (pc2 := 93) (k := 39) (b := 47) hM rfl rfl rfl rfl rfl ?_
      refine e_iload_n (pc2 := 94) hM rfl rfl rfl ?_
      refine e_iald (pc2 := 95) (k := 46) (V := fun j12 => (h1 46 j12)) hM rfl rfl rfl (fun _ => rfl) (fun j12 => ?_)
      exact e_iret hM rfl rfl
    refine s_cons (tgt := 96) rfl ?_ ?_
    · refine e_aload_n (pc2 := 97) hM rfl rfl rfl ?_
      refine e_getfr (pc2 := 100) (k := 39) (b := 48) hM rfl rfl rfl rfl rfl ?_
      refine e_iload_n (pc2 := 101) hM rfl rfl rfl ?_
      refine e_iald (pc2 := 102) (k := 47) (V := fun j11 => (h1 47 j11)) hM rfl rfl rfl (fun _ => rfl) (fun j11 => ?_)
      exact e_iret hM rfl rfl
    refine s_cons (tgt := 103) rfl ?_ ?_
    · refine e_aload_n (pc2 := 104) hM rfl rfl rfl ?_
      refine e_getfr (pc2 := 107) (k := 39) (b := 49) hM rfl rfl rfl rfl rfl ?_
      refine e_iload_n (pc2 := 108) hM rfl rfl rfl ?_
      refine e_iald (pc2 := 109) (k := 48) (V := fun j10 => (h1 48 j10)) hM rfl rfl rfl (fun _ => rfl) (fun j10 => ?_)
      exact e_iret hM rfl rfl
    refine s_cons (tgt := 110) rfl ?_ ?_
    · refine e_aload_n (pc2 := 111) hM rfl rfl rfl ?_
      refine e_getfr (pc2 := 114) (k := 39) (b := 50) hM rfl rfl rfl rfl rfl ?_
      refine e_iload_n (pc2 := 115) hM rfl rfl rfl ?_
      refine e_iald (pc2 := 116) (k := 49) (V := fun j9 => (h1 49 j9)) hM rfl rfl rfl (fun _ => rfl) (fun j9 => ?_)
      exact e_iret hM rfl rfl
    refine s_cons (tgt := 117) rfl ?_ ?_
    · refine e_aload_n (pc2 := 118) hM rfl rfl rfl ?_
      refine e_getfr (pc2 := 121) (k := 39) (b := 51) hM rfl rfl rfl rfl rfl ?_
      refine e_iload_n (pc2 := 122) hM rfl rfl rfl ?_
      refine e_iald (pc2 := 123) (k := 50) (V := fun j8 => (h1 50 j8)) hM rfl rfl rfl (fun _ => rfl) (fun j8 => ?_)
      exact e_iret hM rfl rfl
    refine s_cons (tgt := 124) rfl ?_ ?_
    · refine e_aload_n (pc2 := 125) hM rfl rfl rfl ?_
      refine e_getfr (pc2 := 128) (k := 39) (b := 54) hM rfl rfl rfl rfl rfl ?_
      refine e_iload_n (pc2 := 129) hM rfl rfl rfl ?_
      refine e_bald (pc2 := 130) (k := 53) (V := fun j7 => (h1 53 j7)) hM rfl rfl rfl (fun _ => rfl) (fun j7 => ?_)
      refine e_if_eq (pc2 := 133) (tgt := 137) hM rfl rfl rfl ?_ ?_
      · refine e_iconst (pc2 := 138) (v := nI 0) hM rfl rfl rfl ?_
        exact e_iret hM rfl rfl
      · refine e_iconst (pc2 := 134) (v := nI 1) hM rfl rfl rfl ?_
        refine e_goto (tgt := 138) hM rfl rfl ?_
        exact e_iret hM rfl rfl
    refine s_cons (tgt := 139) rfl ?_ ?_
    · refine e_aload_n (pc2 := 140) hM rfl rfl rfl ?_
      refine e_iload_n (pc2 := 141) hM rfl rfl rfl ?_
      refine e_cvi (pc2 := 144) (k := 39) (As := [.ref 40, .int a0]) (rest := []) hM rfl rfl rfl rfl rfl rfl rfl (fun x6 h5 => ?_)
      refine e_if_eq (pc2 := 147) (tgt := 151) hM rfl rfl rfl ?_ ?_
      · refine e_iconst (pc2 := 152) (v := nI 0) hM rfl rfl rfl ?_
        exact e_iret hM rfl rfl
      · refine e_iconst (pc2 := 148) (v := nI 1) hM rfl rfl rfl ?_
        refine e_goto (tgt := 152) hM rfl rfl ?_
        exact e_iret hM rfl rfl
    refine s_nil (tgt := 153) rfl ?_
    refine e_aload_n (pc2 := 154) hM rfl rfl rfl ?_
    refine e_iconst (pc2 := 155) (v := nI 1) hM rfl rfl rfl ?_
    refine e_cvi (pc2 := 158) (k := 39) (As := [.ref 40, .int (nI 1)]) (rest := []) hM rfl rfl rfl rfl rfl rfl rfl (fun x4 h3 => ?_)
    exact e_iret hM rfl rfl
  · refine e_aload_n (pc2 := 9) hM rfl rfl rfl ?_
    refine e_iconst (pc2 := 10) (v := nI 1) hM rfl rfl rfl ?_
    refine e_cvi (pc2 := 13) (k := 39) (As := [.ref 40, .int (nI 1)]) (rest := []) hM rfl rfl rfl rfl rfl rfl rfl (fun x17 h16 => ?_)
    exact e_iret hM rfl rfl
theorem qX8_loadOf_0 {sl : Nat} {xs : Nat → Int32} {d : Nat} {a0 : Int32} {h : pmH} : pm_cf (pm_Ev sl xs) (d + 1) 108 [.ref 40, .int a0] (SH, h) = pm_ix none a0 24 fun j1 => pm_ix none a0 24 fun j2 => pm_ix none a0 24 fun j3 => if (h 43 j3) = (nI 2) then (some (some (.int (((h 48 j1) * (h 49 j2)) * (nI 2))), (SH, h))) else (some (some (.int (((h 48 j1) * (h 49 j2)) * (nI 1))), (SH, h))) := by
  have hM : pm_mt 108 = some mt_108 := rfl
  refine e_call (L := [some (.ref 40), some (.int a0)]) hM rfl rfl ?_
  refine e_aload_n (pc2 := 1) hM rfl rfl rfl ?_
  refine e_getfr (pc2 := 4) (k := 39) (b := 49) hM rfl rfl rfl rfl rfl ?_
  refine e_iload_n (pc2 := 5) hM rfl rfl rfl ?_
  refine e_iald (pc2 := 6) (k := 48) (V := fun j1 => (h 48 j1)) hM rfl rfl rfl (fun _ => rfl) (fun j1 => ?_)
  refine e_aload_n (pc2 := 7) hM rfl rfl rfl ?_
  refine e_getfr (pc2 := 10) (k := 39) (b := 50) hM rfl rfl rfl rfl rfl ?_
  refine e_iload_n (pc2 := 11) hM rfl rfl rfl ?_
  refine e_iald (pc2 := 12) (k := 49) (V := fun j2 => (h 49 j2)) hM rfl rfl rfl (fun _ => rfl) (fun j2 => ?_)
  refine e_imul (pc2 := 13) hM rfl rfl ?_
  refine e_aload_n (pc2 := 14) hM rfl rfl rfl ?_
  refine e_getfr (pc2 := 17) (k := 39) (b := 44) hM rfl rfl rfl rfl rfl ?_
  refine e_iload_n (pc2 := 18) hM rfl rfl rfl ?_
  refine e_iald (pc2 := 19) (k := 43) (V := fun j3 => (h 43 j3)) hM rfl rfl rfl (fun _ => rfl) (fun j3 => ?_)
  refine e_iconst (pc2 := 20) (v := nI 2) hM rfl rfl rfl ?_
  refine e_icmp_ne (pc2 := 23) (tgt := 27) hM rfl rfl rfl ?_ ?_
  · refine e_iconst (pc2 := 28) (v := nI 1) hM rfl rfl rfl ?_
    refine e_imul (pc2 := 29) hM rfl rfl ?_
    exact e_iret hM rfl rfl
  · refine e_iconst (pc2 := 24) (v := nI 2) hM rfl rfl rfl ?_
    refine e_goto (tgt := 28) hM rfl rfl ?_
    refine e_imul (pc2 := 29) hM rfl rfl ?_
    exact e_iret hM rfl rfl
theorem qX8_as_0 {sl : Nat} {xs : Nat → Int32} {d : Nat} {a0 a1 : Int32} {h : pmH} : pm_cf (pm_Ev sl xs) (d + 2) 109 [.ref 40, .int a0, .int a1] (SH, h) = pm_ri (pm_cf (pm_Ev sl xs) (d + 1) 97 [.ref 40, .int a0] (SH, h)) SH fun x2 h1 => if x2 = 0 then (pm_ri (pm_cf (pm_Ev sl xs) (d + 1) 96 [.ref 40, .int (nI 1)] (SH, h1)) SH fun x4 h3 => some (some (.int x4), (SH, h3))) else (pm_ri (pm_cf (pm_Ev sl xs) (d + 1) 95 [.int a1, .int (nI 0), .int (nI 2)] (SH, h1)) SH fun x6 h5 => if x6 = 0 then (pm_ri (pm_cf (pm_Ev sl xs) (d + 1) 96 [.ref 40, .int (nI 1)] (SH, h5)) SH fun x15 h14 => some (some (.int x15), (SH, h14))) else (if a1 = 0 then (pm_ri (pm_cf (pm_Ev sl xs) (d + 1) 108 [.ref 40, .int a0] (SH, h5)) SH fun x8 h7 => some (some (.int x8), (SH, h7))) else (pm_ix none a0 24 fun j9 => if a1 = (h5 43 j9) then (pm_ri (pm_cf (pm_Ev sl xs) (d + 1) 108 [.ref 40, .int a0] (SH, h5)) SH fun x13 h12 => some (some (.int x13), (SH, h12))) else (pm_ri (pm_cf (pm_Ev sl xs) (d + 1) 96 [.ref 40, .int (nI 5)] (SH, h5)) SH fun x11 h10 => some (some (.int x11), (SH, h10)))))) := by
  have hM : pm_mt 109 = some mt_109 := rfl
  refine e_call (L := [some (.ref 40), some (.int a0), some (.int a1)]) hM rfl rfl ?_
  refine e_aload_n (pc2 := 1) hM rfl rfl rfl ?_
  refine e_iload_n (pc2 := 2) hM rfl rfl rfl ?_
  refine e_cvi (pc2 := 5) (k := 39) (As := [.ref 40, .int a0]) (rest := []) hM rfl rfl rfl rfl rfl rfl rfl (fun x2 h1 => ?_)
  refine e_if_eq (pc2 := 8) (tgt := 17) hM rfl rfl rfl ?_ ?_
  · refine e_aload_n (pc2 := 18) hM rfl rfl rfl ?_
    refine e_iconst (pc2 := 19) (v := nI 1) hM rfl rfl rfl ?_
    refine e_cvi (pc2 := 22) (k := 39) (As := [.ref 40, .int (nI 1)]) (rest := []) hM rfl rfl rfl rfl rfl rfl rfl (fun x4 h3 => ?_)
    exact e_iret hM rfl rfl
  · refine e_iload_n (pc2 := 9) hM rfl rfl rfl ?_
    refine e_iconst (pc2 := 10) (v := nI 0) hM rfl rfl rfl ?_
    refine e_iconst (pc2 := 11) (v := nI 2) hM rfl rfl rfl ?_
    refine e_csi (pc2 := 14) (As := [.int a1, .int (nI 0), .int (nI 2)]) (rest := []) hM rfl rfl rfl rfl rfl rfl rfl (fun x6 h5 => ?_)
    refine e_if_ne (pc2 := 17) (tgt := 23) hM rfl rfl rfl ?_ ?_
    · refine e_iload_n (pc2 := 24) hM rfl rfl rfl ?_
      refine e_if_eq (pc2 := 27) (tgt := 37) hM rfl rfl rfl ?_ ?_
      · refine e_aload_n (pc2 := 38) hM rfl rfl rfl ?_
        refine e_iload_n (pc2 := 39) hM rfl rfl rfl ?_
        refine e_cvi (pc2 := 42) (k := 39) (As := [.ref 40, .int a0]) (rest := []) hM rfl rfl rfl rfl rfl rfl rfl (fun x8 h7 => ?_)
        refine e_goto (tgt := 50) hM rfl rfl ?_
        exact e_iret hM rfl rfl
      · refine e_iload_n (pc2 := 28) hM rfl rfl rfl ?_
        refine e_aload_n (pc2 := 29) hM rfl rfl rfl ?_
        refine e_getfr (pc2 := 32) (k := 39) (b := 44) hM rfl rfl rfl rfl rfl ?_
        refine e_iload_n (pc2 := 33) hM rfl rfl rfl ?_
        refine e_iald (pc2 := 34) (k := 43) (V := fun j9 => (h5 43 j9)) hM rfl rfl rfl (fun _ => rfl) (fun j9 => ?_)
        refine e_icmp_ne (pc2 := 37) (tgt := 45) hM rfl rfl rfl ?_ ?_
        · refine e_aload_n (pc2 := 46) hM rfl rfl rfl ?_
          refine e_iconst (pc2 := 47) (v := nI 5) hM rfl rfl rfl ?_
          refine e_cvi (pc2 := 50) (k := 39) (As := [.ref 40, .int (nI 5)]) (rest := []) hM rfl rfl rfl rfl rfl rfl rfl (fun x11 h10 => ?_)
          exact e_iret hM rfl rfl
        · refine e_aload_n (pc2 := 38) hM rfl rfl rfl ?_
          refine e_iload_n (pc2 := 39) hM rfl rfl rfl ?_
          refine e_cvi (pc2 := 42) (k := 39) (As := [.ref 40, .int a0]) (rest := []) hM rfl rfl rfl rfl rfl rfl rfl (fun x13 h12 => ?_)
          refine e_goto (tgt := 50) hM rfl rfl ?_
          exact e_iret hM rfl rfl
    · refine e_aload_n (pc2 := 18) hM rfl rfl rfl ?_
      refine e_iconst (pc2 := 19) (v := nI 1) hM rfl rfl rfl ?_
      refine e_cvi (pc2 := 22) (k := 39) (As := [.ref 40, .int (nI 1)]) (rest := []) hM rfl rfl rfl rfl rfl rfl rfl (fun x15 h14 => ?_)
      exact e_iret hM rfl rfl
theorem qX8_flow_0 {sl : Nat} {xs : Nat → Int32} {d : Nat} {h : pmH} : pm_cf (pm_Ev sl xs) (d + 2) 110 [.ref 40] (SH, h) = pm_Ev sl xs (d + 1) 110 2 [some (.ref 40), some (.int (nI 0))] [] (SH, h) := by
  have hM : pm_mt 110 = some mt_110 := rfl
  refine e_call (L := [some (.ref 40), none]) hM rfl rfl ?_
  refine e_iconst (pc2 := 1) (v := nI 0) hM rfl rfl rfl ?_
  refine e_istore_n (pc2 := 2) (L2 := [some (.ref 40), some (.int (nI 0))]) hM rfl rfl rfl rfl ?_
  exact rfl
theorem qX8_flow_2 {sl : Nat} {xs : Nat → Int32} {d : Nat} {b1 : Int32} {h : pmH} : pm_Ev sl xs (d + 1) 110 2 [some (.ref 40), some (.int b1)] [] (SH, h) = if (h 39 1) ≤ b1 then (pm_Ev sl xs (d + 1) 110 37 [some (.ref 40), some (.int ((h 39 1) - (nI 1)))] [] (SH, h)) else (pm_ix none b1 24 fun j1 => pm_ix none b1 24 fun j2 => pm_Ev sl xs (d + 1) 110 2 [some (.ref 40), some (.int (b1 + (nI 1)))] [] (SH, (pm_up (pm_up h 60 j1 (nI 0)) 61 j2 (nI 0)))) := by
  have hM : pm_mt 110 = some mt_110 := rfl
  refine e_iload_n (pc2 := 3) hM rfl rfl rfl ?_
  refine e_aload_n (pc2 := 4) hM rfl rfl rfl ?_
  refine e_getfi (pc2 := 7) (k := 39) (v := (h 39 1)) hM rfl rfl rfl rfl rfl rfl ?_
  refine e_icmp_ge (pc2 := 10) (tgt := 30) hM rfl rfl rfl ?_ ?_
  · refine e_aload_n (pc2 := 31) hM rfl rfl rfl ?_
    refine e_getfi (pc2 := 34) (k := 39) (v := (h 39 1)) hM rfl rfl rfl rfl rfl rfl ?_
    refine e_iconst (pc2 := 35) (v := nI 1) hM rfl rfl rfl ?_
    refine e_isub (pc2 := 36) hM rfl rfl ?_
    refine e_istore_n (pc2 := 37) (L2 := [some (.ref 40), some (.int ((h 39 1) - (nI 1)))]) hM rfl rfl rfl rfl ?_
    exact rfl
  · refine e_aload_n (pc2 := 11) hM rfl rfl rfl ?_
    refine e_getfr (pc2 := 14) (k := 39) (b := 61) hM rfl rfl rfl rfl rfl ?_
    refine e_iload_n (pc2 := 15) hM rfl rfl rfl ?_
    refine e_iconst (pc2 := 16) (v := nI 0) hM rfl rfl rfl ?_
    refine e_iast (pc2 := 17) (k := 60) hM rfl rfl rfl (fun j1 => ?_)
    refine e_aload_n (pc2 := 18) hM rfl rfl rfl ?_
    refine e_getfr (pc2 := 21) (k := 39) (b := 62) hM rfl rfl rfl rfl rfl ?_
    refine e_iload_n (pc2 := 22) hM rfl rfl rfl ?_
    refine e_iconst (pc2 := 23) (v := nI 0) hM rfl rfl rfl ?_
    refine e_iast (pc2 := 24) (k := 61) hM rfl rfl rfl (fun j2 => ?_)
    refine e_iinc (pc2 := 27) (v := nI 1) (L2 := [some (.ref 40), some (.int (b1 + (nI 1)))]) hM rfl rfl rfl rfl rfl ?_
    refine e_goto (tgt := 2) hM rfl rfl ?_
    exact rfl
theorem qX8_flow_37 {sl : Nat} {xs : Nat → Int32} {d : Nat} {b1 : Int32} {h : pmH} : pm_Ev sl xs (d + 1) 110 37 [some (.ref 40), some (.int b1)] [] (SH, h) = if b1 < 0 then (pm_Ev sl xs (d + 1) 110 145 [some (.ref 40), some (.int (nI 0))] [] (SH, h)) else (pm_ix none b1 24 fun j1 => pm_ri (pm_cf (pm_Ev sl xs) (d + 1) 108 [.ref 40, .int b1] (SH, h)) SH fun x3 h2 => pm_ix none b1 24 fun j4 => pm_ri (pm_cf (pm_Ev sl xs) (d + 1) 106 [.ref 40, .int b1] (SH, (pm_up h2 61 j4 ((h 61 j1) + x3)))) SH fun x6 h5 => if x6 = 0 then (pm_ix none b1 24 fun j7 => pm_ri (pm_cf (pm_Ev sl xs) (d + 1) 108 [.ref 40, .int b1] (SH, h5)) SH fun x9 h8 => pm_ix none b1 24 fun j10 => pm_ix none b1 24 fun j11 => if 0 ≤ (h8 44 j11) then (pm_ix none b1 24 fun j12 => pm_ix none (h8 44 j12) 24 fun j13 => pm_ix none b1 24 fun j14 => pm_ix none (h8 44 j12) 24 fun j15 => pm_ix none b1 24 fun j16 => pm_ix none (h8 44 j16) 24 fun j17 => pm_ix none b1 24 fun j18 => pm_ix none (h8 44 j16) 24 fun j19 => pm_Ev sl xs (d + 1) 110 37 [some (.ref 40), some (.int (b1 + (-nI 1)))] [] (SH, (pm_up (pm_up (pm_up h8 60 j10 ((h5 60 j7) + x9)) 61 j15 ((h8 61 j13) + (h8 61 j14))) 60 j19 (((upd (h8 60) j10 ((h5 60 j7) + x9)) j17) + ((upd (h8 60) j10 ((h5 60 j7) + x9)) j18))))) else (pm_Ev sl xs (d + 1) 110 37 [some (.ref 40), some (.int (b1 + (-nI 1)))] [] (SH, (pm_up h8 60 j10 ((h5 60 j7) + x9))))) else (pm_ix none b1 24 fun j20 => pm_ix none b1 24 fun j21 => if 0 ≤ (h5 44 j21) then (pm_ix none b1 24 fun j22 => pm_ix none (h5 44 j22) 24 fun j23 => pm_ix none b1 24 fun j24 => pm_ix none (h5 44 j22) 24 fun j25 => pm_ix none b1 24 fun j26 => pm_ix none (h5 44 j26) 24 fun j27 => pm_ix none b1 24 fun j28 => pm_ix none (h5 44 j26) 24 fun j29 => pm_Ev sl xs (d + 1) 110 37 [some (.ref 40), some (.int (b1 + (-nI 1)))] [] (SH, (pm_up (pm_up (pm_up h5 60 j20 (nI 0)) 61 j25 ((h5 61 j23) + (h5 61 j24))) 60 j29 (((upd (h5 60) j20 (nI 0)) j27) + ((upd (h5 60) j20 (nI 0)) j28))))) else (pm_Ev sl xs (d + 1) 110 37 [some (.ref 40), some (.int (b1 + (-nI 1)))] [] (SH, (pm_up h5 60 j20 (nI 0)))))) := by
  have hM : pm_mt 110 = some mt_110 := rfl
  refine e_iload_n (pc2 := 38) hM rfl rfl rfl ?_
  refine e_if_lt (pc2 := 41) (tgt := 143) hM rfl rfl rfl ?_ ?_
  · refine e_iconst (pc2 := 144) (v := nI 0) hM rfl rfl rfl ?_
    refine e_istore_n (pc2 := 145) (L2 := [some (.ref 40), some (.int (nI 0))]) hM rfl rfl rfl rfl ?_
    exact rfl
  · refine e_aload_n (pc2 := 42) hM rfl rfl rfl ?_
    refine e_getfr (pc2 := 45) (k := 39) (b := 62) hM rfl rfl rfl rfl rfl ?_
    refine e_iload_n (pc2 := 46) hM rfl rfl rfl ?_
    refine e_dup2 (pc2 := 47) hM rfl rfl rfl rfl ?_
    refine e_iald (pc2 := 48) (k := 61) (V := fun j1 => (h 61 j1)) hM rfl rfl rfl (fun _ => rfl) (fun j1 => ?_)
    refine e_aload_n (pc2 := 49) hM rfl rfl rfl ?_
    refine e_iload_n (pc2 := 50) hM rfl rfl rfl ?_
    refine e_cvi (pc2 := 53) (k := 39) (As := [.ref 40, .int b1]) (rest := [.int (h 61 j1), .int b1, .ref 62]) hM rfl rfl rfl rfl rfl rfl rfl (fun x3 h2 => ?_)
    refine e_iadd (pc2 := 54) hM rfl rfl ?_
    refine e_iast (pc2 := 55) (k := 61) hM rfl rfl rfl (fun j4 => ?_)
    refine e_aload_n (pc2 := 56) hM rfl rfl rfl ?_
    refine e_getfr (pc2 := 59) (k := 39) (b := 61) hM rfl rfl rfl rfl rfl ?_
    refine e_iload_n (pc2 := 60) hM rfl rfl rfl ?_
    refine e_aload_n (pc2 := 61) hM rfl rfl rfl ?_
    refine e_iload_n (pc2 := 62) hM rfl rfl rfl ?_
    refine e_cvi (pc2 := 65) (k := 39) (As := [.ref 40, .int b1]) (rest := [.int b1, .ref 61]) hM rfl rfl rfl rfl rfl rfl rfl (fun x6 h5 => ?_)
    refine e_if_eq (pc2 := 68) (tgt := 72) hM rfl rfl rfl ?_ ?_
    · refine e_aload_n (pc2 := 73) hM rfl rfl rfl ?_
      refine e_getfr (pc2 := 76) (k := 39) (b := 61) hM rfl rfl rfl rfl rfl ?_
      refine e_iload_n (pc2 := 77) hM rfl rfl rfl ?_
      refine e_iald (pc2 := 78) (k := 60) (V := fun j7 => (h5 60 j7)) hM rfl rfl rfl (fun _ => rfl) (fun j7 => ?_)
      refine e_aload_n (pc2 := 79) hM rfl rfl rfl ?_
      refine e_iload_n (pc2 := 80) hM rfl rfl rfl ?_
      refine e_cvi (pc2 := 83) (k := 39) (As := [.ref 40, .int b1]) (rest := [.int (h5 60 j7), .int b1, .ref 61]) hM rfl rfl rfl rfl rfl rfl rfl (fun x9 h8 => ?_)
      refine e_iadd (pc2 := 84) hM rfl rfl ?_
      refine e_iast (pc2 := 85) (k := 60) hM rfl rfl rfl (fun j10 => ?_)
      refine e_aload_n (pc2 := 86) hM rfl rfl rfl ?_
      refine e_getfr (pc2 := 89) (k := 39) (b := 45) hM rfl rfl rfl rfl rfl ?_
      refine e_iload_n (pc2 := 90) hM rfl rfl rfl ?_
      refine e_iald (pc2 := 91) (k := 44) (V := fun j11 => (h8 44 j11)) hM rfl rfl rfl (fun _ => rfl) (fun j11 => ?_)
      refine e_if_ge (pc2 := 94) (tgt := 97) hM rfl rfl rfl ?_ ?_
      · refine e_aload_n (pc2 := 98) hM rfl rfl rfl ?_
        refine e_getfr (pc2 := 101) (k := 39) (b := 62) hM rfl rfl rfl rfl rfl ?_
        refine e_aload_n (pc2 := 102) hM rfl rfl rfl ?_
        refine e_getfr (pc2 := 105) (k := 39) (b := 45) hM rfl rfl rfl rfl rfl ?_
        refine e_iload_n (pc2 := 106) hM rfl rfl rfl ?_
        refine e_iald (pc2 := 107) (k := 44) (V := fun j12 => (h8 44 j12)) hM rfl rfl rfl (fun _ => rfl) (fun j12 => ?_)
        refine e_dup2 (pc2 := 108) hM rfl rfl rfl rfl ?_
        refine e_iald (pc2 := 109) (k := 61) (V := fun j13 => (h8 61 j13)) hM rfl rfl rfl (fun _ => rfl) (fun j13 => ?_)
        refine e_aload_n (pc2 := 110) hM rfl rfl rfl ?_
        refine e_getfr (pc2 := 113) (k := 39) (b := 62) hM rfl rfl rfl rfl rfl ?_
        refine e_iload_n (pc2 := 114) hM rfl rfl rfl ?_
        refine e_iald (pc2 := 115) (k := 61) (V := fun j14 => (h8 61 j14)) hM rfl rfl rfl (fun _ => rfl) (fun j14 => ?_)
        refine e_iadd (pc2 := 116) hM rfl rfl ?_
        refine e_iast (pc2 := 117) (k := 61) hM rfl rfl rfl (fun j15 => ?_)
        refine e_aload_n (pc2 := 118) hM rfl rfl rfl ?_
        refine e_getfr (pc2 := 121) (k := 39) (b := 61) hM rfl rfl rfl rfl rfl ?_
        refine e_aload_n (pc2 := 122) hM rfl rfl rfl ?_
        refine e_getfr (pc2 := 125) (k := 39) (b := 45) hM rfl rfl rfl rfl rfl ?_
        refine e_iload_n (pc2 := 126) hM rfl rfl rfl ?_
        refine e_iald (pc2 := 127) (k := 44) (V := fun j16 => (h8 44 j16)) hM rfl rfl rfl (fun _ => rfl) (fun j16 => ?_)
        refine e_dup2 (pc2 := 128) hM rfl rfl rfl rfl ?_
        refine e_iald (pc2 := 129) (k := 60) (V := fun j17 => ((upd (h8 60) j10 ((h5 60 j7) + x9)) j17)) hM rfl rfl rfl (fun _ => rfl) (fun j17 => ?_)
        refine e_aload_n (pc2 := 130) hM rfl rfl rfl ?_
        refine e_getfr (pc2 := 133) (k := 39) (b := 61) hM rfl rfl rfl rfl rfl ?_
        refine e_iload_n (pc2 := 134) hM rfl rfl rfl ?_
        refine e_iald (pc2 := 135) (k := 60) (V := fun j18 => ((upd (h8 60) j10 ((h5 60 j7) + x9)) j18)) hM rfl rfl rfl (fun _ => rfl) (fun j18 => ?_)
        refine e_iadd (pc2 := 136) hM rfl rfl ?_
        refine e_iast (pc2 := 137) (k := 60) hM rfl rfl rfl (fun j19 => ?_)
        refine e_iinc (pc2 := 140) (v := -nI 1) (L2 := [some (.ref 40), some (.int (b1 + (-nI 1)))]) hM rfl rfl rfl rfl rfl ?_
        refine e_goto (tgt := 37) hM rfl rfl ?_
        exact rfl
      · refine e_goto (tgt := 137) hM rfl rfl ?_
        refine e_iinc (pc2 := 140) (v := -nI 1) (L2 := [some (.ref 40), some (.int (b1 + (-nI 1)))]) hM rfl rfl rfl rfl rfl ?_
        refine e_goto (tgt := 37) hM rfl rfl ?_
        exact rfl
    · refine e_iconst (pc2 := 69) (v := nI 0) hM rfl rfl rfl ?_
      refine e_goto (tgt := 84) hM rfl rfl ?_
      refine e_iast (pc2 := 85) (k := 60) hM rfl rfl rfl (fun j20 => ?_)
      refine e_aload_n (pc2 := 86) hM rfl rfl rfl ?_
      refine e_getfr (pc2 := 89) (k := 39) (b := 45) hM rfl rfl rfl rfl rfl ?_
      refine e_iload_n (pc2 := 90) hM rfl rfl rfl ?_
      refine e_iald (pc2 := 91) (k := 44) (V := fun j21 => (h5 44 j21)) hM rfl rfl rfl (fun _ => rfl) (fun j21 => ?_)
      refine e_if_ge (pc2 := 94) (tgt := 97) hM rfl rfl rfl ?_ ?_
      · refine e_aload_n (pc2 := 98) hM rfl rfl rfl ?_
        refine e_getfr (pc2 := 101) (k := 39) (b := 62) hM rfl rfl rfl rfl rfl ?_
        refine e_aload_n (pc2 := 102) hM rfl rfl rfl ?_
        refine e_getfr (pc2 := 105) (k := 39) (b := 45) hM rfl rfl rfl rfl rfl ?_
        refine e_iload_n (pc2 := 106) hM rfl rfl rfl ?_
        refine e_iald (pc2 := 107) (k := 44) (V := fun j22 => (h5 44 j22)) hM rfl rfl rfl (fun _ => rfl) (fun j22 => ?_)
        refine e_dup2 (pc2 := 108) hM rfl rfl rfl rfl ?_
        refine e_iald (pc2 := 109) (k := 61) (V := fun j23 => (h5 61 j23)) hM rfl rfl rfl (fun _ => rfl) (fun j23 => ?_)
        refine e_aload_n (pc2 := 110) hM rfl rfl rfl ?_
        refine e_getfr (pc2 := 113) (k := 39) (b := 62) hM rfl rfl rfl rfl rfl ?_
        refine e_iload_n (pc2 := 114) hM rfl rfl rfl ?_
        refine e_iald (pc2 := 115) (k := 61) (V := fun j24 => (h5 61 j24)) hM rfl rfl rfl (fun _ => rfl) (fun j24 => ?_)
        refine e_iadd (pc2 := 116) hM rfl rfl ?_
        refine e_iast (pc2 := 117) (k := 61) hM rfl rfl rfl (fun j25 => ?_)
        refine e_aload_n (pc2 := 118) hM rfl rfl rfl ?_
        refine e_getfr (pc2 := 121) (k := 39) (b := 61) hM rfl rfl rfl rfl rfl ?_
        refine e_aload_n (pc2 := 122) hM rfl rfl rfl ?_
        refine e_getfr (pc2 := 125) (k := 39) (b := 45) hM rfl rfl rfl rfl rfl ?_
        refine e_iload_n (pc2 := 126) hM rfl rfl rfl ?_
        refine e_iald (pc2 := 127) (k := 44) (V := fun j26 => (h5 44 j26)) hM rfl rfl rfl (fun _ => rfl) (fun j26 => ?_)
        refine e_dup2 (pc2 := 128) hM rfl rfl rfl rfl ?_
        refine e_iald (pc2 := 129) (k := 60) (V := fun j27 => ((upd (h5 60) j20 (nI 0)) j27)) hM rfl rfl rfl (fun _ => rfl) (fun j27 => ?_)
        refine e_aload_n (pc2 := 130) hM rfl rfl rfl ?_
        refine e_getfr (pc2 := 133) (k := 39) (b := 61) hM rfl rfl rfl rfl rfl ?_
        refine e_iload_n (pc2 := 134) hM rfl rfl rfl ?_
        refine e_iald (pc2 := 135) (k := 60) (V := fun j28 => ((upd (h5 60) j20 (nI 0)) j28)) hM rfl rfl rfl (fun _ => rfl) (fun j28 => ?_)
        refine e_iadd (pc2 := 136) hM rfl rfl ?_
        refine e_iast (pc2 := 137) (k := 60) hM rfl rfl rfl (fun j29 => ?_)
        refine e_iinc (pc2 := 140) (v := -nI 1) (L2 := [some (.ref 40), some (.int (b1 + (-nI 1)))]) hM rfl rfl rfl rfl rfl ?_
        refine e_goto (tgt := 37) hM rfl rfl ?_
        exact rfl
      · refine e_goto (tgt := 137) hM rfl rfl ?_
        refine e_iinc (pc2 := 140) (v := -nI 1) (L2 := [some (.ref 40), some (.int (b1 + (-nI 1)))]) hM rfl rfl rfl rfl rfl ?_
        refine e_goto (tgt := 37) hM rfl rfl ?_
        exact rfl
theorem qX8_flow_145 {sl : Nat} {xs : Nat → Int32} {d : Nat} {b1 : Int32} {h : pmH} : pm_Ev sl xs (d + 1) 110 145 [some (.ref 40), some (.int b1)] [] (SH, h) = if (h 39 1) ≤ b1 then (some (none, (SH, h))) else (pm_ix none b1 24 fun j1 => if 0 ≤ (h 44 j1) then (pm_ix none b1 24 fun j2 => pm_ix none (h 44 j2) 24 fun j3 => pm_ix none b1 24 fun j4 => pm_ix none b1 24 fun j5 => pm_ix none b1 24 fun j6 => if (nI 10) * (h 47 j6) = 0 then none else (pm_ix none b1 24 fun j7 => pm_Ev sl xs (d + 1) 110 145 [some (.ref 40), some (.int (b1 + (nI 1)))] [] (SH, (pm_up h 62 j7 ((h 62 j3) + (((h 46 j4) * (h 61 j5)) / ((nI 10) * (h 47 j6)))))))) else (pm_ix none b1 24 fun j8 => pm_ix none b1 24 fun j9 => pm_ix none b1 24 fun j10 => if (nI 10) * (h 47 j10) = 0 then none else (pm_ix none b1 24 fun j11 => pm_Ev sl xs (d + 1) 110 145 [some (.ref 40), some (.int (b1 + (nI 1)))] [] (SH, (pm_up h 62 j11 ((nI 0) + (((h 46 j8) * (h 61 j9)) / ((nI 10) * (h 47 j10))))))))) := by
  have hM : pm_mt 110 = some mt_110 := rfl
  refine e_iload_n (pc2 := 146) hM rfl rfl rfl ?_
  refine e_aload_n (pc2 := 147) hM rfl rfl rfl ?_
  refine e_getfi (pc2 := 150) (k := 39) (v := (h 39 1)) hM rfl rfl rfl rfl rfl rfl ?_
  refine e_icmp_ge (pc2 := 153) (tgt := 213) hM rfl rfl rfl ?_ ?_
  · exact e_ret hM rfl rfl
  · refine e_aload_n (pc2 := 154) hM rfl rfl rfl ?_
    refine e_getfr (pc2 := 157) (k := 39) (b := 63) hM rfl rfl rfl rfl rfl ?_
    refine e_iload_n (pc2 := 158) hM rfl rfl rfl ?_
    refine e_aload_n (pc2 := 159) hM rfl rfl rfl ?_
    refine e_getfr (pc2 := 162) (k := 39) (b := 45) hM rfl rfl rfl rfl rfl ?_
    refine e_iload_n (pc2 := 163) hM rfl rfl rfl ?_
    refine e_iald (pc2 := 164) (k := 44) (V := fun j1 => (h 44 j1)) hM rfl rfl rfl (fun _ => rfl) (fun j1 => ?_)
    refine e_if_ge (pc2 := 167) (tgt := 171) hM rfl rfl rfl ?_ ?_
    · refine e_aload_n (pc2 := 172) hM rfl rfl rfl ?_
      refine e_getfr (pc2 := 175) (k := 39) (b := 63) hM rfl rfl rfl rfl rfl ?_
      refine e_aload_n (pc2 := 176) hM rfl rfl rfl ?_
      refine e_getfr (pc2 := 179) (k := 39) (b := 45) hM rfl rfl rfl rfl rfl ?_
      refine e_iload_n (pc2 := 180) hM rfl rfl rfl ?_
      refine e_iald (pc2 := 181) (k := 44) (V := fun j2 => (h 44 j2)) hM rfl rfl rfl (fun _ => rfl) (fun j2 => ?_)
      refine e_iald (pc2 := 182) (k := 62) (V := fun j3 => (h 62 j3)) hM rfl rfl rfl (fun _ => rfl) (fun j3 => ?_)
      refine e_aload_n (pc2 := 183) hM rfl rfl rfl ?_
      refine e_getfr (pc2 := 186) (k := 39) (b := 47) hM rfl rfl rfl rfl rfl ?_
      refine e_iload_n (pc2 := 187) hM rfl rfl rfl ?_
      refine e_iald (pc2 := 188) (k := 46) (V := fun j4 => (h 46 j4)) hM rfl rfl rfl (fun _ => rfl) (fun j4 => ?_)
      refine e_aload_n (pc2 := 189) hM rfl rfl rfl ?_
      refine e_getfr (pc2 := 192) (k := 39) (b := 62) hM rfl rfl rfl rfl rfl ?_
      refine e_iload_n (pc2 := 193) hM rfl rfl rfl ?_
      refine e_iald (pc2 := 194) (k := 61) (V := fun j5 => (h 61 j5)) hM rfl rfl rfl (fun _ => rfl) (fun j5 => ?_)
      refine e_imul (pc2 := 195) hM rfl rfl ?_
      refine e_bipush (pc2 := 197) (v := nI 10) hM rfl rfl rfl rfl ?_
      refine e_aload_n (pc2 := 198) hM rfl rfl rfl ?_
      refine e_getfr (pc2 := 201) (k := 39) (b := 48) hM rfl rfl rfl rfl rfl ?_
      refine e_iload_n (pc2 := 202) hM rfl rfl rfl ?_
      refine e_iald (pc2 := 203) (k := 47) (V := fun j6 => (h 47 j6)) hM rfl rfl rfl (fun _ => rfl) (fun j6 => ?_)
      refine e_imul (pc2 := 204) hM rfl rfl ?_
      refine e_idiv (pc2 := 205) hM rfl rfl ?_
      refine e_iadd (pc2 := 206) hM rfl rfl ?_
      refine e_iast (pc2 := 207) (k := 62) hM rfl rfl rfl (fun j7 => ?_)
      refine e_iinc (pc2 := 210) (v := nI 1) (L2 := [some (.ref 40), some (.int (b1 + (nI 1)))]) hM rfl rfl rfl rfl rfl ?_
      refine e_goto (tgt := 145) hM rfl rfl ?_
      exact rfl
    · refine e_iconst (pc2 := 168) (v := nI 0) hM rfl rfl rfl ?_
      refine e_goto (tgt := 182) hM rfl rfl ?_
      refine e_aload_n (pc2 := 183) hM rfl rfl rfl ?_
      refine e_getfr (pc2 := 186) (k := 39) (b := 47) hM rfl rfl rfl rfl rfl ?_
      refine e_iload_n (pc2 := 187) hM rfl rfl rfl ?_
      refine e_iald (pc2 := 188) (k := 46) (V := fun j8 => (h 46 j8)) hM rfl rfl rfl (fun _ => rfl) (fun j8 => ?_)
      refine e_aload_n (pc2 := 189) hM rfl rfl rfl ?_
      refine e_getfr (pc2 := 192) (k := 39) (b := 62) hM rfl rfl rfl rfl rfl ?_
      refine e_iload_n (pc2 := 193) hM rfl rfl rfl ?_
      refine e_iald (pc2 := 194) (k := 61) (V := fun j9 => (h 61 j9)) hM rfl rfl rfl (fun _ => rfl) (fun j9 => ?_)
      refine e_imul (pc2 := 195) hM rfl rfl ?_
      refine e_bipush (pc2 := 197) (v := nI 10) hM rfl rfl rfl rfl ?_
      refine e_aload_n (pc2 := 198) hM rfl rfl rfl ?_
      refine e_getfr (pc2 := 201) (k := 39) (b := 48) hM rfl rfl rfl rfl rfl ?_
      refine e_iload_n (pc2 := 202) hM rfl rfl rfl ?_
      refine e_iald (pc2 := 203) (k := 47) (V := fun j10 => (h 47 j10)) hM rfl rfl rfl (fun _ => rfl) (fun j10 => ?_)
      refine e_imul (pc2 := 204) hM rfl rfl ?_
      refine e_idiv (pc2 := 205) hM rfl rfl ?_
      refine e_iadd (pc2 := 206) hM rfl rfl ?_
      refine e_iast (pc2 := 207) (k := 62) hM rfl rfl rfl (fun j11 => ?_)
      refine e_iinc (pc2 := 210) (v := nI 1) (L2 := [some (.ref 40), some (.int (b1 + (nI 1)))]) hM rfl rfl rfl rfl rfl ?_
      refine e_goto (tgt := 145) hM rfl rfl ?_
      exact rfl
theorem qX8_bears_0 {sl : Nat} {xs : Nat → Int32} {d : Nat} {a0 : Int32} {h : pmH} : pm_cf (pm_Ev sl xs) (d + 1) 111 [.ref 40, .int a0] (SH, h) = pm_ix none a0 24 fun j1 => some (some (.int ((nI 500) * (h 47 j1))), (SH, h)) := by
  have hM : pm_mt 111 = some mt_111 := rfl
  refine e_call (L := [some (.ref 40), some (.int a0)]) hM rfl rfl ?_
  refine e_sipush (pc2 := 3) (v := nI 500) hM rfl rfl rfl rfl ?_
  refine e_aload_n (pc2 := 4) hM rfl rfl rfl ?_
  refine e_getfr (pc2 := 7) (k := 39) (b := 48) hM rfl rfl rfl rfl rfl ?_
  refine e_iload_n (pc2 := 8) hM rfl rfl rfl ?_
  refine e_iald (pc2 := 9) (k := 47) (V := fun j1 => (h 47 j1)) hM rfl rfl rfl (fun _ => rfl) (fun j1 => ?_)
  refine e_imul (pc2 := 10) hM rfl rfl ?_
  exact e_iret hM rfl rfl
theorem qX8_wrong_0 {sl : Nat} {xs : Nat → Int32} {d : Nat} {a0 : Int32} {h : pmH} : pm_cf (pm_Ev sl xs) (d + 2) 112 [.ref 40, .int a0] (SH, h) = pm_ix none a0 24 fun j1 => if (h 50 j1) ≤ 0 then (pm_ix none a0 24 fun j2 => if (h 43 j2) = (nI 1) then (pm_ix none a0 24 fun j7 => if (h 50 j7) = 0 then (some (some (.int (nI 2)), (SH, h))) else (pm_ix none a0 24 fun j8 => if (h 50 j8) ≤ (nI 500) then (pm_ix none a0 24 fun j9 => if (h 62 j9) ≤ (h 39 2) then (pm_ix none a0 24 fun j10 => pm_ri (pm_cf (pm_Ev sl xs) (d + 1) 111 [.ref 40, .int a0] (SH, h)) SH fun x12 h11 => if (h 50 j10) ≤ x12 then (pm_Ev sl xs (d + 1) 112 92 [some (.ref 40), some (.int a0), some (.int a0)] [] (SH, h11)) else (some (some (.int (nI 4)), (SH, h11)))) else (some (some (.int (nI 3)), (SH, h)))) else (some (some (.int (nI 2)), (SH, h))))) else (pm_ix none a0 24 fun j3 => if (h 62 j3) ≤ (h 39 2) then (pm_ix none a0 24 fun j4 => pm_ri (pm_cf (pm_Ev sl xs) (d + 1) 111 [.ref 40, .int a0] (SH, h)) SH fun x6 h5 => if (h 50 j4) ≤ x6 then (pm_Ev sl xs (d + 1) 112 92 [some (.ref 40), some (.int a0), some (.int a0)] [] (SH, h5)) else (some (some (.int (nI 4)), (SH, h5)))) else (some (some (.int (nI 3)), (SH, h))))) else (pm_ix none a0 24 fun j13 => pm_ix none a0 24 fun j14 => if (h 61 j13) ≤ (h 50 j14) then (pm_ix none a0 24 fun j15 => if (h 43 j15) = (nI 1) then (pm_ix none a0 24 fun j20 => if (h 50 j20) = 0 then (some (some (.int (nI 2)), (SH, h))) else (pm_ix none a0 24 fun j21 => if (h 50 j21) ≤ (nI 500) then (pm_ix none a0 24 fun j22 => if (h 62 j22) ≤ (h 39 2) then (pm_ix none a0 24 fun j23 => pm_ri (pm_cf (pm_Ev sl xs) (d + 1) 111 [.ref 40, .int a0] (SH, h)) SH fun x25 h24 => if (h 50 j23) ≤ x25 then (pm_Ev sl xs (d + 1) 112 92 [some (.ref 40), some (.int a0), some (.int a0)] [] (SH, h24)) else (some (some (.int (nI 4)), (SH, h24)))) else (some (some (.int (nI 3)), (SH, h)))) else (some (some (.int (nI 2)), (SH, h))))) else (pm_ix none a0 24 fun j16 => if (h 62 j16) ≤ (h 39 2) then (pm_ix none a0 24 fun j17 => pm_ri (pm_cf (pm_Ev sl xs) (d + 1) 111 [.ref 40, .int a0] (SH, h)) SH fun x19 h18 => if (h 50 j17) ≤ x19 then (pm_Ev sl xs (d + 1) 112 92 [some (.ref 40), some (.int a0), some (.int a0)] [] (SH, h18)) else (some (some (.int (nI 4)), (SH, h18)))) else (some (some (.int (nI 3)), (SH, h))))) else (some (some (.int (nI 1)), (SH, h)))) := by
  have hM : pm_mt 112 = some mt_112 := rfl
  refine e_call (L := [some (.ref 40), some (.int a0), none]) hM rfl rfl ?_
  refine e_aload_n (pc2 := 1) hM rfl rfl rfl ?_
  refine e_getfr (pc2 := 4) (k := 39) (b := 51) hM rfl rfl rfl rfl rfl ?_
  refine e_iload_n (pc2 := 5) hM rfl rfl rfl ?_
  refine e_iald (pc2 := 6) (k := 50) (V := fun j1 => (h 50 j1)) hM rfl rfl rfl (fun _ => rfl) (fun j1 => ?_)
  refine e_if_le (pc2 := 9) (tgt := 26) hM rfl rfl rfl ?_ ?_
  · refine e_aload_n (pc2 := 27) hM rfl rfl rfl ?_
    refine e_getfr (pc2 := 30) (k := 39) (b := 44) hM rfl rfl rfl rfl rfl ?_
    refine e_iload_n (pc2 := 31) hM rfl rfl rfl ?_
    refine e_iald (pc2 := 32) (k := 43) (V := fun j2 => (h 43 j2)) hM rfl rfl rfl (fun _ => rfl) (fun j2 => ?_)
    refine e_iconst (pc2 := 33) (v := nI 1) hM rfl rfl rfl ?_
    refine e_icmp_ne (pc2 := 36) (tgt := 59) hM rfl rfl rfl ?_ ?_
    · refine e_aload_n (pc2 := 60) hM rfl rfl rfl ?_
      refine e_getfr (pc2 := 63) (k := 39) (b := 63) hM rfl rfl rfl rfl rfl ?_
      refine e_iload_n (pc2 := 64) hM rfl rfl rfl ?_
      refine e_iald (pc2 := 65) (k := 62) (V := fun j3 => (h 62 j3)) hM rfl rfl rfl (fun _ => rfl) (fun j3 => ?_)
      refine e_aload_n (pc2 := 66) hM rfl rfl rfl ?_
      refine e_getfi (pc2 := 69) (k := 39) (v := (h 39 2)) hM rfl rfl rfl rfl rfl rfl ?_
      refine e_icmp_le (pc2 := 72) (tgt := 74) hM rfl rfl rfl ?_ ?_
      · refine e_aload_n (pc2 := 75) hM rfl rfl rfl ?_
        refine e_getfr (pc2 := 78) (k := 39) (b := 51) hM rfl rfl rfl rfl rfl ?_
        refine e_iload_n (pc2 := 79) hM rfl rfl rfl ?_
        refine e_iald (pc2 := 80) (k := 50) (V := fun j4 => (h 50 j4)) hM rfl rfl rfl (fun _ => rfl) (fun j4 => ?_)
        refine e_aload_n (pc2 := 81) hM rfl rfl rfl ?_
        refine e_iload_n (pc2 := 82) hM rfl rfl rfl ?_
        refine e_cvi (pc2 := 85) (k := 39) (As := [.ref 40, .int a0]) (rest := [.int (h 50 j4)]) hM rfl rfl rfl rfl rfl rfl rfl (fun x6 h5 => ?_)
        refine e_icmp_le (pc2 := 88) (tgt := 90) hM rfl rfl rfl ?_ ?_
        · refine e_iload_n (pc2 := 91) hM rfl rfl rfl ?_
          refine e_istore_n (pc2 := 92) (L2 := [some (.ref 40), some (.int a0), some (.int a0)]) hM rfl rfl rfl rfl ?_
          exact rfl
        · refine e_iconst (pc2 := 89) (v := nI 4) hM rfl rfl rfl ?_
          exact e_iret hM rfl rfl
      · refine e_iconst (pc2 := 73) (v := nI 3) hM rfl rfl rfl ?_
        exact e_iret hM rfl rfl
    · refine e_aload_n (pc2 := 37) hM rfl rfl rfl ?_
      refine e_getfr (pc2 := 40) (k := 39) (b := 51) hM rfl rfl rfl rfl rfl ?_
      refine e_iload_n (pc2 := 41) hM rfl rfl rfl ?_
      refine e_iald (pc2 := 42) (k := 50) (V := fun j7 => (h 50 j7)) hM rfl rfl rfl (fun _ => rfl) (fun j7 => ?_)
      refine e_if_eq (pc2 := 45) (tgt := 57) hM rfl rfl rfl ?_ ?_
      · refine e_iconst (pc2 := 58) (v := nI 2) hM rfl rfl rfl ?_
        exact e_iret hM rfl rfl
      · refine e_aload_n (pc2 := 46) hM rfl rfl rfl ?_
        refine e_getfr (pc2 := 49) (k := 39) (b := 51) hM rfl rfl rfl rfl rfl ?_
        refine e_iload_n (pc2 := 50) hM rfl rfl rfl ?_
        refine e_iald (pc2 := 51) (k := 50) (V := fun j8 => (h 50 j8)) hM rfl rfl rfl (fun _ => rfl) (fun j8 => ?_)
        refine e_sipush (pc2 := 54) (v := nI 500) hM rfl rfl rfl rfl ?_
        refine e_icmp_le (pc2 := 57) (tgt := 59) hM rfl rfl rfl ?_ ?_
        · refine e_aload_n (pc2 := 60) hM rfl rfl rfl ?_
          refine e_getfr (pc2 := 63) (k := 39) (b := 63) hM rfl rfl rfl rfl rfl ?_
          refine e_iload_n (pc2 := 64) hM rfl rfl rfl ?_
          refine e_iald (pc2 := 65) (k := 62) (V := fun j9 => (h 62 j9)) hM rfl rfl rfl (fun _ => rfl) (fun j9 => ?_)
          refine e_aload_n (pc2 := 66) hM rfl rfl rfl ?_
          refine e_getfi (pc2 := 69) (k := 39) (v := (h 39 2)) hM rfl rfl rfl rfl rfl rfl ?_
          refine e_icmp_le (pc2 := 72) (tgt := 74) hM rfl rfl rfl ?_ ?_
          · refine e_aload_n (pc2 := 75) hM rfl rfl rfl ?_
            refine e_getfr (pc2 := 78) (k := 39) (b := 51) hM rfl rfl rfl rfl rfl ?_
            refine e_iload_n (pc2 := 79) hM rfl rfl rfl ?_
            refine e_iald (pc2 := 80) (k := 50) (V := fun j10 => (h 50 j10)) hM rfl rfl rfl (fun _ => rfl) (fun j10 => ?_)
            refine e_aload_n (pc2 := 81) hM rfl rfl rfl ?_
            refine e_iload_n (pc2 := 82) hM rfl rfl rfl ?_
            refine e_cvi (pc2 := 85) (k := 39) (As := [.ref 40, .int a0]) (rest := [.int (h 50 j10)]) hM rfl rfl rfl rfl rfl rfl rfl (fun x12 h11 => ?_)
            refine e_icmp_le (pc2 := 88) (tgt := 90) hM rfl rfl rfl ?_ ?_
            · refine e_iload_n (pc2 := 91) hM rfl rfl rfl ?_
              refine e_istore_n (pc2 := 92) (L2 := [some (.ref 40), some (.int a0), some (.int a0)]) hM rfl rfl rfl rfl ?_
              exact rfl
            · refine e_iconst (pc2 := 89) (v := nI 4) hM rfl rfl rfl ?_
              exact e_iret hM rfl rfl
          · refine e_iconst (pc2 := 73) (v := nI 3) hM rfl rfl rfl ?_
            exact e_iret hM rfl rfl
        · refine e_iconst (pc2 := 58) (v := nI 2) hM rfl rfl rfl ?_
          exact e_iret hM rfl rfl
  · refine e_aload_n (pc2 := 10) hM rfl rfl rfl ?_
    refine e_getfr (pc2 := 13) (k := 39) (b := 62) hM rfl rfl rfl rfl rfl ?_
    refine e_iload_n (pc2 := 14) hM rfl rfl rfl ?_
    refine e_iald (pc2 := 15) (k := 61) (V := fun j13 => (h 61 j13)) hM rfl rfl rfl (fun _ => rfl) (fun j13 => ?_)
    refine e_aload_n (pc2 := 16) hM rfl rfl rfl ?_
    refine e_getfr (pc2 := 19) (k := 39) (b := 51) hM rfl rfl rfl rfl rfl ?_
    refine e_iload_n (pc2 := 20) hM rfl rfl rfl ?_
    refine e_iald (pc2 := 21) (k := 50) (V := fun j14 => (h 50 j14)) hM rfl rfl rfl (fun _ => rfl) (fun j14 => ?_)
    refine e_icmp_le (pc2 := 24) (tgt := 26) hM rfl rfl rfl ?_ ?_
    · refine e_aload_n (pc2 := 27) hM rfl rfl rfl ?_
      refine e_getfr (pc2 := 30) (k := 39) (b := 44) hM rfl rfl rfl rfl rfl ?_
      refine e_iload_n (pc2 := 31) hM rfl rfl rfl ?_
      refine e_iald (pc2 := 32) (k := 43) (V := fun j15 => (h 43 j15)) hM rfl rfl rfl (fun _ => rfl) (fun j15 => ?_)
      refine e_iconst (pc2 := 33) (v := nI 1) hM rfl rfl rfl ?_
      refine e_icmp_ne (pc2 := 36) (tgt := 59) hM rfl rfl rfl ?_ ?_
      · refine e_aload_n (pc2 := 60) hM rfl rfl rfl ?_
        refine e_getfr (pc2 := 63) (k := 39) (b := 63) hM rfl rfl rfl rfl rfl ?_
        refine e_iload_n (pc2 := 64) hM rfl rfl rfl ?_
        refine e_iald (pc2 := 65) (k := 62) (V := fun j16 => (h 62 j16)) hM rfl rfl rfl (fun _ => rfl) (fun j16 => ?_)
        refine e_aload_n (pc2 := 66) hM rfl rfl rfl ?_
        refine e_getfi (pc2 := 69) (k := 39) (v := (h 39 2)) hM rfl rfl rfl rfl rfl rfl ?_
        refine e_icmp_le (pc2 := 72) (tgt := 74) hM rfl rfl rfl ?_ ?_
        · refine e_aload_n (pc2 := 75) hM rfl rfl rfl ?_
          refine e_getfr (pc2 := 78) (k := 39) (b := 51) hM rfl rfl rfl rfl rfl ?_
          refine e_iload_n (pc2 := 79) hM rfl rfl rfl ?_
          refine e_iald (pc2 := 80) (k := 50) (V := fun j17 => (h 50 j17)) hM rfl rfl rfl (fun _ => rfl) (fun j17 => ?_)
          refine e_aload_n (pc2 := 81) hM rfl rfl rfl ?_
          refine e_iload_n (pc2 := 82) hM rfl rfl rfl ?_
          refine e_cvi (pc2 := 85) (k := 39) (As := [.ref 40, .int a0]) (rest := [.int (h 50 j17)]) hM rfl rfl rfl rfl rfl rfl rfl (fun x19 h18 => ?_)
          refine e_icmp_le (pc2 := 88) (tgt := 90) hM rfl rfl rfl ?_ ?_
          · refine e_iload_n (pc2 := 91) hM rfl rfl rfl ?_
            refine e_istore_n (pc2 := 92) (L2 := [some (.ref 40), some (.int a0), some (.int a0)]) hM rfl rfl rfl rfl ?_
            exact rfl
          · refine e_iconst (pc2 := 89) (v := nI 4) hM rfl rfl rfl ?_
            exact e_iret hM rfl rfl
        · refine e_iconst (pc2 := 73) (v := nI 3) hM rfl rfl rfl ?_
          exact e_iret hM rfl rfl
      · refine e_aload_n (pc2 := 37) hM rfl rfl rfl ?_
        refine e_getfr (pc2 := 40) (k := 39) (b := 51) hM rfl rfl rfl rfl rfl ?_
        refine e_iload_n (pc2 := 41) hM rfl rfl rfl ?_
        refine e_iald (pc2 := 42) (k := 50) (V := fun j20 => (h 50 j20)) hM rfl rfl rfl (fun _ => rfl) (fun j20 => ?_)
        refine e_if_eq (pc2 := 45) (tgt := 57) hM rfl rfl rfl ?_ ?_
        · refine e_iconst (pc2 := 58) (v := nI 2) hM rfl rfl rfl ?_
          exact e_iret hM rfl rfl
        · refine e_aload_n (pc2 := 46) hM rfl rfl rfl ?_
          refine e_getfr (pc2 := 49) (k := 39) (b := 51) hM rfl rfl rfl rfl rfl ?_
          refine e_iload_n (pc2 := 50) hM rfl rfl rfl ?_
          refine e_iald (pc2 := 51) (k := 50) (V := fun j21 => (h 50 j21)) hM rfl rfl rfl (fun _ => rfl) (fun j21 => ?_)
          refine e_sipush (pc2 := 54) (v := nI 500) hM rfl rfl rfl rfl ?_
          refine e_icmp_le (pc2 := 57) (tgt := 59) hM rfl rfl rfl ?_ ?_
          · refine e_aload_n (pc2 := 60) hM rfl rfl rfl ?_
            refine e_getfr (pc2 := 63) (k := 39) (b := 63) hM rfl rfl rfl rfl rfl ?_
            refine e_iload_n (pc2 := 64) hM rfl rfl rfl ?_
            refine e_iald (pc2 := 65) (k := 62) (V := fun j22 => (h 62 j22)) hM rfl rfl rfl (fun _ => rfl) (fun j22 => ?_)
            refine e_aload_n (pc2 := 66) hM rfl rfl rfl ?_
            refine e_getfi (pc2 := 69) (k := 39) (v := (h 39 2)) hM rfl rfl rfl rfl rfl rfl ?_
            refine e_icmp_le (pc2 := 72) (tgt := 74) hM rfl rfl rfl ?_ ?_
            · refine e_aload_n (pc2 := 75) hM rfl rfl rfl ?_
              refine e_getfr (pc2 := 78) (k := 39) (b := 51) hM rfl rfl rfl rfl rfl ?_
              refine e_iload_n (pc2 := 79) hM rfl rfl rfl ?_
              refine e_iald (pc2 := 80) (k := 50) (V := fun j23 => (h 50 j23)) hM rfl rfl rfl (fun _ => rfl) (fun j23 => ?_)
              refine e_aload_n (pc2 := 81) hM rfl rfl rfl ?_
              refine e_iload_n (pc2 := 82) hM rfl rfl rfl ?_
              refine e_cvi (pc2 := 85) (k := 39) (As := [.ref 40, .int a0]) (rest := [.int (h 50 j23)]) hM rfl rfl rfl rfl rfl rfl rfl (fun x25 h24 => ?_)
              refine e_icmp_le (pc2 := 88) (tgt := 90) hM rfl rfl rfl ?_ ?_
              · refine e_iload_n (pc2 := 91) hM rfl rfl rfl ?_
                refine e_istore_n (pc2 := 92) (L2 := [some (.ref 40), some (.int a0), some (.int a0)]) hM rfl rfl rfl rfl ?_
                exact rfl
              · refine e_iconst (pc2 := 89) (v := nI 4) hM rfl rfl rfl ?_
                exact e_iret hM rfl rfl
            · refine e_iconst (pc2 := 73) (v := nI 3) hM rfl rfl rfl ?_
              exact e_iret hM rfl rfl
          · refine e_iconst (pc2 := 58) (v := nI 2) hM rfl rfl rfl ?_
            exact e_iret hM rfl rfl
    · refine e_iconst (pc2 := 25) (v := nI 1) hM rfl rfl rfl ?_
      exact e_iret hM rfl rfl
theorem qX8_wrong_92 {sl : Nat} {xs : Nat → Int32} {d : Nat} {b1 b2 : Int32} {h : pmH} : pm_Ev sl xs (d + 1) 112 92 [some (.ref 40), some (.int b1), some (.int b2)] [] (SH, h) = if b2 < 0 then (if 0 ≤ b2 then (if b2 = b1 then (some (some (.int (nI 0)), (SH, h))) else (pm_ix none b2 24 fun j1 => pm_ri (pm_cf (pm_Ev sl xs) (d + 1) 111 [.ref 40, .int b1] (SH, h)) SH fun x3 h2 => if (h 50 j1) ≤ x3 then (some (some (.int (nI 0)), (SH, h2))) else (some (some (.int (nI 6)), (SH, h2))))) else (some (some (.int (nI 5)), (SH, h)))) else (pm_ix none b2 24 fun j4 => if (h 50 j4) = 0 then (pm_ix none b2 24 fun j8 => pm_Ev sl xs (d + 1) 112 92 [some (.ref 40), some (.int b1), some (.int (h 44 j8))] [] (SH, h)) else (if 0 ≤ b2 then (if b2 = b1 then (some (some (.int (nI 0)), (SH, h))) else (pm_ix none b2 24 fun j5 => pm_ri (pm_cf (pm_Ev sl xs) (d + 1) 111 [.ref 40, .int b1] (SH, h)) SH fun x7 h6 => if (h 50 j5) ≤ x7 then (some (some (.int (nI 0)), (SH, h6))) else (some (some (.int (nI 6)), (SH, h6))))) else (some (some (.int (nI 5)), (SH, h))))) := by
  have hM : pm_mt 112 = some mt_112 := rfl
  refine e_iload_n (pc2 := 93) hM rfl rfl rfl ?_
  refine e_if_lt (pc2 := 96) (tgt := 115) hM rfl rfl rfl ?_ ?_
  · refine e_iload_n (pc2 := 116) hM rfl rfl rfl ?_
    refine e_if_ge (pc2 := 119) (tgt := 121) hM rfl rfl rfl ?_ ?_
    · refine e_iload_n (pc2 := 122) hM rfl rfl rfl ?_
      refine e_iload_n (pc2 := 123) hM rfl rfl rfl ?_
      refine e_icmp_eq (pc2 := 126) (tgt := 145) hM rfl rfl rfl ?_ ?_
      · refine e_iconst (pc2 := 146) (v := nI 0) hM rfl rfl rfl ?_
        exact e_iret hM rfl rfl
      · refine e_aload_n (pc2 := 127) hM rfl rfl rfl ?_
        refine e_getfr (pc2 := 130) (k := 39) (b := 51) hM rfl rfl rfl rfl rfl ?_
        refine e_iload_n (pc2 := 131) hM rfl rfl rfl ?_
        refine e_iald (pc2 := 132) (k := 50) (V := fun j1 => (h 50 j1)) hM rfl rfl rfl (fun _ => rfl) (fun j1 => ?_)
        refine e_aload_n (pc2 := 133) hM rfl rfl rfl ?_
        refine e_iload_n (pc2 := 134) hM rfl rfl rfl ?_
        refine e_cvi (pc2 := 137) (k := 39) (As := [.ref 40, .int b1]) (rest := [.int (h 50 j1)]) hM rfl rfl rfl rfl rfl rfl rfl (fun x3 h2 => ?_)
        refine e_icmp_le (pc2 := 140) (tgt := 145) hM rfl rfl rfl ?_ ?_
        · refine e_iconst (pc2 := 146) (v := nI 0) hM rfl rfl rfl ?_
          exact e_iret hM rfl rfl
        · refine e_bipush (pc2 := 142) (v := nI 6) hM rfl rfl rfl rfl ?_
          refine e_goto (tgt := 146) hM rfl rfl ?_
          exact e_iret hM rfl rfl
    · refine e_iconst (pc2 := 120) (v := nI 5) hM rfl rfl rfl ?_
      exact e_iret hM rfl rfl
  · refine e_aload_n (pc2 := 97) hM rfl rfl rfl ?_
    refine e_getfr (pc2 := 100) (k := 39) (b := 51) hM rfl rfl rfl rfl rfl ?_
    refine e_iload_n (pc2 := 101) hM rfl rfl rfl ?_
    refine e_iald (pc2 := 102) (k := 50) (V := fun j4 => (h 50 j4)) hM rfl rfl rfl (fun _ => rfl) (fun j4 => ?_)
    refine e_if_ne (pc2 := 105) (tgt := 115) hM rfl rfl rfl ?_ ?_
    · refine e_iload_n (pc2 := 116) hM rfl rfl rfl ?_
      refine e_if_ge (pc2 := 119) (tgt := 121) hM rfl rfl rfl ?_ ?_
      · refine e_iload_n (pc2 := 122) hM rfl rfl rfl ?_
        refine e_iload_n (pc2 := 123) hM rfl rfl rfl ?_
        refine e_icmp_eq (pc2 := 126) (tgt := 145) hM rfl rfl rfl ?_ ?_
        · refine e_iconst (pc2 := 146) (v := nI 0) hM rfl rfl rfl ?_
          exact e_iret hM rfl rfl
        · refine e_aload_n (pc2 := 127) hM rfl rfl rfl ?_
          refine e_getfr (pc2 := 130) (k := 39) (b := 51) hM rfl rfl rfl rfl rfl ?_
          refine e_iload_n (pc2 := 131) hM rfl rfl rfl ?_
          refine e_iald (pc2 := 132) (k := 50) (V := fun j5 => (h 50 j5)) hM rfl rfl rfl (fun _ => rfl) (fun j5 => ?_)
          refine e_aload_n (pc2 := 133) hM rfl rfl rfl ?_
          refine e_iload_n (pc2 := 134) hM rfl rfl rfl ?_
          refine e_cvi (pc2 := 137) (k := 39) (As := [.ref 40, .int b1]) (rest := [.int (h 50 j5)]) hM rfl rfl rfl rfl rfl rfl rfl (fun x7 h6 => ?_)
          refine e_icmp_le (pc2 := 140) (tgt := 145) hM rfl rfl rfl ?_ ?_
          · refine e_iconst (pc2 := 146) (v := nI 0) hM rfl rfl rfl ?_
            exact e_iret hM rfl rfl
          · refine e_bipush (pc2 := 142) (v := nI 6) hM rfl rfl rfl rfl ?_
            refine e_goto (tgt := 146) hM rfl rfl ?_
            exact e_iret hM rfl rfl
      · refine e_iconst (pc2 := 120) (v := nI 5) hM rfl rfl rfl ?_
        exact e_iret hM rfl rfl
    · refine e_aload_n (pc2 := 106) hM rfl rfl rfl ?_
      refine e_getfr (pc2 := 109) (k := 39) (b := 45) hM rfl rfl rfl rfl rfl ?_
      refine e_iload_n (pc2 := 110) hM rfl rfl rfl ?_
      refine e_iald (pc2 := 111) (k := 44) (V := fun j8 => (h 44 j8)) hM rfl rfl rfl (fun _ => rfl) (fun j8 => ?_)
      refine e_istore_n (pc2 := 112) (L2 := [some (.ref 40), some (.int b1), some (.int (h 44 j8))]) hM rfl rfl rfl rfl ?_
      refine e_goto (tgt := 92) hM rfl rfl ?_
      exact rfl
theorem qX8_told_0 {sl : Nat} {xs : Nat → Int32} {d : Nat} {a0 a1 : Int32} {h : pmH} : pm_cf (pm_Ev sl xs) (d + 2) 113 [.ref 40, .int a0, .int a1] (SH, h) = pm_ri (pm_cf (pm_Ev sl xs) (d + 1) 97 [.ref 40, .int a0] (SH, h)) SH fun x2 h1 => if x2 = 0 then (pm_ri (pm_cf (pm_Ev sl xs) (d + 1) 96 [.ref 40, .int (nI 1)] (SH, h1)) SH fun x4 h3 => some (some (.int x4), (SH, h3))) else (pm_ri (pm_cf (pm_Ev sl xs) (d + 1) 95 [.int a1, .int (nI 0), .int (nI 3)] (SH, h1)) SH fun x6 h5 => if x6 = 0 then (pm_ri (pm_cf (pm_Ev sl xs) (d + 1) 96 [.ref 40, .int (nI 1)] (SH, h5)) SH fun x14 h13 => some (some (.int x14), (SH, h13))) else (pm_rv (pm_cf (pm_Ev sl xs) (d + 1) 110 [.ref 40] (SH, h5)) SH fun h7 => if a1 = 0 then (pm_ix none a0 24 fun j12 => some (some (.int (h7 60 j12)), (SH, h7))) else (if a1 = (nI 1) then (pm_ix none a0 24 fun j11 => some (some (.int (h7 61 j11)), (SH, h7))) else (if a1 = (nI 2) then (pm_ix none a0 24 fun j10 => some (some (.int (h7 62 j10)), (SH, h7))) else (pm_ri (pm_cf (pm_Ev sl xs) (d + 1) 112 [.ref 40, .int a0] (SH, h7)) SH fun x9 h8 => some (some (.int x9), (SH, h8))))))) := by
  have hM : pm_mt 113 = some mt_113 := rfl
  refine e_call (L := [some (.ref 40), some (.int a0), some (.int a1)]) hM rfl rfl ?_
  refine e_aload_n (pc2 := 1) hM rfl rfl rfl ?_
  refine e_iload_n (pc2 := 2) hM rfl rfl rfl ?_
  refine e_cvi (pc2 := 5) (k := 39) (As := [.ref 40, .int a0]) (rest := []) hM rfl rfl rfl rfl rfl rfl rfl (fun x2 h1 => ?_)
  refine e_if_eq (pc2 := 8) (tgt := 17) hM rfl rfl rfl ?_ ?_
  · refine e_aload_n (pc2 := 18) hM rfl rfl rfl ?_
    refine e_iconst (pc2 := 19) (v := nI 1) hM rfl rfl rfl ?_
    refine e_cvi (pc2 := 22) (k := 39) (As := [.ref 40, .int (nI 1)]) (rest := []) hM rfl rfl rfl rfl rfl rfl rfl (fun x4 h3 => ?_)
    exact e_iret hM rfl rfl
  · refine e_iload_n (pc2 := 9) hM rfl rfl rfl ?_
    refine e_iconst (pc2 := 10) (v := nI 0) hM rfl rfl rfl ?_
    refine e_iconst (pc2 := 11) (v := nI 3) hM rfl rfl rfl ?_
    refine e_csi (pc2 := 14) (As := [.int a1, .int (nI 0), .int (nI 3)]) (rest := []) hM rfl rfl rfl rfl rfl rfl rfl (fun x6 h5 => ?_)
    refine e_if_ne (pc2 := 17) (tgt := 23) hM rfl rfl rfl ?_ ?_
    · refine e_aload_n (pc2 := 24) hM rfl rfl rfl ?_
      refine e_cvv (pc2 := 27) (k := 39) (As := [.ref 40]) (rest := []) hM rfl rfl rfl rfl rfl rfl rfl (fun h7 => ?_)
      refine e_iload_n (pc2 := 28) hM rfl rfl rfl ?_
      refine e_if_ne (pc2 := 31) (tgt := 40) hM rfl rfl rfl ?_ ?_
      · refine e_iload_n (pc2 := 41) hM rfl rfl rfl ?_
        refine e_iconst (pc2 := 42) (v := nI 1) hM rfl rfl rfl ?_
        refine e_icmp_ne (pc2 := 45) (tgt := 54) hM rfl rfl rfl ?_ ?_
        · refine e_iload_n (pc2 := 55) hM rfl rfl rfl ?_
          refine e_iconst (pc2 := 56) (v := nI 2) hM rfl rfl rfl ?_
          refine e_icmp_ne (pc2 := 59) (tgt := 68) hM rfl rfl rfl ?_ ?_
          · refine e_aload_n (pc2 := 69) hM rfl rfl rfl ?_
            refine e_iload_n (pc2 := 70) hM rfl rfl rfl ?_
            refine e_cvi (pc2 := 73) (k := 39) (As := [.ref 40, .int a0]) (rest := []) hM rfl rfl rfl rfl rfl rfl rfl (fun x9 h8 => ?_)
            exact e_iret hM rfl rfl
          · refine e_aload_n (pc2 := 60) hM rfl rfl rfl ?_
            refine e_getfr (pc2 := 63) (k := 39) (b := 63) hM rfl rfl rfl rfl rfl ?_
            refine e_iload_n (pc2 := 64) hM rfl rfl rfl ?_
            refine e_iald (pc2 := 65) (k := 62) (V := fun j10 => (h7 62 j10)) hM rfl rfl rfl (fun _ => rfl) (fun j10 => ?_)
            refine e_goto (tgt := 73) hM rfl rfl ?_
            exact e_iret hM rfl rfl
        · refine e_aload_n (pc2 := 46) hM rfl rfl rfl ?_
          refine e_getfr (pc2 := 49) (k := 39) (b := 62) hM rfl rfl rfl rfl rfl ?_
          refine e_iload_n (pc2 := 50) hM rfl rfl rfl ?_
          refine e_iald (pc2 := 51) (k := 61) (V := fun j11 => (h7 61 j11)) hM rfl rfl rfl (fun _ => rfl) (fun j11 => ?_)
          refine e_goto (tgt := 73) hM rfl rfl ?_
          exact e_iret hM rfl rfl
      · refine e_aload_n (pc2 := 32) hM rfl rfl rfl ?_
        refine e_getfr (pc2 := 35) (k := 39) (b := 61) hM rfl rfl rfl rfl rfl ?_
        refine e_iload_n (pc2 := 36) hM rfl rfl rfl ?_
        refine e_iald (pc2 := 37) (k := 60) (V := fun j12 => (h7 60 j12)) hM rfl rfl rfl (fun _ => rfl) (fun j12 => ?_)
        refine e_goto (tgt := 73) hM rfl rfl ?_
        exact e_iret hM rfl rfl
    · refine e_aload_n (pc2 := 18) hM rfl rfl rfl ?_
      refine e_iconst (pc2 := 19) (v := nI 1) hM rfl rfl rfl ?_
      refine e_cvi (pc2 := 22) (k := 39) (As := [.ref 40, .int (nI 1)]) (rest := []) hM rfl rfl rfl rfl rfl rfl rfl (fun x14 h13 => ?_)
      exact e_iret hM rfl rfl
theorem qX8_most_0 {sl : Nat} {xs : Nat → Int32} {d : Nat} {a0 : Int32} {h : pmH} : pm_cf (pm_Ev sl xs) (d + 2) 114 [.ref 40, .int a0] (SH, h) = pm_ri (pm_cf (pm_Ev sl xs) (d + 1) 95 [.int a0, .int (nI 0), .int 100000] (SH, h)) SH fun x2 h1 => if x2 = 0 then (pm_ri (pm_cf (pm_Ev sl xs) (d + 1) 96 [.ref 40, .int (nI 1)] (SH, h1)) SH fun x4 h3 => some (some (.int x4), (SH, h3))) else (some (some (.int (h1 39 2)), (SH, (pm_up h1 39 2 a0)))) := by
  have hM : pm_mt 114 = some mt_114 := rfl
  refine e_call (L := [some (.ref 40), some (.int a0), none]) hM rfl rfl ?_
  refine e_iload_n (pc2 := 1) hM rfl rfl rfl ?_
  refine e_iconst (pc2 := 2) (v := nI 0) hM rfl rfl rfl ?_
  refine e_ldc (pc2 := 4) (v := 100000) hM rfl rfl rfl ?_
  refine e_csi (pc2 := 7) (As := [.int a0, .int (nI 0), .int 100000]) (rest := []) hM rfl rfl rfl rfl rfl rfl rfl (fun x2 h1 => ?_)
  refine e_if_ne (pc2 := 10) (tgt := 16) hM rfl rfl rfl ?_ ?_
  · refine e_aload_n (pc2 := 17) hM rfl rfl rfl ?_
    refine e_getfi (pc2 := 20) (k := 39) (v := (h1 39 2)) hM rfl rfl rfl rfl rfl rfl ?_
    refine e_istore_n (pc2 := 21) (L2 := [some (.ref 40), some (.int a0), some (.int (h1 39 2))]) hM rfl rfl rfl rfl ?_
    refine e_aload_n (pc2 := 22) hM rfl rfl rfl ?_
    refine e_iload_n (pc2 := 23) hM rfl rfl rfl ?_
    refine e_putf (pc2 := 26) (k := 39) hM rfl rfl rfl rfl rfl rfl ?_
    refine e_iload_n (pc2 := 27) hM rfl rfl rfl ?_
    exact e_iret hM rfl rfl
  · refine e_aload_n (pc2 := 11) hM rfl rfl rfl ?_
    refine e_iconst (pc2 := 12) (v := nI 1) hM rfl rfl rfl ?_
    refine e_cvi (pc2 := 15) (k := 39) (As := [.ref 40, .int (nI 1)]) (rest := []) hM rfl rfl rfl rfl rfl rfl rfl (fun x4 h3 => ?_)
    exact e_iret hM rfl rfl
theorem qX8_blow_0 {sl : Nat} {xs : Nat → Int32} {d : Nat} {h : pmH} : pm_cf (pm_Ev sl xs) (d + 2) 115 [.ref 40] (SH, h) = pm_Ev sl xs (d + 1) 115 4 [some (.ref 40), some (.int (nI 0)), some (.int (nI 1)), none] [] (SH, h) := by
  have hM : pm_mt 115 = some mt_115 := rfl
  refine e_call (L := [some (.ref 40), none, none, none]) hM rfl rfl ?_
  refine e_iconst (pc2 := 1) (v := nI 0) hM rfl rfl rfl ?_
  refine e_istore_n (pc2 := 2) (L2 := [some (.ref 40), some (.int (nI 0)), none, none]) hM rfl rfl rfl rfl ?_
  refine e_iconst (pc2 := 3) (v := nI 1) hM rfl rfl rfl ?_
  refine e_istore_n (pc2 := 4) (L2 := [some (.ref 40), some (.int (nI 0)), some (.int (nI 1)), none]) hM rfl rfl rfl rfl ?_
  exact rfl
theorem qX8_blow_4 {sl : Nat} {xs : Nat → Int32} {d : Nat} {b1 b2 : Int32} {o3 : Option Value} {h : pmH} : pm_Ev sl xs (d + 1) 115 4 [some (.ref 40), some (.int b1), some (.int b2), o3] [] (SH, h) = if b2 = 0 then (some (some (.int b1), (SH, h))) else (pm_rv (pm_cf (pm_Ev sl xs) (d + 1) 110 [.ref 40] (SH, h)) SH fun h1 => pm_Ev sl xs (d + 1) 115 19 [some (.ref 40), some (.int b1), some (.int b2), some (.int ((h1 39 1) - (nI 1)))] [] (SH, h1)) := by
  have hM : pm_mt 115 = some mt_115 := rfl
  refine e_iload_n (pc2 := 5) hM rfl rfl rfl ?_
  refine e_if_eq (pc2 := 8) (tgt := 78) hM rfl rfl rfl ?_ ?_
  · refine e_iload_n (pc2 := 79) hM rfl rfl rfl ?_
    exact e_iret hM rfl rfl
  · refine e_aload_n (pc2 := 9) hM rfl rfl rfl ?_
    refine e_cvv (pc2 := 12) (k := 39) (As := [.ref 40]) (rest := []) hM rfl rfl rfl rfl rfl rfl rfl (fun h1 => ?_)
    refine e_aload_n (pc2 := 13) hM rfl rfl rfl ?_
    refine e_getfi (pc2 := 16) (k := 39) (v := (h1 39 1)) hM rfl rfl rfl rfl rfl rfl ?_
    refine e_iconst (pc2 := 17) (v := nI 1) hM rfl rfl rfl ?_
    refine e_isub (pc2 := 18) hM rfl rfl ?_
    refine e_istore_n (pc2 := 19) (L2 := [some (.ref 40), some (.int b1), some (.int b2), some (.int ((h1 39 1) - (nI 1)))]) hM rfl rfl rfl rfl ?_
    exact rfl
theorem qX8_blow_19 {sl : Nat} {xs : Nat → Int32} {d : Nat} {b1 b2 b3 : Int32} {h : pmH} : pm_Ev sl xs (d + 1) 115 19 [some (.ref 40), some (.int b1), some (.int b2), some (.int b3)] [] (SH, h) = if b3 < 0 then (if b3 < 0 then (if (nI 0) = 0 then (pm_Ev sl xs (d + 1) 115 4 [some (.ref 40), some (.int b1), some (.int (nI 0)), some (.int b3)] [] (SH, h)) else (pm_rv (pm_cf (pm_Ev sl xs) (d + 1) 104 [.ref 40, .int b3] (SH, h)) SH fun h1 => pm_Ev sl xs (d + 1) 115 4 [some (.ref 40), some (.int (b1 + (nI 1))), some (.int (nI 0)), some (.int b3)] [] (SH, h1))) else (if (nI 1) = 0 then (pm_Ev sl xs (d + 1) 115 4 [some (.ref 40), some (.int b1), some (.int (nI 1)), some (.int b3)] [] (SH, h)) else (pm_rv (pm_cf (pm_Ev sl xs) (d + 1) 104 [.ref 40, .int b3] (SH, h)) SH fun h2 => pm_Ev sl xs (d + 1) 115 4 [some (.ref 40), some (.int (b1 + (nI 1))), some (.int (nI 1)), some (.int b3)] [] (SH, h2)))) else (pm_ix none b3 24 fun j3 => if (h 50 j3) = 0 then (pm_Ev sl xs (d + 1) 115 19 [some (.ref 40), some (.int b1), some (.int b2), some (.int (b3 + (-nI 1)))] [] (SH, h)) else (pm_ix none b3 24 fun j4 => pm_ix none b3 24 fun j5 => if (h 50 j4) < (h 60 j5) then (if b3 < 0 then (if (nI 0) = 0 then (pm_Ev sl xs (d + 1) 115 4 [some (.ref 40), some (.int b1), some (.int (nI 0)), some (.int b3)] [] (SH, h)) else (pm_rv (pm_cf (pm_Ev sl xs) (d + 1) 104 [.ref 40, .int b3] (SH, h)) SH fun h6 => pm_Ev sl xs (d + 1) 115 4 [some (.ref 40), some (.int (b1 + (nI 1))), some (.int (nI 0)), some (.int b3)] [] (SH, h6))) else (if (nI 1) = 0 then (pm_Ev sl xs (d + 1) 115 4 [some (.ref 40), some (.int b1), some (.int (nI 1)), some (.int b3)] [] (SH, h)) else (pm_rv (pm_cf (pm_Ev sl xs) (d + 1) 104 [.ref 40, .int b3] (SH, h)) SH fun h7 => pm_Ev sl xs (d + 1) 115 4 [some (.ref 40), some (.int (b1 + (nI 1))), some (.int (nI 1)), some (.int b3)] [] (SH, h7)))) else (pm_Ev sl xs (d + 1) 115 19 [some (.ref 40), some (.int b1), some (.int b2), some (.int (b3 + (-nI 1)))] [] (SH, h)))) := by
  have hM : pm_mt 115 = some mt_115 := rfl
  refine e_iload_n (pc2 := 20) hM rfl rfl rfl ?_
  refine e_if_lt (pc2 := 23) (tgt := 53) hM rfl rfl rfl ?_ ?_
  · refine e_iload_n (pc2 := 54) hM rfl rfl rfl ?_
    refine e_if_lt (pc2 := 57) (tgt := 61) hM rfl rfl rfl ?_ ?_
    · refine e_iconst (pc2 := 62) (v := nI 0) hM rfl rfl rfl ?_
      refine e_istore_n (pc2 := 63) (L2 := [some (.ref 40), some (.int b1), some (.int (nI 0)), some (.int b3)]) hM rfl rfl rfl rfl ?_
      refine e_iload_n (pc2 := 64) hM rfl rfl rfl ?_
      refine e_if_eq (pc2 := 67) (tgt := 75) hM rfl rfl rfl ?_ ?_
      · refine e_goto (tgt := 4) hM rfl rfl ?_
        exact rfl
      · refine e_aload_n (pc2 := 68) hM rfl rfl rfl ?_
        refine e_iload_n (pc2 := 69) hM rfl rfl rfl ?_
        refine e_cvv (pc2 := 72) (k := 39) (As := [.ref 40, .int b3]) (rest := []) hM rfl rfl rfl rfl rfl rfl rfl (fun h1 => ?_)
        refine e_iinc (pc2 := 75) (v := nI 1) (L2 := [some (.ref 40), some (.int (b1 + (nI 1))), some (.int (nI 0)), some (.int b3)]) hM rfl rfl rfl rfl rfl ?_
        refine e_goto (tgt := 4) hM rfl rfl ?_
        exact rfl
    · refine e_iconst (pc2 := 58) (v := nI 1) hM rfl rfl rfl ?_
      refine e_goto (tgt := 62) hM rfl rfl ?_
      refine e_istore_n (pc2 := 63) (L2 := [some (.ref 40), some (.int b1), some (.int (nI 1)), some (.int b3)]) hM rfl rfl rfl rfl ?_
      refine e_iload_n (pc2 := 64) hM rfl rfl rfl ?_
      refine e_if_eq (pc2 := 67) (tgt := 75) hM rfl rfl rfl ?_ ?_
      · refine e_goto (tgt := 4) hM rfl rfl ?_
        exact rfl
      · refine e_aload_n (pc2 := 68) hM rfl rfl rfl ?_
        refine e_iload_n (pc2 := 69) hM rfl rfl rfl ?_
        refine e_cvv (pc2 := 72) (k := 39) (As := [.ref 40, .int b3]) (rest := []) hM rfl rfl rfl rfl rfl rfl rfl (fun h2 => ?_)
        refine e_iinc (pc2 := 75) (v := nI 1) (L2 := [some (.ref 40), some (.int (b1 + (nI 1))), some (.int (nI 1)), some (.int b3)]) hM rfl rfl rfl rfl rfl ?_
        refine e_goto (tgt := 4) hM rfl rfl ?_
        exact rfl
  · refine e_aload_n (pc2 := 24) hM rfl rfl rfl ?_
    refine e_getfr (pc2 := 27) (k := 39) (b := 51) hM rfl rfl rfl rfl rfl ?_
    refine e_iload_n (pc2 := 28) hM rfl rfl rfl ?_
    refine e_iald (pc2 := 29) (k := 50) (V := fun j3 => (h 50 j3)) hM rfl rfl rfl (fun _ => rfl) (fun j3 => ?_)
    refine e_if_eq (pc2 := 32) (tgt := 47) hM rfl rfl rfl ?_ ?_
    · refine e_iinc (pc2 := 50) (v := -nI 1) (L2 := [some (.ref 40), some (.int b1), some (.int b2), some (.int (b3 + (-nI 1)))]) hM rfl rfl rfl rfl rfl ?_
      refine e_goto (tgt := 19) hM rfl rfl ?_
      exact rfl
    · refine e_aload_n (pc2 := 33) hM rfl rfl rfl ?_
      refine e_getfr (pc2 := 36) (k := 39) (b := 51) hM rfl rfl rfl rfl rfl ?_
      refine e_iload_n (pc2 := 37) hM rfl rfl rfl ?_
      refine e_iald (pc2 := 38) (k := 50) (V := fun j4 => (h 50 j4)) hM rfl rfl rfl (fun _ => rfl) (fun j4 => ?_)
      refine e_aload_n (pc2 := 39) hM rfl rfl rfl ?_
      refine e_getfr (pc2 := 42) (k := 39) (b := 61) hM rfl rfl rfl rfl rfl ?_
      refine e_iload_n (pc2 := 43) hM rfl rfl rfl ?_
      refine e_iald (pc2 := 44) (k := 60) (V := fun j5 => (h 60 j5)) hM rfl rfl rfl (fun _ => rfl) (fun j5 => ?_)
      refine e_icmp_lt (pc2 := 47) (tgt := 53) hM rfl rfl rfl ?_ ?_
      · refine e_iload_n (pc2 := 54) hM rfl rfl rfl ?_
        refine e_if_lt (pc2 := 57) (tgt := 61) hM rfl rfl rfl ?_ ?_
        · refine e_iconst (pc2 := 62) (v := nI 0) hM rfl rfl rfl ?_
          refine e_istore_n (pc2 := 63) (L2 := [some (.ref 40), some (.int b1), some (.int (nI 0)), some (.int b3)]) hM rfl rfl rfl rfl ?_
          refine e_iload_n (pc2 := 64) hM rfl rfl rfl ?_
          refine e_if_eq (pc2 := 67) (tgt := 75) hM rfl rfl rfl ?_ ?_
          · refine e_goto (tgt := 4) hM rfl rfl ?_
            exact rfl
          · refine e_aload_n (pc2 := 68) hM rfl rfl rfl ?_
            refine e_iload_n (pc2 := 69) hM rfl rfl rfl ?_
            refine e_cvv (pc2 := 72) (k := 39) (As := [.ref 40, .int b3]) (rest := []) hM rfl rfl rfl rfl rfl rfl rfl (fun h6 => ?_)
            refine e_iinc (pc2 := 75) (v := nI 1) (L2 := [some (.ref 40), some (.int (b1 + (nI 1))), some (.int (nI 0)), some (.int b3)]) hM rfl rfl rfl rfl rfl ?_
            refine e_goto (tgt := 4) hM rfl rfl ?_
            exact rfl
        · refine e_iconst (pc2 := 58) (v := nI 1) hM rfl rfl rfl ?_
          refine e_goto (tgt := 62) hM rfl rfl ?_
          refine e_istore_n (pc2 := 63) (L2 := [some (.ref 40), some (.int b1), some (.int (nI 1)), some (.int b3)]) hM rfl rfl rfl rfl ?_
          refine e_iload_n (pc2 := 64) hM rfl rfl rfl ?_
          refine e_if_eq (pc2 := 67) (tgt := 75) hM rfl rfl rfl ?_ ?_
          · refine e_goto (tgt := 4) hM rfl rfl ?_
            exact rfl
          · refine e_aload_n (pc2 := 68) hM rfl rfl rfl ?_
            refine e_iload_n (pc2 := 69) hM rfl rfl rfl ?_
            refine e_cvv (pc2 := 72) (k := 39) (As := [.ref 40, .int b3]) (rest := []) hM rfl rfl rfl rfl rfl rfl rfl (fun h7 => ?_)
            refine e_iinc (pc2 := 75) (v := nI 1) (L2 := [some (.ref 40), some (.int (b1 + (nI 1))), some (.int (nI 1)), some (.int b3)]) hM rfl rfl rfl rfl rfl ?_
            refine e_goto (tgt := 4) hM rfl rfl ?_
            exact rfl
      · refine e_iinc (pc2 := 50) (v := -nI 1) (L2 := [some (.ref 40), some (.int b1), some (.int b2), some (.int (b3 + (-nI 1)))]) hM rfl rfl rfl rfl rfl ?_
        refine e_goto (tgt := 19) hM rfl rfl ?_
        exact rfl
theorem qX8_mayHave_0 {sl : Nat} {xs : Nat → Int32} {d : Nat} {a0 : Int32} {h : pmH} : pm_cf (pm_Ev sl xs) (d + 2) 116 [.ref 40, .int a0] (SH, h) = pm_ix none a0 24 fun j1 => if (h 64 j1) = (nI 2) then (some (some (.int (nI 0)), (SH, h))) else (pm_ix none a0 24 fun j2 => pm_ri (pm_cf (pm_Ev sl xs) (d + 1) 111 [.ref 40, .int a0] (SH, h)) SH fun x4 h3 => if x4 < (h 61 j2) then (some (some (.int (nI 0)), (SH, h3))) else (pm_ix none a0 24 fun j5 => if (h3 43 j5) = (nI 1) then (pm_ix none a0 24 fun j6 => if (nI 500) < (h3 61 j6) then (some (some (.int (nI 0)), (SH, h3))) else (some (some (.int (nI 1)), (SH, h3)))) else (some (some (.int (nI 1)), (SH, h3))))) := by
  have hM : pm_mt 116 = some mt_116 := rfl
  refine e_call (L := [some (.ref 40), some (.int a0)]) hM rfl rfl ?_
  refine e_aload_n (pc2 := 1) hM rfl rfl rfl ?_
  refine e_getfr (pc2 := 4) (k := 39) (b := 65) hM rfl rfl rfl rfl rfl ?_
  refine e_iload_n (pc2 := 5) hM rfl rfl rfl ?_
  refine e_iald (pc2 := 6) (k := 64) (V := fun j1 => (h 64 j1)) hM rfl rfl rfl (fun _ => rfl) (fun j1 => ?_)
  refine e_iconst (pc2 := 7) (v := nI 2) hM rfl rfl rfl ?_
  refine e_icmp_eq (pc2 := 10) (tgt := 50) hM rfl rfl rfl ?_ ?_
  · refine e_iconst (pc2 := 51) (v := nI 0) hM rfl rfl rfl ?_
    exact e_zret hM rfl rfl pm_01a
  · refine e_aload_n (pc2 := 11) hM rfl rfl rfl ?_
    refine e_getfr (pc2 := 14) (k := 39) (b := 62) hM rfl rfl rfl rfl rfl ?_
    refine e_iload_n (pc2 := 15) hM rfl rfl rfl ?_
    refine e_iald (pc2 := 16) (k := 61) (V := fun j2 => (h 61 j2)) hM rfl rfl rfl (fun _ => rfl) (fun j2 => ?_)
    refine e_aload_n (pc2 := 17) hM rfl rfl rfl ?_
    refine e_iload_n (pc2 := 18) hM rfl rfl rfl ?_
    refine e_cvi (pc2 := 21) (k := 39) (As := [.ref 40, .int a0]) (rest := [.int (h 61 j2)]) hM rfl rfl rfl rfl rfl rfl rfl (fun x4 h3 => ?_)
    refine e_icmp_gt (pc2 := 24) (tgt := 50) hM rfl rfl rfl ?_ ?_
    · refine e_iconst (pc2 := 51) (v := nI 0) hM rfl rfl rfl ?_
      exact e_zret hM rfl rfl pm_01a
    · refine e_aload_n (pc2 := 25) hM rfl rfl rfl ?_
      refine e_getfr (pc2 := 28) (k := 39) (b := 44) hM rfl rfl rfl rfl rfl ?_
      refine e_iload_n (pc2 := 29) hM rfl rfl rfl ?_
      refine e_iald (pc2 := 30) (k := 43) (V := fun j5 => (h3 43 j5)) hM rfl rfl rfl (fun _ => rfl) (fun j5 => ?_)
      refine e_iconst (pc2 := 31) (v := nI 1) hM rfl rfl rfl ?_
      refine e_icmp_ne (pc2 := 34) (tgt := 46) hM rfl rfl rfl ?_ ?_
      · refine e_iconst (pc2 := 47) (v := nI 1) hM rfl rfl rfl ?_
        refine e_goto (tgt := 51) hM rfl rfl ?_
        exact e_zret hM rfl rfl pm_01b
      · refine e_aload_n (pc2 := 35) hM rfl rfl rfl ?_
        refine e_getfr (pc2 := 38) (k := 39) (b := 62) hM rfl rfl rfl rfl rfl ?_
        refine e_iload_n (pc2 := 39) hM rfl rfl rfl ?_
        refine e_iald (pc2 := 40) (k := 61) (V := fun j6 => (h3 61 j6)) hM rfl rfl rfl (fun _ => rfl) (fun j6 => ?_)
        refine e_sipush (pc2 := 43) (v := nI 500) hM rfl rfl rfl rfl ?_
        refine e_icmp_gt (pc2 := 46) (tgt := 50) hM rfl rfl rfl ?_ ?_
        · refine e_iconst (pc2 := 51) (v := nI 0) hM rfl rfl rfl ?_
          exact e_zret hM rfl rfl pm_01a
        · refine e_iconst (pc2 := 47) (v := nI 1) hM rfl rfl rfl ?_
          refine e_goto (tgt := 51) hM rfl rfl ?_
          exact e_zret hM rfl rfl pm_01b
theorem qX8_mayLack_0 {sl : Nat} {xs : Nat → Int32} {d : Nat} {a0 a1 : Int32} {h : pmH} : pm_cf (pm_Ev sl xs) (d + 2) 117 [.ref 40, .int a0, .int a1] (SH, h) = pm_ix none a0 24 fun j1 => if (h 64 j1) = (nI 1) then (some (some (.int (nI 0)), (SH, h))) else (pm_ix none a0 24 fun j2 => if (h 43 j2) = (nI 1) then (some (some (.int (nI 0)), (SH, h))) else (if (nI 24) ≤ a1 then (some (some (.int (nI 0)), (SH, h))) else (pm_ix none a1 24 fun j3 => pm_ri (pm_cf (pm_Ev sl xs) (d + 1) 111 [.ref 40, .int a0] (SH, h)) SH fun x5 h4 => if x5 < (h 61 j3) then (some (some (.int (nI 0)), (SH, h4))) else (some (some (.int (nI 1)), (SH, h4)))))) := by
  have hM : pm_mt 117 = some mt_117 := rfl
  refine e_call (L := [some (.ref 40), some (.int a0), some (.int a1)]) hM rfl rfl ?_
  refine e_aload_n (pc2 := 1) hM rfl rfl rfl ?_
  refine e_getfr (pc2 := 4) (k := 39) (b := 65) hM rfl rfl rfl rfl rfl ?_
  refine e_iload_n (pc2 := 5) hM rfl rfl rfl ?_
  refine e_iald (pc2 := 6) (k := 64) (V := fun j1 => (h 64 j1)) hM rfl rfl rfl (fun _ => rfl) (fun j1 => ?_)
  refine e_iconst (pc2 := 7) (v := nI 1) hM rfl rfl rfl ?_
  refine e_icmp_eq (pc2 := 10) (tgt := 44) hM rfl rfl rfl ?_ ?_
  · refine e_iconst (pc2 := 45) (v := nI 0) hM rfl rfl rfl ?_
    exact e_zret hM rfl rfl pm_01a
  · refine e_aload_n (pc2 := 11) hM rfl rfl rfl ?_
    refine e_getfr (pc2 := 14) (k := 39) (b := 44) hM rfl rfl rfl rfl rfl ?_
    refine e_iload_n (pc2 := 15) hM rfl rfl rfl ?_
    refine e_iald (pc2 := 16) (k := 43) (V := fun j2 => (h 43 j2)) hM rfl rfl rfl (fun _ => rfl) (fun j2 => ?_)
    refine e_iconst (pc2 := 17) (v := nI 1) hM rfl rfl rfl ?_
    refine e_icmp_eq (pc2 := 20) (tgt := 44) hM rfl rfl rfl ?_ ?_
    · refine e_iconst (pc2 := 45) (v := nI 0) hM rfl rfl rfl ?_
      exact e_zret hM rfl rfl pm_01a
    · refine e_iload_n (pc2 := 21) hM rfl rfl rfl ?_
      refine e_bipush (pc2 := 23) (v := nI 24) hM rfl rfl rfl rfl ?_
      refine e_icmp_ge (pc2 := 26) (tgt := 44) hM rfl rfl rfl ?_ ?_
      · refine e_iconst (pc2 := 45) (v := nI 0) hM rfl rfl rfl ?_
        exact e_zret hM rfl rfl pm_01a
      · refine e_aload_n (pc2 := 27) hM rfl rfl rfl ?_
        refine e_getfr (pc2 := 30) (k := 39) (b := 62) hM rfl rfl rfl rfl rfl ?_
        refine e_iload_n (pc2 := 31) hM rfl rfl rfl ?_
        refine e_iald (pc2 := 32) (k := 61) (V := fun j3 => (h 61 j3)) hM rfl rfl rfl (fun _ => rfl) (fun j3 => ?_)
        refine e_aload_n (pc2 := 33) hM rfl rfl rfl ?_
        refine e_iload_n (pc2 := 34) hM rfl rfl rfl ?_
        refine e_cvi (pc2 := 37) (k := 39) (As := [.ref 40, .int a0]) (rest := [.int (h 61 j3)]) hM rfl rfl rfl rfl rfl rfl rfl (fun x5 h4 => ?_)
        refine e_icmp_gt (pc2 := 40) (tgt := 44) hM rfl rfl rfl ?_ ?_
        · refine e_iconst (pc2 := 45) (v := nI 0) hM rfl rfl rfl ?_
          exact e_zret hM rfl rfl pm_01a
        · refine e_iconst (pc2 := 41) (v := nI 1) hM rfl rfl rfl ?_
          refine e_goto (tgt := 45) hM rfl rfl ?_
          exact e_zret hM rfl rfl pm_01b
theorem qX8_few_0 {sl : Nat} {xs : Nat → Int32} {d : Nat} {h : pmH} : pm_cf (pm_Ev sl xs) (d + 2) 118 [.ref 40] (SH, h) = pm_Ev sl xs (d + 1) 118 2 [some (.ref 40), some (.int (nI 0)), none, none, none, none] [] (SH, h) := by
  have hM : pm_mt 118 = some mt_118 := rfl
  refine e_call (L := [some (.ref 40), none, none, none, none, none]) hM rfl rfl ?_
  refine e_iconst (pc2 := 1) (v := nI 0) hM rfl rfl rfl ?_
  refine e_istore_n (pc2 := 2) (L2 := [some (.ref 40), some (.int (nI 0)), none, none, none, none]) hM rfl rfl rfl rfl ?_
  exact rfl
theorem qX8_few_2 {sl : Nat} {xs : Nat → Int32} {d : Nat} {b1 : Int32} {o2 o3 o4 o5 : Option Value} {h : pmH} : pm_Ev sl xs (d + 1) 118 2 [some (.ref 40), some (.int b1), o2, o3, o4, o5] [] (SH, h) = if (nI 600) ≤ b1 then (pm_Ev sl xs (d + 1) 118 34 [some (.ref 40), some (.int ((h 39 1) - (nI 1))), o2, o3, o4, o5] [] (SH, (pm_up h 39 31 (nI 0)))) else (pm_ix none b1 600 fun j1 => pm_Ev sl xs (d + 1) 118 2 [some (.ref 40), some (.int (b1 + (nI 1))), o2, o3, o4, o5] [] (SH, (pm_up h 63 j1 (nI 0)))) := by
  have hM : pm_mt 118 = some mt_118 := rfl
  refine e_iload_n (pc2 := 3) hM rfl rfl rfl ?_
  refine e_sipush (pc2 := 6) (v := nI 600) hM rfl rfl rfl rfl ?_
  refine e_icmp_ge (pc2 := 9) (tgt := 22) hM rfl rfl rfl ?_ ?_
  · refine e_aload_n (pc2 := 23) hM rfl rfl rfl ?_
    refine e_iconst (pc2 := 24) (v := nI 0) hM rfl rfl rfl ?_
    refine e_putf (pc2 := 27) (k := 39) hM rfl rfl rfl rfl rfl rfl ?_
    refine e_aload_n (pc2 := 28) hM rfl rfl rfl ?_
    refine e_getfi (pc2 := 31) (k := 39) (v := (h 39 1)) hM rfl rfl rfl rfl rfl rfl ?_
    refine e_iconst (pc2 := 32) (v := nI 1) hM rfl rfl rfl ?_
    refine e_isub (pc2 := 33) hM rfl rfl ?_
    refine e_istore_n (pc2 := 34) (L2 := [some (.ref 40), some (.int ((h 39 1) - (nI 1))), o2, o3, o4, o5]) hM rfl rfl rfl rfl ?_
    exact rfl
  · refine e_aload_n (pc2 := 10) hM rfl rfl rfl ?_
    refine e_getfr (pc2 := 13) (k := 39) (b := 64) hM rfl rfl rfl rfl rfl ?_
    refine e_iload_n (pc2 := 14) hM rfl rfl rfl ?_
    refine e_iconst (pc2 := 15) (v := nI 0) hM rfl rfl rfl ?_
    refine e_iast (pc2 := 16) (k := 63) hM rfl rfl rfl (fun j1 => ?_)
    refine e_iinc (pc2 := 19) (v := nI 1) (L2 := [some (.ref 40), some (.int (b1 + (nI 1))), o2, o3, o4, o5]) hM rfl rfl rfl rfl rfl ?_
    refine e_goto (tgt := 2) hM rfl rfl ?_
    exact rfl
theorem qX8_few_34 {sl : Nat} {xs : Nat → Int32} {d : Nat} {b1 : Int32} {o2 o3 o4 o5 : Option Value} {h : pmH} : pm_Ev sl xs (d + 1) 118 34 [some (.ref 40), some (.int b1), o2, o3, o4, o5] [] (SH, h) = if b1 < 0 then (if (h 39 31) ≤ (nI 1000) then (some (some (.int (h 39 31)), (SH, h))) else (some (some (.int (nI 1000)), (SH, h)))) else (pm_ri (pm_cf (pm_Ev sl xs) (d + 1) 116 [.ref 40, .int b1] (SH, h)) SH fun x2 h1 => if x2 = 0 then (pm_ix none b1 24 fun j3 => if 0 ≤ (h1 44 j3) then (pm_Ev sl xs (d + 1) 118 90 [some (.ref 40), some (.int b1), some (.int (nI 1000)), some (.int (nI 0)), o4, o5] [] (SH, h1)) else (pm_Ev sl xs (d + 1) 118 34 [some (.ref 40), some (.int (b1 + (-nI 1))), some (.int (nI 1000)), o3, o4, o5] [] (SH, (pm_up h1 39 31 ((h1 39 31) + (nI 1000)))))) else (pm_ix none (((nI 25) * b1) + b1) 600 fun j4 => pm_ix none b1 24 fun j5 => if 0 ≤ (h1 44 j5) then (pm_Ev sl xs (d + 1) 118 90 [some (.ref 40), some (.int b1), some (.int ((nI 1) + (h1 63 j4))), some (.int (nI 0)), o4, o5] [] (SH, h1)) else (pm_Ev sl xs (d + 1) 118 34 [some (.ref 40), some (.int (b1 + (-nI 1))), some (.int ((nI 1) + (h1 63 j4))), o3, o4, o5] [] (SH, (pm_up h1 39 31 ((h1 39 31) + ((nI 1) + (h1 63 j4)))))))) := by
  have hM : pm_mt 118 = some mt_118 := rfl
  refine e_iload_n (pc2 := 35) hM rfl rfl rfl ?_
  refine e_if_lt (pc2 := 38) (tgt := 199) hM rfl rfl rfl ?_ ?_
  · refine e_aload_n (pc2 := 200) hM rfl rfl rfl ?_
    refine e_getfi (pc2 := 203) (k := 39) (v := (h 39 31)) hM rfl rfl rfl rfl rfl rfl ?_
    refine e_sipush (pc2 := 206) (v := nI 1000) hM rfl rfl rfl rfl ?_
    refine e_icmp_le (pc2 := 209) (tgt := 215) hM rfl rfl rfl ?_ ?_
    · refine e_aload_n (pc2 := 216) hM rfl rfl rfl ?_
      refine e_getfi (pc2 := 219) (k := 39) (v := (h 39 31)) hM rfl rfl rfl rfl rfl rfl ?_
      exact e_iret hM rfl rfl
    · refine e_sipush (pc2 := 212) (v := nI 1000) hM rfl rfl rfl rfl ?_
      refine e_goto (tgt := 219) hM rfl rfl ?_
      exact e_iret hM rfl rfl
  · refine e_aload_n (pc2 := 39) hM rfl rfl rfl ?_
    refine e_iload_n (pc2 := 40) hM rfl rfl rfl ?_
    refine e_cvi (pc2 := 43) (k := 39) (As := [.ref 40, .int b1]) (rest := []) hM rfl rfl rfl rfl rfl rfl rfl (fun x2 h1 => ?_)
    refine e_if_eq (pc2 := 46) (tgt := 62) hM rfl rfl rfl ?_ ?_
    · refine e_sipush (pc2 := 65) (v := nI 1000) hM rfl rfl rfl rfl ?_
      refine e_istore_n (pc2 := 66) (L2 := [some (.ref 40), some (.int b1), some (.int (nI 1000)), o3, o4, o5]) hM rfl rfl rfl rfl ?_
      refine e_aload_n (pc2 := 67) hM rfl rfl rfl ?_
      refine e_getfr (pc2 := 70) (k := 39) (b := 45) hM rfl rfl rfl rfl rfl ?_
      refine e_iload_n (pc2 := 71) hM rfl rfl rfl ?_
      refine e_iald (pc2 := 72) (k := 44) (V := fun j3 => (h1 44 j3)) hM rfl rfl rfl (fun _ => rfl) (fun j3 => ?_)
      refine e_if_ge (pc2 := 75) (tgt := 88) hM rfl rfl rfl ?_ ?_
      · refine e_iconst (pc2 := 89) (v := nI 0) hM rfl rfl rfl ?_
        refine e_istore_n (pc2 := 90) (L2 := [some (.ref 40), some (.int b1), some (.int (nI 1000)), some (.int (nI 0)), o4, o5]) hM rfl rfl rfl rfl ?_
        exact rfl
      · refine e_aload_n (pc2 := 76) hM rfl rfl rfl ?_
        refine e_dup (pc2 := 77) hM rfl rfl rfl ?_
        refine e_getfi (pc2 := 80) (k := 39) (v := (h1 39 31)) hM rfl rfl rfl rfl rfl rfl ?_
        refine e_iload_n (pc2 := 81) hM rfl rfl rfl ?_
        refine e_iadd (pc2 := 82) hM rfl rfl ?_
        refine e_putf (pc2 := 85) (k := 39) hM rfl rfl rfl rfl rfl rfl ?_
        refine e_goto (tgt := 193) hM rfl rfl ?_
        refine e_iinc (pc2 := 196) (v := -nI 1) (L2 := [some (.ref 40), some (.int (b1 + (-nI 1))), some (.int (nI 1000)), o3, o4, o5]) hM rfl rfl rfl rfl rfl ?_
        refine e_goto (tgt := 34) hM rfl rfl ?_
        exact rfl
    · refine e_iconst (pc2 := 47) (v := nI 1) hM rfl rfl rfl ?_
      refine e_aload_n (pc2 := 48) hM rfl rfl rfl ?_
      refine e_getfr (pc2 := 51) (k := 39) (b := 64) hM rfl rfl rfl rfl rfl ?_
      refine e_bipush (pc2 := 53) (v := nI 25) hM rfl rfl rfl rfl ?_
      refine e_iload_n (pc2 := 54) hM rfl rfl rfl ?_
      refine e_imul (pc2 := 55) hM rfl rfl ?_
      refine e_iload_n (pc2 := 56) hM rfl rfl rfl ?_
      refine e_iadd (pc2 := 57) hM rfl rfl ?_
      refine e_iald (pc2 := 58) (k := 63) (V := fun j4 => (h1 63 j4)) hM rfl rfl rfl (fun _ => rfl) (fun j4 => ?_)
      refine e_iadd (pc2 := 59) hM rfl rfl ?_
      refine e_goto (tgt := 65) hM rfl rfl ?_
      refine e_istore_n (pc2 := 66) (L2 := [some (.ref 40), some (.int b1), some (.int ((nI 1) + (h1 63 j4))), o3, o4, o5]) hM rfl rfl rfl rfl ?_
      refine e_aload_n (pc2 := 67) hM rfl rfl rfl ?_
      refine e_getfr (pc2 := 70) (k := 39) (b := 45) hM rfl rfl rfl rfl rfl ?_
      refine e_iload_n (pc2 := 71) hM rfl rfl rfl ?_
      refine e_iald (pc2 := 72) (k := 44) (V := fun j5 => (h1 44 j5)) hM rfl rfl rfl (fun _ => rfl) (fun j5 => ?_)
      refine e_if_ge (pc2 := 75) (tgt := 88) hM rfl rfl rfl ?_ ?_
      · refine e_iconst (pc2 := 89) (v := nI 0) hM rfl rfl rfl ?_
        refine e_istore_n (pc2 := 90) (L2 := [some (.ref 40), some (.int b1), some (.int ((nI 1) + (h1 63 j4))), some (.int (nI 0)), o4, o5]) hM rfl rfl rfl rfl ?_
        exact rfl
      · refine e_aload_n (pc2 := 76) hM rfl rfl rfl ?_
        refine e_dup (pc2 := 77) hM rfl rfl rfl ?_
        refine e_getfi (pc2 := 80) (k := 39) (v := (h1 39 31)) hM rfl rfl rfl rfl rfl rfl ?_
        refine e_iload_n (pc2 := 81) hM rfl rfl rfl ?_
        refine e_iadd (pc2 := 82) hM rfl rfl ?_
        refine e_putf (pc2 := 85) (k := 39) hM rfl rfl rfl rfl rfl rfl ?_
        refine e_goto (tgt := 193) hM rfl rfl ?_
        refine e_iinc (pc2 := 196) (v := -nI 1) (L2 := [some (.ref 40), some (.int (b1 + (-nI 1))), some (.int ((nI 1) + (h1 63 j4))), o3, o4, o5]) hM rfl rfl rfl rfl rfl ?_
        refine e_goto (tgt := 34) hM rfl rfl ?_
        exact rfl
theorem qX8_few_90 {sl : Nat} {xs : Nat → Int32} {d : Nat} {b1 b2 b3 : Int32} {o4 o5 : Option Value} {h : pmH} : pm_Ev sl xs (d + 1) 118 90 [some (.ref 40), some (.int b1), some (.int b2), some (.int b3), o4, o5] [] (SH, h) = if (nI 25) ≤ b3 then (pm_Ev sl xs (d + 1) 118 34 [some (.ref 40), some (.int (b1 + (-nI 1))), some (.int b2), some (.int b3), o4, o5] [] (SH, h)) else (pm_ri (pm_cf (pm_Ev sl xs) (d + 1) 117 [.ref 40, .int b1, .int b3] (SH, h)) SH fun x2 h1 => if x2 = 0 then (pm_ix none b1 24 fun j3 => pm_ix none (((nI 25) * (h1 44 j3)) + b3) 600 fun j4 => if (nI 1000) ≤ b2 then (pm_ix none b1 24 fun j5 => if ((h1 63 j4) + (nI 1000)) ≤ (nI 1000) then (pm_ix none (((nI 25) * (h1 44 j5)) + b3) 600 fun j6 => pm_Ev sl xs (d + 1) 118 90 [some (.ref 40), some (.int b1), some (.int b2), some (.int (b3 + (nI 1))), some (.int (nI 1000)), some (.int ((h1 63 j4) + (nI 1000)))] [] (SH, (pm_up h1 63 j6 ((h1 63 j4) + (nI 1000))))) else (pm_ix none (((nI 25) * (h1 44 j5)) + b3) 600 fun j7 => pm_Ev sl xs (d + 1) 118 90 [some (.ref 40), some (.int b1), some (.int b2), some (.int (b3 + (nI 1))), some (.int (nI 1000)), some (.int ((h1 63 j4) + (nI 1000)))] [] (SH, (pm_up h1 63 j7 (nI 1000))))) else (pm_ix none b1 24 fun j8 => if ((h1 63 j4) + b2) ≤ (nI 1000) then (pm_ix none (((nI 25) * (h1 44 j8)) + b3) 600 fun j9 => pm_Ev sl xs (d + 1) 118 90 [some (.ref 40), some (.int b1), some (.int b2), some (.int (b3 + (nI 1))), some (.int (nI 1000)), some (.int ((h1 63 j4) + b2))] [] (SH, (pm_up h1 63 j9 ((h1 63 j4) + b2)))) else (pm_ix none (((nI 25) * (h1 44 j8)) + b3) 600 fun j10 => pm_Ev sl xs (d + 1) 118 90 [some (.ref 40), some (.int b1), some (.int b2), some (.int (b3 + (nI 1))), some (.int (nI 1000)), some (.int ((h1 63 j4) + b2))] [] (SH, (pm_up h1 63 j10 (nI 1000)))))) else (pm_ix none (((nI 25) * b1) + b3) 600 fun j11 => pm_ix none b1 24 fun j12 => pm_ix none (((nI 25) * (h1 44 j12)) + b3) 600 fun j13 => if (h1 63 j11) ≤ b2 then (pm_ix none b1 24 fun j14 => if ((h1 63 j13) + (h1 63 j11)) ≤ (nI 1000) then (pm_ix none (((nI 25) * (h1 44 j14)) + b3) 600 fun j15 => pm_Ev sl xs (d + 1) 118 90 [some (.ref 40), some (.int b1), some (.int b2), some (.int (b3 + (nI 1))), some (.int (h1 63 j11)), some (.int ((h1 63 j13) + (h1 63 j11)))] [] (SH, (pm_up h1 63 j15 ((h1 63 j13) + (h1 63 j11))))) else (pm_ix none (((nI 25) * (h1 44 j14)) + b3) 600 fun j16 => pm_Ev sl xs (d + 1) 118 90 [some (.ref 40), some (.int b1), some (.int b2), some (.int (b3 + (nI 1))), some (.int (h1 63 j11)), some (.int ((h1 63 j13) + (h1 63 j11)))] [] (SH, (pm_up h1 63 j16 (nI 1000))))) else (pm_ix none b1 24 fun j17 => if ((h1 63 j13) + b2) ≤ (nI 1000) then (pm_ix none (((nI 25) * (h1 44 j17)) + b3) 600 fun j18 => pm_Ev sl xs (d + 1) 118 90 [some (.ref 40), some (.int b1), some (.int b2), some (.int (b3 + (nI 1))), some (.int (h1 63 j11)), some (.int ((h1 63 j13) + b2))] [] (SH, (pm_up h1 63 j18 ((h1 63 j13) + b2)))) else (pm_ix none (((nI 25) * (h1 44 j17)) + b3) 600 fun j19 => pm_Ev sl xs (d + 1) 118 90 [some (.ref 40), some (.int b1), some (.int b2), some (.int (b3 + (nI 1))), some (.int (h1 63 j11)), some (.int ((h1 63 j13) + b2))] [] (SH, (pm_up h1 63 j19 (nI 1000))))))) := by
  have hM : pm_mt 118 = some mt_118 := rfl
  refine e_iload_n (pc2 := 91) hM rfl rfl rfl ?_
  refine e_bipush (pc2 := 93) (v := nI 25) hM rfl rfl rfl rfl ?_
  refine e_icmp_ge (pc2 := 96) (tgt := 193) hM rfl rfl rfl ?_ ?_
  · refine e_iinc (pc2 := 196) (v := -nI 1) (L2 := [some (.ref 40), some (.int (b1 + (-nI 1))), some (.int b2), some (.int b3), o4, o5]) hM rfl rfl rfl rfl rfl ?_
    refine e_goto (tgt := 34) hM rfl rfl ?_
    exact rfl
  · refine e_aload_n (pc2 := 97) hM rfl rfl rfl ?_
    refine e_iload_n (pc2 := 98) hM rfl rfl rfl ?_
    refine e_iload_n (pc2 := 99) hM rfl rfl rfl ?_
    refine e_cvi (pc2 := 102) (k := 39) (As := [.ref 40, .int b1, .int b3]) (rest := []) hM rfl rfl rfl rfl rfl rfl rfl (fun x2 h1 => ?_)
    refine e_if_eq (pc2 := 105) (tgt := 119) hM rfl rfl rfl ?_ ?_
    · refine e_sipush (pc2 := 122) (v := nI 1000) hM rfl rfl rfl rfl ?_
      refine e_istore (pc2 := 124) (L2 := [some (.ref 40), some (.int b1), some (.int b2), some (.int b3), some (.int (nI 1000)), o5]) hM rfl rfl rfl rfl ?_
      refine e_aload_n (pc2 := 125) hM rfl rfl rfl ?_
      refine e_getfr (pc2 := 128) (k := 39) (b := 64) hM rfl rfl rfl rfl rfl ?_
      refine e_bipush (pc2 := 130) (v := nI 25) hM rfl rfl rfl rfl ?_
      refine e_aload_n (pc2 := 131) hM rfl rfl rfl ?_
      refine e_getfr (pc2 := 134) (k := 39) (b := 45) hM rfl rfl rfl rfl rfl ?_
      refine e_iload_n (pc2 := 135) hM rfl rfl rfl ?_
      refine e_iald (pc2 := 136) (k := 44) (V := fun j3 => (h1 44 j3)) hM rfl rfl rfl (fun _ => rfl) (fun j3 => ?_)
      refine e_imul (pc2 := 137) hM rfl rfl ?_
      refine e_iload_n (pc2 := 138) hM rfl rfl rfl ?_
      refine e_iadd (pc2 := 139) hM rfl rfl ?_
      refine e_iald (pc2 := 140) (k := 63) (V := fun j4 => (h1 63 j4)) hM rfl rfl rfl (fun _ => rfl) (fun j4 => ?_)
      refine e_iload_n (pc2 := 141) hM rfl rfl rfl ?_
      refine e_iload (pc2 := 143) hM rfl rfl rfl ?_
      refine e_icmp_ge (pc2 := 146) (tgt := 150) hM rfl rfl rfl ?_ ?_
      · refine e_iload (pc2 := 152) hM rfl rfl rfl ?_
        refine e_iadd (pc2 := 153) hM rfl rfl ?_
        refine e_istore (pc2 := 155) (L2 := [some (.ref 40), some (.int b1), some (.int b2), some (.int b3), some (.int (nI 1000)), some (.int ((h1 63 j4) + (nI 1000)))]) hM rfl rfl rfl rfl ?_
        refine e_aload_n (pc2 := 156) hM rfl rfl rfl ?_
        refine e_getfr (pc2 := 159) (k := 39) (b := 64) hM rfl rfl rfl rfl rfl ?_
        refine e_bipush (pc2 := 161) (v := nI 25) hM rfl rfl rfl rfl ?_
        refine e_aload_n (pc2 := 162) hM rfl rfl rfl ?_
        refine e_getfr (pc2 := 165) (k := 39) (b := 45) hM rfl rfl rfl rfl rfl ?_
        refine e_iload_n (pc2 := 166) hM rfl rfl rfl ?_
        refine e_iald (pc2 := 167) (k := 44) (V := fun j5 => (h1 44 j5)) hM rfl rfl rfl (fun _ => rfl) (fun j5 => ?_)
        refine e_imul (pc2 := 168) hM rfl rfl ?_
        refine e_iload_n (pc2 := 169) hM rfl rfl rfl ?_
        refine e_iadd (pc2 := 170) hM rfl rfl ?_
        refine e_iload (pc2 := 172) hM rfl rfl rfl ?_
        refine e_sipush (pc2 := 175) (v := nI 1000) hM rfl rfl rfl rfl ?_
        refine e_icmp_le (pc2 := 178) (tgt := 184) hM rfl rfl rfl ?_ ?_
        · refine e_iload (pc2 := 186) hM rfl rfl rfl ?_
          refine e_iast (pc2 := 187) (k := 63) hM rfl rfl rfl (fun j6 => ?_)
          refine e_iinc (pc2 := 190) (v := nI 1) (L2 := [some (.ref 40), some (.int b1), some (.int b2), some (.int (b3 + (nI 1))), some (.int (nI 1000)), some (.int ((h1 63 j4) + (nI 1000)))]) hM rfl rfl rfl rfl rfl ?_
          refine e_goto (tgt := 90) hM rfl rfl ?_
          exact rfl
        · refine e_sipush (pc2 := 181) (v := nI 1000) hM rfl rfl rfl rfl ?_
          refine e_goto (tgt := 186) hM rfl rfl ?_
          refine e_iast (pc2 := 187) (k := 63) hM rfl rfl rfl (fun j7 => ?_)
          refine e_iinc (pc2 := 190) (v := nI 1) (L2 := [some (.ref 40), some (.int b1), some (.int b2), some (.int (b3 + (nI 1))), some (.int (nI 1000)), some (.int ((h1 63 j4) + (nI 1000)))]) hM rfl rfl rfl rfl rfl ?_
          refine e_goto (tgt := 90) hM rfl rfl ?_
          exact rfl
      · refine e_iload_n (pc2 := 147) hM rfl rfl rfl ?_
        refine e_goto (tgt := 152) hM rfl rfl ?_
        refine e_iadd (pc2 := 153) hM rfl rfl ?_
        refine e_istore (pc2 := 155) (L2 := [some (.ref 40), some (.int b1), some (.int b2), some (.int b3), some (.int (nI 1000)), some (.int ((h1 63 j4) + b2))]) hM rfl rfl rfl rfl ?_
        refine e_aload_n (pc2 := 156) hM rfl rfl rfl ?_
        refine e_getfr (pc2 := 159) (k := 39) (b := 64) hM rfl rfl rfl rfl rfl ?_
        refine e_bipush (pc2 := 161) (v := nI 25) hM rfl rfl rfl rfl ?_
        refine e_aload_n (pc2 := 162) hM rfl rfl rfl ?_
        refine e_getfr (pc2 := 165) (k := 39) (b := 45) hM rfl rfl rfl rfl rfl ?_
        refine e_iload_n (pc2 := 166) hM rfl rfl rfl ?_
        refine e_iald (pc2 := 167) (k := 44) (V := fun j8 => (h1 44 j8)) hM rfl rfl rfl (fun _ => rfl) (fun j8 => ?_)
        refine e_imul (pc2 := 168) hM rfl rfl ?_
        refine e_iload_n (pc2 := 169) hM rfl rfl rfl ?_
        refine e_iadd (pc2 := 170) hM rfl rfl ?_
        refine e_iload (pc2 := 172) hM rfl rfl rfl ?_
        refine e_sipush (pc2 := 175) (v := nI 1000) hM rfl rfl rfl rfl ?_
        refine e_icmp_le (pc2 := 178) (tgt := 184) hM rfl rfl rfl ?_ ?_
        · refine e_iload (pc2 := 186) hM rfl rfl rfl ?_
          refine e_iast (pc2 := 187) (k := 63) hM rfl rfl rfl (fun j9 => ?_)
          refine e_iinc (pc2 := 190) (v := nI 1) (L2 := [some (.ref 40), some (.int b1), some (.int b2), some (.int (b3 + (nI 1))), some (.int (nI 1000)), some (.int ((h1 63 j4) + b2))]) hM rfl rfl rfl rfl rfl ?_
          refine e_goto (tgt := 90) hM rfl rfl ?_
          exact rfl
        · refine e_sipush (pc2 := 181) (v := nI 1000) hM rfl rfl rfl rfl ?_
          refine e_goto (tgt := 186) hM rfl rfl ?_
          refine e_iast (pc2 := 187) (k := 63) hM rfl rfl rfl (fun j10 => ?_)
          refine e_iinc (pc2 := 190) (v := nI 1) (L2 := [some (.ref 40), some (.int b1), some (.int b2), some (.int (b3 + (nI 1))), some (.int (nI 1000)), some (.int ((h1 63 j4) + b2))]) hM rfl rfl rfl rfl rfl ?_
          refine e_goto (tgt := 90) hM rfl rfl ?_
          exact rfl
    · refine e_aload_n (pc2 := 106) hM rfl rfl rfl ?_
      refine e_getfr (pc2 := 109) (k := 39) (b := 64) hM rfl rfl rfl rfl rfl ?_
      refine e_bipush (pc2 := 111) (v := nI 25) hM rfl rfl rfl rfl ?_
      refine e_iload_n (pc2 := 112) hM rfl rfl rfl ?_
      refine e_imul (pc2 := 113) hM rfl rfl ?_
      refine e_iload_n (pc2 := 114) hM rfl rfl rfl ?_
      refine e_iadd (pc2 := 115) hM rfl rfl ?_
      refine e_iald (pc2 := 116) (k := 63) (V := fun j11 => (h1 63 j11)) hM rfl rfl rfl (fun _ => rfl) (fun j11 => ?_)
      refine e_goto (tgt := 122) hM rfl rfl ?_
      refine e_istore (pc2 := 124) (L2 := [some (.ref 40), some (.int b1), some (.int b2), some (.int b3), some (.int (h1 63 j11)), o5]) hM rfl rfl rfl rfl ?_
      refine e_aload_n (pc2 := 125) hM rfl rfl rfl ?_
      refine e_getfr (pc2 := 128) (k := 39) (b := 64) hM rfl rfl rfl rfl rfl ?_
      refine e_bipush (pc2 := 130) (v := nI 25) hM rfl rfl rfl rfl ?_
      refine e_aload_n (pc2 := 131) hM rfl rfl rfl ?_
      refine e_getfr (pc2 := 134) (k := 39) (b := 45) hM rfl rfl rfl rfl rfl ?_
      refine e_iload_n (pc2 := 135) hM rfl rfl rfl ?_
      refine e_iald (pc2 := 136) (k := 44) (V := fun j12 => (h1 44 j12)) hM rfl rfl rfl (fun _ => rfl) (fun j12 => ?_)
      refine e_imul (pc2 := 137) hM rfl rfl ?_
      refine e_iload_n (pc2 := 138) hM rfl rfl rfl ?_
      refine e_iadd (pc2 := 139) hM rfl rfl ?_
      refine e_iald (pc2 := 140) (k := 63) (V := fun j13 => (h1 63 j13)) hM rfl rfl rfl (fun _ => rfl) (fun j13 => ?_)
      refine e_iload_n (pc2 := 141) hM rfl rfl rfl ?_
      refine e_iload (pc2 := 143) hM rfl rfl rfl ?_
      refine e_icmp_ge (pc2 := 146) (tgt := 150) hM rfl rfl rfl ?_ ?_
      · refine e_iload (pc2 := 152) hM rfl rfl rfl ?_
        refine e_iadd (pc2 := 153) hM rfl rfl ?_
        refine e_istore (pc2 := 155) (L2 := [some (.ref 40), some (.int b1), some (.int b2), some (.int b3), some (.int (h1 63 j11)), some (.int ((h1 63 j13) + (h1 63 j11)))]) hM rfl rfl rfl rfl ?_
        refine e_aload_n (pc2 := 156) hM rfl rfl rfl ?_
        refine e_getfr (pc2 := 159) (k := 39) (b := 64) hM rfl rfl rfl rfl rfl ?_
        refine e_bipush (pc2 := 161) (v := nI 25) hM rfl rfl rfl rfl ?_
        refine e_aload_n (pc2 := 162) hM rfl rfl rfl ?_
        refine e_getfr (pc2 := 165) (k := 39) (b := 45) hM rfl rfl rfl rfl rfl ?_
        refine e_iload_n (pc2 := 166) hM rfl rfl rfl ?_
        refine e_iald (pc2 := 167) (k := 44) (V := fun j14 => (h1 44 j14)) hM rfl rfl rfl (fun _ => rfl) (fun j14 => ?_)
        refine e_imul (pc2 := 168) hM rfl rfl ?_
        refine e_iload_n (pc2 := 169) hM rfl rfl rfl ?_
        refine e_iadd (pc2 := 170) hM rfl rfl ?_
        refine e_iload (pc2 := 172) hM rfl rfl rfl ?_
        refine e_sipush (pc2 := 175) (v := nI 1000) hM rfl rfl rfl rfl ?_
        refine e_icmp_le (pc2 := 178) (tgt := 184) hM rfl rfl rfl ?_ ?_
        · refine e_iload (pc2 := 186) hM rfl rfl rfl ?_
          refine e_iast (pc2 := 187) (k := 63) hM rfl rfl rfl (fun j15 => ?_)
          refine e_iinc (pc2 := 190) (v := nI 1) (L2 := [some (.ref 40), some (.int b1), some (.int b2), some (.int (b3 + (nI 1))), some (.int (h1 63 j11)), some (.int ((h1 63 j13) + (h1 63 j11)))]) hM rfl rfl rfl rfl rfl ?_
          refine e_goto (tgt := 90) hM rfl rfl ?_
          exact rfl
        · refine e_sipush (pc2 := 181) (v := nI 1000) hM rfl rfl rfl rfl ?_
          refine e_goto (tgt := 186) hM rfl rfl ?_
          refine e_iast (pc2 := 187) (k := 63) hM rfl rfl rfl (fun j16 => ?_)
          refine e_iinc (pc2 := 190) (v := nI 1) (L2 := [some (.ref 40), some (.int b1), some (.int b2), some (.int (b3 + (nI 1))), some (.int (h1 63 j11)), some (.int ((h1 63 j13) + (h1 63 j11)))]) hM rfl rfl rfl rfl rfl ?_
          refine e_goto (tgt := 90) hM rfl rfl ?_
          exact rfl
      · refine e_iload_n (pc2 := 147) hM rfl rfl rfl ?_
        refine e_goto (tgt := 152) hM rfl rfl ?_
        refine e_iadd (pc2 := 153) hM rfl rfl ?_
        refine e_istore (pc2 := 155) (L2 := [some (.ref 40), some (.int b1), some (.int b2), some (.int b3), some (.int (h1 63 j11)), some (.int ((h1 63 j13) + b2))]) hM rfl rfl rfl rfl ?_
        refine e_aload_n (pc2 := 156) hM rfl rfl rfl ?_
        refine e_getfr (pc2 := 159) (k := 39) (b := 64) hM rfl rfl rfl rfl rfl ?_
        refine e_bipush (pc2 := 161) (v := nI 25) hM rfl rfl rfl rfl ?_
        refine e_aload_n (pc2 := 162) hM rfl rfl rfl ?_
        refine e_getfr (pc2 := 165) (k := 39) (b := 45) hM rfl rfl rfl rfl rfl ?_
        refine e_iload_n (pc2 := 166) hM rfl rfl rfl ?_
        refine e_iald (pc2 := 167) (k := 44) (V := fun j17 => (h1 44 j17)) hM rfl rfl rfl (fun _ => rfl) (fun j17 => ?_)
        refine e_imul (pc2 := 168) hM rfl rfl ?_
        refine e_iload_n (pc2 := 169) hM rfl rfl rfl ?_
        refine e_iadd (pc2 := 170) hM rfl rfl ?_
        refine e_iload (pc2 := 172) hM rfl rfl rfl ?_
        refine e_sipush (pc2 := 175) (v := nI 1000) hM rfl rfl rfl rfl ?_
        refine e_icmp_le (pc2 := 178) (tgt := 184) hM rfl rfl rfl ?_ ?_
        · refine e_iload (pc2 := 186) hM rfl rfl rfl ?_
          refine e_iast (pc2 := 187) (k := 63) hM rfl rfl rfl (fun j18 => ?_)
          refine e_iinc (pc2 := 190) (v := nI 1) (L2 := [some (.ref 40), some (.int b1), some (.int b2), some (.int (b3 + (nI 1))), some (.int (h1 63 j11)), some (.int ((h1 63 j13) + b2))]) hM rfl rfl rfl rfl rfl ?_
          refine e_goto (tgt := 90) hM rfl rfl ?_
          exact rfl
        · refine e_sipush (pc2 := 181) (v := nI 1000) hM rfl rfl rfl rfl ?_
          refine e_goto (tgt := 186) hM rfl rfl ?_
          refine e_iast (pc2 := 187) (k := 63) hM rfl rfl rfl (fun j19 => ?_)
          refine e_iinc (pc2 := 190) (v := nI 1) (L2 := [some (.ref 40), some (.int b1), some (.int b2), some (.int (b3 + (nI 1))), some (.int (h1 63 j11)), some (.int ((h1 63 j13) + b2))]) hM rfl rfl rfl rfl rfl ?_
          refine e_goto (tgt := 90) hM rfl rfl ?_
          exact rfl
theorem qX8_bestSet_0 {sl : Nat} {xs : Nat → Int32} {d : Nat} {h : pmH} : pm_cf (pm_Ev sl xs) (d + 2) 119 [.ref 40] (SH, h) = pm_rv (pm_cf (pm_Ev sl xs) (d + 1) 110 [.ref 40] (SH, h)) SH fun h1 => pm_Ev sl xs (d + 1) 119 6 [some (.ref 40), some (.int (nI 0)), none, none] [] (SH, h1) := by
  have hM : pm_mt 119 = some mt_119 := rfl
  refine e_call (L := [some (.ref 40), none, none, none]) hM rfl rfl ?_
  refine e_aload_n (pc2 := 1) hM rfl rfl rfl ?_
  refine e_cvv (pc2 := 4) (k := 39) (As := [.ref 40]) (rest := []) hM rfl rfl rfl rfl rfl rfl rfl (fun h1 => ?_)
  refine e_iconst (pc2 := 5) (v := nI 0) hM rfl rfl rfl ?_
  refine e_istore_n (pc2 := 6) (L2 := [some (.ref 40), some (.int (nI 0)), none, none]) hM rfl rfl rfl rfl ?_
  exact rfl
theorem qX8_bestSet_6 {sl : Nat} {xs : Nat → Int32} {d : Nat} {b1 : Int32} {o2 o3 : Option Value} {h : pmH} : pm_Ev sl xs (d + 1) 119 6 [some (.ref 40), some (.int b1), o2, o3] [] (SH, h) = if (nI 24) ≤ b1 then (pm_ri (pm_cf (pm_Ev sl xs) (d + 1) 118 [.ref 40] (SH, h)) SH fun x2 h1 => if x2 < (nI 1000) then (pm_Ev sl xs (d + 1) 119 48 [some (.ref 40), some (.int x2), some (.int (nI 0)), some (.int ((h1 39 1) - (nI 1)))] [] (SH, h1)) else (some (some (.int (-nI 1)), (SH, h1)))) else (pm_ix none b1 24 fun j3 => pm_Ev sl xs (d + 1) 119 6 [some (.ref 40), some (.int (b1 + (nI 1))), o2, o3] [] (SH, (pm_up h 64 j3 (nI 0)))) := by
  have hM : pm_mt 119 = some mt_119 := rfl
  refine e_iload_n (pc2 := 7) hM rfl rfl rfl ?_
  refine e_bipush (pc2 := 9) (v := nI 24) hM rfl rfl rfl rfl ?_
  refine e_icmp_ge (pc2 := 12) (tgt := 25) hM rfl rfl rfl ?_ ?_
  · refine e_aload_n (pc2 := 26) hM rfl rfl rfl ?_
    refine e_cvi (pc2 := 29) (k := 39) (As := [.ref 40]) (rest := []) hM rfl rfl rfl rfl rfl rfl rfl (fun x2 h1 => ?_)
    refine e_istore_n (pc2 := 30) (L2 := [some (.ref 40), some (.int x2), o2, o3]) hM rfl rfl rfl rfl ?_
    refine e_iload_n (pc2 := 31) hM rfl rfl rfl ?_
    refine e_sipush (pc2 := 34) (v := nI 1000) hM rfl rfl rfl rfl ?_
    refine e_icmp_lt (pc2 := 37) (tgt := 39) hM rfl rfl rfl ?_ ?_
    · refine e_iconst (pc2 := 40) (v := nI 0) hM rfl rfl rfl ?_
      refine e_istore_n (pc2 := 41) (L2 := [some (.ref 40), some (.int x2), some (.int (nI 0)), o3]) hM rfl rfl rfl rfl ?_
      refine e_aload_n (pc2 := 42) hM rfl rfl rfl ?_
      refine e_getfi (pc2 := 45) (k := 39) (v := (h1 39 1)) hM rfl rfl rfl rfl rfl rfl ?_
      refine e_iconst (pc2 := 46) (v := nI 1) hM rfl rfl rfl ?_
      refine e_isub (pc2 := 47) hM rfl rfl ?_
      refine e_istore_n (pc2 := 48) (L2 := [some (.ref 40), some (.int x2), some (.int (nI 0)), some (.int ((h1 39 1) - (nI 1)))]) hM rfl rfl rfl rfl ?_
      exact rfl
    · refine e_iconst (pc2 := 38) (v := -nI 1) hM rfl rfl rfl ?_
      exact e_iret hM rfl rfl
  · refine e_aload_n (pc2 := 13) hM rfl rfl rfl ?_
    refine e_getfr (pc2 := 16) (k := 39) (b := 65) hM rfl rfl rfl rfl rfl ?_
    refine e_iload_n (pc2 := 17) hM rfl rfl rfl ?_
    refine e_iconst (pc2 := 18) (v := nI 0) hM rfl rfl rfl ?_
    refine e_iast (pc2 := 19) (k := 64) hM rfl rfl rfl (fun j3 => ?_)
    refine e_iinc (pc2 := 22) (v := nI 1) (L2 := [some (.ref 40), some (.int (b1 + (nI 1))), o2, o3]) hM rfl rfl rfl rfl rfl ?_
    refine e_goto (tgt := 6) hM rfl rfl ?_
    exact rfl
theorem qX8_bestSet_48 {sl : Nat} {xs : Nat → Int32} {d : Nat} {b1 b2 b3 : Int32} {h : pmH} : pm_Ev sl xs (d + 1) 119 48 [some (.ref 40), some (.int b1), some (.int b2), some (.int b3)] [] (SH, h) = if b3 < 0 then (some (some (.int b2), (SH, h))) else (pm_ix none b3 24 fun j1 => pm_ri (pm_cf (pm_Ev sl xs) (d + 1) 118 [.ref 40] (SH, (pm_up h 64 j1 (nI 2)))) SH fun x3 h2 => if x3 = b1 then (pm_Ev sl xs (d + 1) 119 48 [some (.ref 40), some (.int b1), some (.int b2), some (.int (b3 + (-nI 1)))] [] (SH, h2)) else (pm_ix none b3 24 fun j4 => pm_Ev sl xs (d + 1) 119 48 [some (.ref 40), some (.int b1), some (.int (b2 ||| ((nI 1) <<< (b3 &&& 31)))), some (.int (b3 + (-nI 1)))] [] (SH, (pm_up h2 64 j4 (nI 1))))) := by
  have hM : pm_mt 119 = some mt_119 := rfl
  refine e_iload_n (pc2 := 49) hM rfl rfl rfl ?_
  refine e_if_lt (pc2 := 52) (tgt := 89) hM rfl rfl rfl ?_ ?_
  · refine e_iload_n (pc2 := 90) hM rfl rfl rfl ?_
    exact e_iret hM rfl rfl
  · refine e_aload_n (pc2 := 53) hM rfl rfl rfl ?_
    refine e_getfr (pc2 := 56) (k := 39) (b := 65) hM rfl rfl rfl rfl rfl ?_
    refine e_iload_n (pc2 := 57) hM rfl rfl rfl ?_
    refine e_iconst (pc2 := 58) (v := nI 2) hM rfl rfl rfl ?_
    refine e_iast (pc2 := 59) (k := 64) hM rfl rfl rfl (fun j1 => ?_)
    refine e_aload_n (pc2 := 60) hM rfl rfl rfl ?_
    refine e_cvi (pc2 := 63) (k := 39) (As := [.ref 40]) (rest := []) hM rfl rfl rfl rfl rfl rfl rfl (fun x3 h2 => ?_)
    refine e_iload_n (pc2 := 64) hM rfl rfl rfl ?_
    refine e_icmp_ne (pc2 := 67) (tgt := 70) hM rfl rfl rfl ?_ ?_
    · refine e_aload_n (pc2 := 71) hM rfl rfl rfl ?_
      refine e_getfr (pc2 := 74) (k := 39) (b := 65) hM rfl rfl rfl rfl rfl ?_
      refine e_iload_n (pc2 := 75) hM rfl rfl rfl ?_
      refine e_iconst (pc2 := 76) (v := nI 1) hM rfl rfl rfl ?_
      refine e_iast (pc2 := 77) (k := 64) hM rfl rfl rfl (fun j4 => ?_)
      refine e_iload_n (pc2 := 78) hM rfl rfl rfl ?_
      refine e_iconst (pc2 := 79) (v := nI 1) hM rfl rfl rfl ?_
      refine e_iload_n (pc2 := 80) hM rfl rfl rfl ?_
      refine e_ishl (pc2 := 81) hM rfl rfl ?_
      refine e_ior (pc2 := 82) hM rfl rfl ?_
      refine e_istore_n (pc2 := 83) (L2 := [some (.ref 40), some (.int b1), some (.int (b2 ||| ((nI 1) <<< (b3 &&& 31)))), some (.int b3)]) hM rfl rfl rfl rfl ?_
      refine e_iinc (pc2 := 86) (v := -nI 1) (L2 := [some (.ref 40), some (.int b1), some (.int (b2 ||| ((nI 1) <<< (b3 &&& 31)))), some (.int (b3 + (-nI 1)))]) hM rfl rfl rfl rfl rfl ?_
      refine e_goto (tgt := 48) hM rfl rfl ?_
      exact rfl
    · refine e_goto (tgt := 83) hM rfl rfl ?_
      refine e_iinc (pc2 := 86) (v := -nI 1) (L2 := [some (.ref 40), some (.int b1), some (.int b2), some (.int (b3 + (-nI 1)))]) hM rfl rfl rfl rfl rfl ?_
      refine e_goto (tgt := 48) hM rfl rfl ?_
      exact rfl
theorem qX8_ones_0 {sl : Nat} {xs : Nat → Int32} {d : Nat} {a0 : Int32} {h : pmH} : pm_cf (pm_Ev sl xs) (d + 1) 120 [.int a0] (SH, h) = pm_Ev sl xs d 120 4 [some (.int a0), some (.int (nI 0)), some (.int (nI 0))] [] (SH, h) := by
  have hM : pm_mt 120 = some mt_120 := rfl
  refine e_call (L := [some (.int a0), none, none]) hM rfl rfl ?_
  refine e_iconst (pc2 := 1) (v := nI 0) hM rfl rfl rfl ?_
  refine e_istore_n (pc2 := 2) (L2 := [some (.int a0), some (.int (nI 0)), none]) hM rfl rfl rfl rfl ?_
  refine e_iconst (pc2 := 3) (v := nI 0) hM rfl rfl rfl ?_
  refine e_istore_n (pc2 := 4) (L2 := [some (.int a0), some (.int (nI 0)), some (.int (nI 0))]) hM rfl rfl rfl rfl ?_
  exact rfl
theorem qX8_ones_4 {sl : Nat} {xs : Nat → Int32} {d : Nat} {b0 b1 b2 : Int32} {h : pmH} : pm_Ev sl xs d 120 4 [some (.int b0), some (.int b1), some (.int b2)] [] (SH, h) = if (nI 24) ≤ b2 then (some (some (.int b1), (SH, h))) else (pm_Ev sl xs d 120 4 [some (.int b0), some (.int (b1 + ((b0 >>> (b2 &&& 31)) &&& (nI 1)))), some (.int (b2 + (nI 1)))] [] (SH, h)) := by
  have hM : pm_mt 120 = some mt_120 := rfl
  refine e_iload_n (pc2 := 5) hM rfl rfl rfl ?_
  refine e_bipush (pc2 := 7) (v := nI 24) hM rfl rfl rfl rfl ?_
  refine e_icmp_ge (pc2 := 10) (tgt := 24) hM rfl rfl rfl ?_ ?_
  · refine e_iload_n (pc2 := 25) hM rfl rfl rfl ?_
    exact e_iret hM rfl rfl
  · refine e_iload_n (pc2 := 11) hM rfl rfl rfl ?_
    refine e_iload_n (pc2 := 12) hM rfl rfl rfl ?_
    refine e_iload_n (pc2 := 13) hM rfl rfl rfl ?_
    refine e_ishr (pc2 := 14) hM rfl rfl ?_
    refine e_iconst (pc2 := 15) (v := nI 1) hM rfl rfl rfl ?_
    refine e_iand (pc2 := 16) hM rfl rfl ?_
    refine e_iadd (pc2 := 17) hM rfl rfl ?_
    refine e_istore_n (pc2 := 18) (L2 := [some (.int b0), some (.int (b1 + ((b0 >>> (b2 &&& 31)) &&& (nI 1)))), some (.int b2)]) hM rfl rfl rfl rfl ?_
    refine e_iinc (pc2 := 21) (v := nI 1) (L2 := [some (.int b0), some (.int (b1 + ((b0 >>> (b2 &&& 31)) &&& (nI 1)))), some (.int (b2 + (nI 1)))]) hM rfl rfl rfl rfl rfl ?_
    refine e_goto (tgt := 4) hM rfl rfl ?_
    exact rfl
theorem qX8_fewest_0 {sl : Nat} {xs : Nat → Int32} {d : Nat} {a0 : Int32} {h : pmH} : pm_cf (pm_Ev sl xs) (d + 2) 121 [.ref 40, .int a0] (SH, h) = pm_ri (pm_cf (pm_Ev sl xs) (d + 1) 95 [.int a0, .int (nI 0), .int (nI 1)] (SH, h)) SH fun x2 h1 => if x2 = 0 then (pm_ri (pm_cf (pm_Ev sl xs) (d + 1) 96 [.ref 40, .int (nI 1)] (SH, h1)) SH fun x10 h9 => some (some (.int x10), (SH, h9))) else (pm_ri (pm_cf (pm_Ev sl xs) (d + 1) 119 [.ref 40] (SH, h1)) SH fun x4 h3 => if 0 ≤ x4 then (if a0 = 0 then (pm_ri (pm_cf (pm_Ev sl xs) (d + 1) 120 [.int x4] (SH, h3)) SH fun x6 h5 => some (some (.int x6), (SH, h5))) else (some (some (.int x4), (SH, h3)))) else (pm_ri (pm_cf (pm_Ev sl xs) (d + 1) 96 [.ref 40, .int (nI 2)] (SH, h3)) SH fun x8 h7 => some (some (.int x8), (SH, h7)))) := by
  have hM : pm_mt 121 = some mt_121 := rfl
  refine e_call (L := [some (.ref 40), some (.int a0), none]) hM rfl rfl ?_
  refine e_iload_n (pc2 := 1) hM rfl rfl rfl ?_
  refine e_iconst (pc2 := 2) (v := nI 0) hM rfl rfl rfl ?_
  refine e_iconst (pc2 := 3) (v := nI 1) hM rfl rfl rfl ?_
  refine e_csi (pc2 := 6) (As := [.int a0, .int (nI 0), .int (nI 1)]) (rest := []) hM rfl rfl rfl rfl rfl rfl rfl (fun x2 h1 => ?_)
  refine e_if_ne (pc2 := 9) (tgt := 15) hM rfl rfl rfl ?_ ?_
  · refine e_aload_n (pc2 := 16) hM rfl rfl rfl ?_
    refine e_cvi (pc2 := 19) (k := 39) (As := [.ref 40]) (rest := []) hM rfl rfl rfl rfl rfl rfl rfl (fun x4 h3 => ?_)
    refine e_istore_n (pc2 := 20) (L2 := [some (.ref 40), some (.int a0), some (.int x4)]) hM rfl rfl rfl rfl ?_
    refine e_iload_n (pc2 := 21) hM rfl rfl rfl ?_
    refine e_if_ge (pc2 := 24) (tgt := 30) hM rfl rfl rfl ?_ ?_
    · refine e_iload_n (pc2 := 31) hM rfl rfl rfl ?_
      refine e_if_ne (pc2 := 34) (tgt := 41) hM rfl rfl rfl ?_ ?_
      · refine e_iload_n (pc2 := 42) hM rfl rfl rfl ?_
        exact e_iret hM rfl rfl
      · refine e_iload_n (pc2 := 35) hM rfl rfl rfl ?_
        refine e_csi (pc2 := 38) (As := [.int x4]) (rest := []) hM rfl rfl rfl rfl rfl rfl rfl (fun x6 h5 => ?_)
        refine e_goto (tgt := 42) hM rfl rfl ?_
        exact e_iret hM rfl rfl
    · refine e_aload_n (pc2 := 25) hM rfl rfl rfl ?_
      refine e_iconst (pc2 := 26) (v := nI 2) hM rfl rfl rfl ?_
      refine e_cvi (pc2 := 29) (k := 39) (As := [.ref 40, .int (nI 2)]) (rest := []) hM rfl rfl rfl rfl rfl rfl rfl (fun x8 h7 => ?_)
      exact e_iret hM rfl rfl
  · refine e_aload_n (pc2 := 10) hM rfl rfl rfl ?_
    refine e_iconst (pc2 := 11) (v := nI 1) hM rfl rfl rfl ?_
    refine e_cvi (pc2 := 14) (k := 39) (As := [.ref 40, .int (nI 1)]) (rest := []) hM rfl rfl rfl rfl rfl rfl rfl (fun x10 h9 => ?_)
    exact e_iret hM rfl rfl
theorem qX8_fuses_0 {sl : Nat} {xs : Nat → Int32} {d : Nat} {h : pmH} : pm_cf (pm_Ev sl xs) (d + 2) 122 [.ref 40] (SH, h) = pm_ri (pm_cf (pm_Ev sl xs) (d + 1) 119 [.ref 40] (SH, h)) SH fun x2 h1 => if 0 ≤ x2 then (pm_Ev sl xs (d + 1) 122 17 [some (.ref 40), some (.int x2), some (.int (nI 0))] [] (SH, h1)) else (pm_ri (pm_cf (pm_Ev sl xs) (d + 1) 96 [.ref 40, .int (nI 2)] (SH, h1)) SH fun x4 h3 => some (some (.int x4), (SH, h3))) := by
  have hM : pm_mt 122 = some mt_122 := rfl
  refine e_call (L := [some (.ref 40), none, none]) hM rfl rfl ?_
  refine e_aload_n (pc2 := 1) hM rfl rfl rfl ?_
  refine e_cvi (pc2 := 4) (k := 39) (As := [.ref 40]) (rest := []) hM rfl rfl rfl rfl rfl rfl rfl (fun x2 h1 => ?_)
  refine e_istore_n (pc2 := 5) (L2 := [some (.ref 40), some (.int x2), none]) hM rfl rfl rfl rfl ?_
  refine e_iload_n (pc2 := 6) hM rfl rfl rfl ?_
  refine e_if_ge (pc2 := 9) (tgt := 15) hM rfl rfl rfl ?_ ?_
  · refine e_iconst (pc2 := 16) (v := nI 0) hM rfl rfl rfl ?_
    refine e_istore_n (pc2 := 17) (L2 := [some (.ref 40), some (.int x2), some (.int (nI 0))]) hM rfl rfl rfl rfl ?_
    exact rfl
  · refine e_aload_n (pc2 := 10) hM rfl rfl rfl ?_
    refine e_iconst (pc2 := 11) (v := nI 2) hM rfl rfl rfl ?_
    refine e_cvi (pc2 := 14) (k := 39) (As := [.ref 40, .int (nI 2)]) (rest := []) hM rfl rfl rfl rfl rfl rfl rfl (fun x4 h3 => ?_)
    exact e_iret hM rfl rfl
theorem qX8_fuses_17 {sl : Nat} {xs : Nat → Int32} {d : Nat} {b1 b2 : Int32} {h : pmH} : pm_Ev sl xs (d + 1) 122 17 [some (.ref 40), some (.int b1), some (.int b2)] [] (SH, h) = if (h 39 1) ≤ b2 then (pm_ri (pm_cf (pm_Ev sl xs) (d + 1) 120 [.int b1] (SH, h)) SH fun x2 h1 => some (some (.int x2), (SH, h1))) else (pm_ri (pm_cf (pm_Ev sl xs) (d + 1) 98 [.int b1, .int b2] (SH, h)) SH fun x4 h3 => if x4 = 0 then (pm_ix none b2 24 fun j5 => pm_Ev sl xs (d + 1) 122 17 [some (.ref 40), some (.int b1), some (.int (b2 + (nI 1)))] [] (SH, (pm_up h3 50 j5 (nI 0)))) else (pm_ix none b2 24 fun j6 => pm_ix none b2 24 fun j7 => pm_Ev sl xs (d + 1) 122 17 [some (.ref 40), some (.int b1), some (.int (b2 + (nI 1)))] [] (SH, (pm_up h3 50 j7 (h3 61 j6))))) := by
  have hM : pm_mt 122 = some mt_122 := rfl
  refine e_iload_n (pc2 := 18) hM rfl rfl rfl ?_
  refine e_aload_n (pc2 := 19) hM rfl rfl rfl ?_
  refine e_getfi (pc2 := 22) (k := 39) (v := (h 39 1)) hM rfl rfl rfl rfl rfl rfl ?_
  refine e_icmp_ge (pc2 := 25) (tgt := 55) hM rfl rfl rfl ?_ ?_
  · refine e_iload_n (pc2 := 56) hM rfl rfl rfl ?_
    refine e_csi (pc2 := 59) (As := [.int b1]) (rest := []) hM rfl rfl rfl rfl rfl rfl rfl (fun x2 h1 => ?_)
    exact e_iret hM rfl rfl
  · refine e_aload_n (pc2 := 26) hM rfl rfl rfl ?_
    refine e_getfr (pc2 := 29) (k := 39) (b := 51) hM rfl rfl rfl rfl rfl ?_
    refine e_iload_n (pc2 := 30) hM rfl rfl rfl ?_
    refine e_iload_n (pc2 := 31) hM rfl rfl rfl ?_
    refine e_iload_n (pc2 := 32) hM rfl rfl rfl ?_
    refine e_csi (pc2 := 35) (As := [.int b1, .int b2]) (rest := [.int b2, .ref 51]) hM rfl rfl rfl rfl rfl rfl rfl (fun x4 h3 => ?_)
    refine e_if_eq (pc2 := 38) (tgt := 47) hM rfl rfl rfl ?_ ?_
    · refine e_iconst (pc2 := 48) (v := nI 0) hM rfl rfl rfl ?_
      refine e_iast (pc2 := 49) (k := 50) hM rfl rfl rfl (fun j5 => ?_)
      refine e_iinc (pc2 := 52) (v := nI 1) (L2 := [some (.ref 40), some (.int b1), some (.int (b2 + (nI 1)))]) hM rfl rfl rfl rfl rfl ?_
      refine e_goto (tgt := 17) hM rfl rfl ?_
      exact rfl
    · refine e_aload_n (pc2 := 39) hM rfl rfl rfl ?_
      refine e_getfr (pc2 := 42) (k := 39) (b := 62) hM rfl rfl rfl rfl rfl ?_
      refine e_iload_n (pc2 := 43) hM rfl rfl rfl ?_
      refine e_iald (pc2 := 44) (k := 61) (V := fun j6 => (h3 61 j6)) hM rfl rfl rfl (fun _ => rfl) (fun j6 => ?_)
      refine e_goto (tgt := 48) hM rfl rfl ?_
      refine e_iast (pc2 := 49) (k := 50) hM rfl rfl rfl (fun j7 => ?_)
      refine e_iinc (pc2 := 52) (v := nI 1) (L2 := [some (.ref 40), some (.int b1), some (.int (b2 + (nI 1)))]) hM rfl rfl rfl rfl rfl ?_
      refine e_goto (tgt := 17) hM rfl rfl ?_
      exact rfl
theorem qX8_explain_0 {sl : Nat} {xs : Nat → Int32} {d : Nat} {a0 : Int32} {h : pmH} : pm_cf (pm_Ev sl xs) (d + 2) 123 [.ref 40, .int a0] (SH, h) = if a0 < 0 then (pm_ri (pm_cf (pm_Ev sl xs) (d + 1) 96 [.ref 40, .int (nI 1)] (SH, h)) SH fun x2 h1 => some (some (.int x2), (SH, h1))) else (if (a0 >>> ((h 39 1) &&& 31)) = 0 then (pm_Ev sl xs (d + 1) 123 23 [some (.ref 40), some (.int a0), some (.int (nI 0)), some (.int (nI 0)), none] [] (SH, h)) else (pm_ri (pm_cf (pm_Ev sl xs) (d + 1) 96 [.ref 40, .int (nI 1)] (SH, h)) SH fun x4 h3 => some (some (.int x4), (SH, h3)))) := by
  have hM : pm_mt 123 = some mt_123 := rfl
  refine e_call (L := [some (.ref 40), some (.int a0), none, none, none]) hM rfl rfl ?_
  refine e_iload_n (pc2 := 1) hM rfl rfl rfl ?_
  refine e_if_lt (pc2 := 4) (tgt := 13) hM rfl rfl rfl ?_ ?_
  · refine e_aload_n (pc2 := 14) hM rfl rfl rfl ?_
    refine e_iconst (pc2 := 15) (v := nI 1) hM rfl rfl rfl ?_
    refine e_cvi (pc2 := 18) (k := 39) (As := [.ref 40, .int (nI 1)]) (rest := []) hM rfl rfl rfl rfl rfl rfl rfl (fun x2 h1 => ?_)
    exact e_iret hM rfl rfl
  · refine e_iload_n (pc2 := 5) hM rfl rfl rfl ?_
    refine e_aload_n (pc2 := 6) hM rfl rfl rfl ?_
    refine e_getfi (pc2 := 9) (k := 39) (v := (h 39 1)) hM rfl rfl rfl rfl rfl rfl ?_
    refine e_ishr (pc2 := 10) hM rfl rfl ?_
    refine e_if_eq (pc2 := 13) (tgt := 19) hM rfl rfl rfl ?_ ?_
    · refine e_iconst (pc2 := 20) (v := nI 0) hM rfl rfl rfl ?_
      refine e_istore_n (pc2 := 21) (L2 := [some (.ref 40), some (.int a0), some (.int (nI 0)), none, none]) hM rfl rfl rfl rfl ?_
      refine e_iconst (pc2 := 22) (v := nI 0) hM rfl rfl rfl ?_
      refine e_istore_n (pc2 := 23) (L2 := [some (.ref 40), some (.int a0), some (.int (nI 0)), some (.int (nI 0)), none]) hM rfl rfl rfl rfl ?_
      exact rfl
    · refine e_aload_n (pc2 := 14) hM rfl rfl rfl ?_
      refine e_iconst (pc2 := 15) (v := nI 1) hM rfl rfl rfl ?_
      refine e_cvi (pc2 := 18) (k := 39) (As := [.ref 40, .int (nI 1)]) (rest := []) hM rfl rfl rfl rfl rfl rfl rfl (fun x4 h3 => ?_)
      exact e_iret hM rfl rfl
theorem qX8_explain_23 {sl : Nat} {xs : Nat → Int32} {d : Nat} {b1 b2 b3 : Int32} {o4 : Option Value} {h : pmH} : pm_Ev sl xs (d + 1) 123 23 [some (.ref 40), some (.int b1), some (.int b2), some (.int b3), o4] [] (SH, h) = if (h 39 1) ≤ b3 then (some (some (.int b2), (SH, h))) else (pm_ix none b3 24 fun j1 => if (h 44 j1) < 0 then (if (nI 0) = 0 then (pm_ri (pm_cf (pm_Ev sl xs) (d + 1) 98 [.int b1, .int b3] (SH, h)) SH fun x3 h2 => if x3 = 0 then (pm_Ev sl xs (d + 1) 123 23 [some (.ref 40), some (.int b1), some (.int b2), some (.int (b3 + (nI 1))), some (.int (nI 0))] [] (SH, h2)) else (if (nI 0) = 0 then (pm_Ev sl xs (d + 1) 123 23 [some (.ref 40), some (.int b1), some (.int (b2 ||| ((nI 1) <<< (b3 &&& 31)))), some (.int (b3 + (nI 1))), some (.int (nI 0))] [] (SH, h2)) else (pm_Ev sl xs (d + 1) 123 23 [some (.ref 40), some (.int b1), some (.int b2), some (.int (b3 + (nI 1))), some (.int (nI 0))] [] (SH, h2)))) else (pm_ri (pm_cf (pm_Ev sl xs) (d + 1) 98 [.int b1, .int b3] (SH, h)) SH fun x5 h4 => if x5 = 0 then (pm_ri (pm_cf (pm_Ev sl xs) (d + 1) 96 [.ref 40, .int (nI 2)] (SH, h4)) SH fun x9 h8 => some (some (.int x9), (SH, h8))) else (pm_ri (pm_cf (pm_Ev sl xs) (d + 1) 98 [.int b1, .int b3] (SH, h4)) SH fun x7 h6 => if x7 = 0 then (pm_Ev sl xs (d + 1) 123 23 [some (.ref 40), some (.int b1), some (.int b2), some (.int (b3 + (nI 1))), some (.int (nI 0))] [] (SH, h6)) else (if (nI 0) = 0 then (pm_Ev sl xs (d + 1) 123 23 [some (.ref 40), some (.int b1), some (.int (b2 ||| ((nI 1) <<< (b3 &&& 31)))), some (.int (b3 + (nI 1))), some (.int (nI 0))] [] (SH, h6)) else (pm_Ev sl xs (d + 1) 123 23 [some (.ref 40), some (.int b1), some (.int b2), some (.int (b3 + (nI 1))), some (.int (nI 0))] [] (SH, h6)))))) else (pm_ix none b3 24 fun j10 => pm_ri (pm_cf (pm_Ev sl xs) (d + 1) 98 [.int b1, .int (h 44 j10)] (SH, h)) SH fun x12 h11 => if x12 = 0 then (if (nI 0) = 0 then (pm_ri (pm_cf (pm_Ev sl xs) (d + 1) 98 [.int b1, .int b3] (SH, h11)) SH fun x14 h13 => if x14 = 0 then (pm_Ev sl xs (d + 1) 123 23 [some (.ref 40), some (.int b1), some (.int b2), some (.int (b3 + (nI 1))), some (.int (nI 0))] [] (SH, h13)) else (if (nI 0) = 0 then (pm_Ev sl xs (d + 1) 123 23 [some (.ref 40), some (.int b1), some (.int (b2 ||| ((nI 1) <<< (b3 &&& 31)))), some (.int (b3 + (nI 1))), some (.int (nI 0))] [] (SH, h13)) else (pm_Ev sl xs (d + 1) 123 23 [some (.ref 40), some (.int b1), some (.int b2), some (.int (b3 + (nI 1))), some (.int (nI 0))] [] (SH, h13)))) else (pm_ri (pm_cf (pm_Ev sl xs) (d + 1) 98 [.int b1, .int b3] (SH, h11)) SH fun x16 h15 => if x16 = 0 then (pm_ri (pm_cf (pm_Ev sl xs) (d + 1) 96 [.ref 40, .int (nI 2)] (SH, h15)) SH fun x20 h19 => some (some (.int x20), (SH, h19))) else (pm_ri (pm_cf (pm_Ev sl xs) (d + 1) 98 [.int b1, .int b3] (SH, h15)) SH fun x18 h17 => if x18 = 0 then (pm_Ev sl xs (d + 1) 123 23 [some (.ref 40), some (.int b1), some (.int b2), some (.int (b3 + (nI 1))), some (.int (nI 0))] [] (SH, h17)) else (if (nI 0) = 0 then (pm_Ev sl xs (d + 1) 123 23 [some (.ref 40), some (.int b1), some (.int (b2 ||| ((nI 1) <<< (b3 &&& 31)))), some (.int (b3 + (nI 1))), some (.int (nI 0))] [] (SH, h17)) else (pm_Ev sl xs (d + 1) 123 23 [some (.ref 40), some (.int b1), some (.int b2), some (.int (b3 + (nI 1))), some (.int (nI 0))] [] (SH, h17)))))) else (if (nI 1) = 0 then (pm_ri (pm_cf (pm_Ev sl xs) (d + 1) 98 [.int b1, .int b3] (SH, h11)) SH fun x22 h21 => if x22 = 0 then (pm_Ev sl xs (d + 1) 123 23 [some (.ref 40), some (.int b1), some (.int b2), some (.int (b3 + (nI 1))), some (.int (nI 1))] [] (SH, h21)) else (if (nI 1) = 0 then (pm_Ev sl xs (d + 1) 123 23 [some (.ref 40), some (.int b1), some (.int (b2 ||| ((nI 1) <<< (b3 &&& 31)))), some (.int (b3 + (nI 1))), some (.int (nI 1))] [] (SH, h21)) else (pm_Ev sl xs (d + 1) 123 23 [some (.ref 40), some (.int b1), some (.int b2), some (.int (b3 + (nI 1))), some (.int (nI 1))] [] (SH, h21)))) else (pm_ri (pm_cf (pm_Ev sl xs) (d + 1) 98 [.int b1, .int b3] (SH, h11)) SH fun x24 h23 => if x24 = 0 then (pm_ri (pm_cf (pm_Ev sl xs) (d + 1) 96 [.ref 40, .int (nI 2)] (SH, h23)) SH fun x28 h27 => some (some (.int x28), (SH, h27))) else (pm_ri (pm_cf (pm_Ev sl xs) (d + 1) 98 [.int b1, .int b3] (SH, h23)) SH fun x26 h25 => if x26 = 0 then (pm_Ev sl xs (d + 1) 123 23 [some (.ref 40), some (.int b1), some (.int b2), some (.int (b3 + (nI 1))), some (.int (nI 1))] [] (SH, h25)) else (if (nI 1) = 0 then (pm_Ev sl xs (d + 1) 123 23 [some (.ref 40), some (.int b1), some (.int (b2 ||| ((nI 1) <<< (b3 &&& 31)))), some (.int (b3 + (nI 1))), some (.int (nI 1))] [] (SH, h25)) else (pm_Ev sl xs (d + 1) 123 23 [some (.ref 40), some (.int b1), some (.int b2), some (.int (b3 + (nI 1))), some (.int (nI 1))] [] (SH, h25)))))))) := by
  have hM : pm_mt 123 = some mt_123 := rfl
  refine e_iload_n (pc2 := 24) hM rfl rfl rfl ?_
  refine e_aload_n (pc2 := 25) hM rfl rfl rfl ?_
  refine e_getfi (pc2 := 28) (k := 39) (v := (h 39 1)) hM rfl rfl rfl rfl rfl rfl ?_
  refine e_icmp_ge (pc2 := 31) (tgt := 104) hM rfl rfl rfl ?_ ?_
  · refine e_iload_n (pc2 := 105) hM rfl rfl rfl ?_
    exact e_iret hM rfl rfl
  · refine e_aload_n (pc2 := 32) hM rfl rfl rfl ?_
    refine e_getfr (pc2 := 35) (k := 39) (b := 45) hM rfl rfl rfl rfl rfl ?_
    refine e_iload_n (pc2 := 36) hM rfl rfl rfl ?_
    refine e_iald (pc2 := 37) (k := 44) (V := fun j1 => (h 44 j1)) hM rfl rfl rfl (fun _ => rfl) (fun j1 => ?_)
    refine e_if_lt (pc2 := 40) (tgt := 57) hM rfl rfl rfl ?_ ?_
    · refine e_iconst (pc2 := 58) (v := nI 0) hM rfl rfl rfl ?_
      refine e_istore (pc2 := 60) (L2 := [some (.ref 40), some (.int b1), some (.int b2), some (.int b3), some (.int (nI 0))]) hM rfl rfl rfl rfl ?_
      refine e_iload (pc2 := 62) hM rfl rfl rfl ?_
      refine e_if_eq (pc2 := 65) (tgt := 79) hM rfl rfl rfl ?_ ?_
      · refine e_iload_n (pc2 := 80) hM rfl rfl rfl ?_
        refine e_iload_n (pc2 := 81) hM rfl rfl rfl ?_
        refine e_csi (pc2 := 84) (As := [.int b1, .int b3]) (rest := []) hM rfl rfl rfl rfl rfl rfl rfl (fun x3 h2 => ?_)
        refine e_if_eq (pc2 := 87) (tgt := 98) hM rfl rfl rfl ?_ ?_
        · refine e_iinc (pc2 := 101) (v := nI 1) (L2 := [some (.ref 40), some (.int b1), some (.int b2), some (.int (b3 + (nI 1))), some (.int (nI 0))]) hM rfl rfl rfl rfl rfl ?_
          refine e_goto (tgt := 23) hM rfl rfl ?_
          exact rfl
        · refine e_iload (pc2 := 89) hM rfl rfl rfl ?_
          refine e_if_ne (pc2 := 92) (tgt := 98) hM rfl rfl rfl ?_ ?_
          · refine e_iinc (pc2 := 101) (v := nI 1) (L2 := [some (.ref 40), some (.int b1), some (.int b2), some (.int (b3 + (nI 1))), some (.int (nI 0))]) hM rfl rfl rfl rfl rfl ?_
            refine e_goto (tgt := 23) hM rfl rfl ?_
            exact rfl
          · refine e_iload_n (pc2 := 93) hM rfl rfl rfl ?_
            refine e_iconst (pc2 := 94) (v := nI 1) hM rfl rfl rfl ?_
            refine e_iload_n (pc2 := 95) hM rfl rfl rfl ?_
            refine e_ishl (pc2 := 96) hM rfl rfl ?_
            refine e_ior (pc2 := 97) hM rfl rfl ?_
            refine e_istore_n (pc2 := 98) (L2 := [some (.ref 40), some (.int b1), some (.int (b2 ||| ((nI 1) <<< (b3 &&& 31)))), some (.int b3), some (.int (nI 0))]) hM rfl rfl rfl rfl ?_
            refine e_iinc (pc2 := 101) (v := nI 1) (L2 := [some (.ref 40), some (.int b1), some (.int (b2 ||| ((nI 1) <<< (b3 &&& 31)))), some (.int (b3 + (nI 1))), some (.int (nI 0))]) hM rfl rfl rfl rfl rfl ?_
            refine e_goto (tgt := 23) hM rfl rfl ?_
            exact rfl
      · refine e_iload_n (pc2 := 66) hM rfl rfl rfl ?_
        refine e_iload_n (pc2 := 67) hM rfl rfl rfl ?_
        refine e_csi (pc2 := 70) (As := [.int b1, .int b3]) (rest := []) hM rfl rfl rfl rfl rfl rfl rfl (fun x5 h4 => ?_)
        refine e_if_ne (pc2 := 73) (tgt := 79) hM rfl rfl rfl ?_ ?_
        · refine e_iload_n (pc2 := 80) hM rfl rfl rfl ?_
          refine e_iload_n (pc2 := 81) hM rfl rfl rfl ?_
          refine e_csi (pc2 := 84) (As := [.int b1, .int b3]) (rest := []) hM rfl rfl rfl rfl rfl rfl rfl (fun x7 h6 => ?_)
          refine e_if_eq (pc2 := 87) (tgt := 98) hM rfl rfl rfl ?_ ?_
          · refine e_iinc (pc2 := 101) (v := nI 1) (L2 := [some (.ref 40), some (.int b1), some (.int b2), some (.int (b3 + (nI 1))), some (.int (nI 0))]) hM rfl rfl rfl rfl rfl ?_
            refine e_goto (tgt := 23) hM rfl rfl ?_
            exact rfl
          · refine e_iload (pc2 := 89) hM rfl rfl rfl ?_
            refine e_if_ne (pc2 := 92) (tgt := 98) hM rfl rfl rfl ?_ ?_
            · refine e_iinc (pc2 := 101) (v := nI 1) (L2 := [some (.ref 40), some (.int b1), some (.int b2), some (.int (b3 + (nI 1))), some (.int (nI 0))]) hM rfl rfl rfl rfl rfl ?_
              refine e_goto (tgt := 23) hM rfl rfl ?_
              exact rfl
            · refine e_iload_n (pc2 := 93) hM rfl rfl rfl ?_
              refine e_iconst (pc2 := 94) (v := nI 1) hM rfl rfl rfl ?_
              refine e_iload_n (pc2 := 95) hM rfl rfl rfl ?_
              refine e_ishl (pc2 := 96) hM rfl rfl ?_
              refine e_ior (pc2 := 97) hM rfl rfl ?_
              refine e_istore_n (pc2 := 98) (L2 := [some (.ref 40), some (.int b1), some (.int (b2 ||| ((nI 1) <<< (b3 &&& 31)))), some (.int b3), some (.int (nI 0))]) hM rfl rfl rfl rfl ?_
              refine e_iinc (pc2 := 101) (v := nI 1) (L2 := [some (.ref 40), some (.int b1), some (.int (b2 ||| ((nI 1) <<< (b3 &&& 31)))), some (.int (b3 + (nI 1))), some (.int (nI 0))]) hM rfl rfl rfl rfl rfl ?_
              refine e_goto (tgt := 23) hM rfl rfl ?_
              exact rfl
        · refine e_aload_n (pc2 := 74) hM rfl rfl rfl ?_
          refine e_iconst (pc2 := 75) (v := nI 2) hM rfl rfl rfl ?_
          refine e_cvi (pc2 := 78) (k := 39) (As := [.ref 40, .int (nI 2)]) (rest := []) hM rfl rfl rfl rfl rfl rfl rfl (fun x9 h8 => ?_)
          exact e_iret hM rfl rfl
    · refine e_iload_n (pc2 := 41) hM rfl rfl rfl ?_
      refine e_aload_n (pc2 := 42) hM rfl rfl rfl ?_
      refine e_getfr (pc2 := 45) (k := 39) (b := 45) hM rfl rfl rfl rfl rfl ?_
      refine e_iload_n (pc2 := 46) hM rfl rfl rfl ?_
      refine e_iald (pc2 := 47) (k := 44) (V := fun j10 => (h 44 j10)) hM rfl rfl rfl (fun _ => rfl) (fun j10 => ?_)
      refine e_csi (pc2 := 50) (As := [.int b1, .int (h 44 j10)]) (rest := []) hM rfl rfl rfl rfl rfl rfl rfl (fun x12 h11 => ?_)
      refine e_if_eq (pc2 := 53) (tgt := 57) hM rfl rfl rfl ?_ ?_
      · refine e_iconst (pc2 := 58) (v := nI 0) hM rfl rfl rfl ?_
        refine e_istore (pc2 := 60) (L2 := [some (.ref 40), some (.int b1), some (.int b2), some (.int b3), some (.int (nI 0))]) hM rfl rfl rfl rfl ?_
        refine e_iload (pc2 := 62) hM rfl rfl rfl ?_
        refine e_if_eq (pc2 := 65) (tgt := 79) hM rfl rfl rfl ?_ ?_
        · refine e_iload_n (pc2 := 80) hM rfl rfl rfl ?_
          refine e_iload_n (pc2 := 81) hM rfl rfl rfl ?_
          refine e_csi (pc2 := 84) (As := [.int b1, .int b3]) (rest := []) hM rfl rfl rfl rfl rfl rfl rfl (fun x14 h13 => ?_)
          refine e_if_eq (pc2 := 87) (tgt := 98) hM rfl rfl rfl ?_ ?_
          · refine e_iinc (pc2 := 101) (v := nI 1) (L2 := [some (.ref 40), some (.int b1), some (.int b2), some (.int (b3 + (nI 1))), some (.int (nI 0))]) hM rfl rfl rfl rfl rfl ?_
            refine e_goto (tgt := 23) hM rfl rfl ?_
            exact rfl
          · refine e_iload (pc2 := 89) hM rfl rfl rfl ?_
            refine e_if_ne (pc2 := 92) (tgt := 98) hM rfl rfl rfl ?_ ?_
            · refine e_iinc (pc2 := 101) (v := nI 1) (L2 := [some (.ref 40), some (.int b1), some (.int b2), some (.int (b3 + (nI 1))), some (.int (nI 0))]) hM rfl rfl rfl rfl rfl ?_
              refine e_goto (tgt := 23) hM rfl rfl ?_
              exact rfl
            · refine e_iload_n (pc2 := 93) hM rfl rfl rfl ?_
              refine e_iconst (pc2 := 94) (v := nI 1) hM rfl rfl rfl ?_
              refine e_iload_n (pc2 := 95) hM rfl rfl rfl ?_
              refine e_ishl (pc2 := 96) hM rfl rfl ?_
              refine e_ior (pc2 := 97) hM rfl rfl ?_
              refine e_istore_n (pc2 := 98) (L2 := [some (.ref 40), some (.int b1), some (.int (b2 ||| ((nI 1) <<< (b3 &&& 31)))), some (.int b3), some (.int (nI 0))]) hM rfl rfl rfl rfl ?_
              refine e_iinc (pc2 := 101) (v := nI 1) (L2 := [some (.ref 40), some (.int b1), some (.int (b2 ||| ((nI 1) <<< (b3 &&& 31)))), some (.int (b3 + (nI 1))), some (.int (nI 0))]) hM rfl rfl rfl rfl rfl ?_
              refine e_goto (tgt := 23) hM rfl rfl ?_
              exact rfl
        · refine e_iload_n (pc2 := 66) hM rfl rfl rfl ?_
          refine e_iload_n (pc2 := 67) hM rfl rfl rfl ?_
          refine e_csi (pc2 := 70) (As := [.int b1, .int b3]) (rest := []) hM rfl rfl rfl rfl rfl rfl rfl (fun x16 h15 => ?_)
          refine e_if_ne (pc2 := 73) (tgt := 79) hM rfl rfl rfl ?_ ?_
          · refine e_iload_n (pc2 := 80) hM rfl rfl rfl ?_
            refine e_iload_n (pc2 := 81) hM rfl rfl rfl ?_
            refine e_csi (pc2 := 84) (As := [.int b1, .int b3]) (rest := []) hM rfl rfl rfl rfl rfl rfl rfl (fun x18 h17 => ?_)
            refine e_if_eq (pc2 := 87) (tgt := 98) hM rfl rfl rfl ?_ ?_
            · refine e_iinc (pc2 := 101) (v := nI 1) (L2 := [some (.ref 40), some (.int b1), some (.int b2), some (.int (b3 + (nI 1))), some (.int (nI 0))]) hM rfl rfl rfl rfl rfl ?_
              refine e_goto (tgt := 23) hM rfl rfl ?_
              exact rfl
            · refine e_iload (pc2 := 89) hM rfl rfl rfl ?_
              refine e_if_ne (pc2 := 92) (tgt := 98) hM rfl rfl rfl ?_ ?_
              · refine e_iinc (pc2 := 101) (v := nI 1) (L2 := [some (.ref 40), some (.int b1), some (.int b2), some (.int (b3 + (nI 1))), some (.int (nI 0))]) hM rfl rfl rfl rfl rfl ?_
                refine e_goto (tgt := 23) hM rfl rfl ?_
                exact rfl
              · refine e_iload_n (pc2 := 93) hM rfl rfl rfl ?_
                refine e_iconst (pc2 := 94) (v := nI 1) hM rfl rfl rfl ?_
                refine e_iload_n (pc2 := 95) hM rfl rfl rfl ?_
                refine e_ishl (pc2 := 96) hM rfl rfl ?_
                refine e_ior (pc2 := 97) hM rfl rfl ?_
                refine e_istore_n (pc2 := 98) (L2 := [some (.ref 40), some (.int b1), some (.int (b2 ||| ((nI 1) <<< (b3 &&& 31)))), some (.int b3), some (.int (nI 0))]) hM rfl rfl rfl rfl ?_
                refine e_iinc (pc2 := 101) (v := nI 1) (L2 := [some (.ref 40), some (.int b1), some (.int (b2 ||| ((nI 1) <<< (b3 &&& 31)))), some (.int (b3 + (nI 1))), some (.int (nI 0))]) hM rfl rfl rfl rfl rfl ?_
                refine e_goto (tgt := 23) hM rfl rfl ?_
                exact rfl
          · refine e_aload_n (pc2 := 74) hM rfl rfl rfl ?_
            refine e_iconst (pc2 := 75) (v := nI 2) hM rfl rfl rfl ?_
            refine e_cvi (pc2 := 78) (k := 39) (As := [.ref 40, .int (nI 2)]) (rest := []) hM rfl rfl rfl rfl rfl rfl rfl (fun x20 h19 => ?_)
            exact e_iret hM rfl rfl
      · refine e_iconst (pc2 := 54) (v := nI 1) hM rfl rfl rfl ?_
        refine e_goto (tgt := 58) hM rfl rfl ?_
        refine e_istore (pc2 := 60) (L2 := [some (.ref 40), some (.int b1), some (.int b2), some (.int b3), some (.int (nI 1))]) hM rfl rfl rfl rfl ?_
        refine e_iload (pc2 := 62) hM rfl rfl rfl ?_
        refine e_if_eq (pc2 := 65) (tgt := 79) hM rfl rfl rfl ?_ ?_
        · refine e_iload_n (pc2 := 80) hM rfl rfl rfl ?_
          refine e_iload_n (pc2 := 81) hM rfl rfl rfl ?_
          refine e_csi (pc2 := 84) (As := [.int b1, .int b3]) (rest := []) hM rfl rfl rfl rfl rfl rfl rfl (fun x22 h21 => ?_)
          refine e_if_eq (pc2 := 87) (tgt := 98) hM rfl rfl rfl ?_ ?_
          · refine e_iinc (pc2 := 101) (v := nI 1) (L2 := [some (.ref 40), some (.int b1), some (.int b2), some (.int (b3 + (nI 1))), some (.int (nI 1))]) hM rfl rfl rfl rfl rfl ?_
            refine e_goto (tgt := 23) hM rfl rfl ?_
            exact rfl
          · refine e_iload (pc2 := 89) hM rfl rfl rfl ?_
            refine e_if_ne (pc2 := 92) (tgt := 98) hM rfl rfl rfl ?_ ?_
            · refine e_iinc (pc2 := 101) (v := nI 1) (L2 := [some (.ref 40), some (.int b1), some (.int b2), some (.int (b3 + (nI 1))), some (.int (nI 1))]) hM rfl rfl rfl rfl rfl ?_
              refine e_goto (tgt := 23) hM rfl rfl ?_
              exact rfl
            · refine e_iload_n (pc2 := 93) hM rfl rfl rfl ?_
              refine e_iconst (pc2 := 94) (v := nI 1) hM rfl rfl rfl ?_
              refine e_iload_n (pc2 := 95) hM rfl rfl rfl ?_
              refine e_ishl (pc2 := 96) hM rfl rfl ?_
              refine e_ior (pc2 := 97) hM rfl rfl ?_
              refine e_istore_n (pc2 := 98) (L2 := [some (.ref 40), some (.int b1), some (.int (b2 ||| ((nI 1) <<< (b3 &&& 31)))), some (.int b3), some (.int (nI 1))]) hM rfl rfl rfl rfl ?_
              refine e_iinc (pc2 := 101) (v := nI 1) (L2 := [some (.ref 40), some (.int b1), some (.int (b2 ||| ((nI 1) <<< (b3 &&& 31)))), some (.int (b3 + (nI 1))), some (.int (nI 1))]) hM rfl rfl rfl rfl rfl ?_
              refine e_goto (tgt := 23) hM rfl rfl ?_
              exact rfl
        · refine e_iload_n (pc2 := 66) hM rfl rfl rfl ?_
          refine e_iload_n (pc2 := 67) hM rfl rfl rfl ?_
          refine e_csi (pc2 := 70) (As := [.int b1, .int b3]) (rest := []) hM rfl rfl rfl rfl rfl rfl rfl (fun x24 h23 => ?_)
          refine e_if_ne (pc2 := 73) (tgt := 79) hM rfl rfl rfl ?_ ?_
          · refine e_iload_n (pc2 := 80) hM rfl rfl rfl ?_
            refine e_iload_n (pc2 := 81) hM rfl rfl rfl ?_
            refine e_csi (pc2 := 84) (As := [.int b1, .int b3]) (rest := []) hM rfl rfl rfl rfl rfl rfl rfl (fun x26 h25 => ?_)
            refine e_if_eq (pc2 := 87) (tgt := 98) hM rfl rfl rfl ?_ ?_
            · refine e_iinc (pc2 := 101) (v := nI 1) (L2 := [some (.ref 40), some (.int b1), some (.int b2), some (.int (b3 + (nI 1))), some (.int (nI 1))]) hM rfl rfl rfl rfl rfl ?_
              refine e_goto (tgt := 23) hM rfl rfl ?_
              exact rfl
            · refine e_iload (pc2 := 89) hM rfl rfl rfl ?_
              refine e_if_ne (pc2 := 92) (tgt := 98) hM rfl rfl rfl ?_ ?_
              · refine e_iinc (pc2 := 101) (v := nI 1) (L2 := [some (.ref 40), some (.int b1), some (.int b2), some (.int (b3 + (nI 1))), some (.int (nI 1))]) hM rfl rfl rfl rfl rfl ?_
                refine e_goto (tgt := 23) hM rfl rfl ?_
                exact rfl
              · refine e_iload_n (pc2 := 93) hM rfl rfl rfl ?_
                refine e_iconst (pc2 := 94) (v := nI 1) hM rfl rfl rfl ?_
                refine e_iload_n (pc2 := 95) hM rfl rfl rfl ?_
                refine e_ishl (pc2 := 96) hM rfl rfl ?_
                refine e_ior (pc2 := 97) hM rfl rfl ?_
                refine e_istore_n (pc2 := 98) (L2 := [some (.ref 40), some (.int b1), some (.int (b2 ||| ((nI 1) <<< (b3 &&& 31)))), some (.int b3), some (.int (nI 1))]) hM rfl rfl rfl rfl ?_
                refine e_iinc (pc2 := 101) (v := nI 1) (L2 := [some (.ref 40), some (.int b1), some (.int (b2 ||| ((nI 1) <<< (b3 &&& 31)))), some (.int (b3 + (nI 1))), some (.int (nI 1))]) hM rfl rfl rfl rfl rfl ?_
                refine e_goto (tgt := 23) hM rfl rfl ?_
                exact rfl
          · refine e_aload_n (pc2 := 74) hM rfl rfl rfl ?_
            refine e_iconst (pc2 := 75) (v := nI 2) hM rfl rfl rfl ?_
            refine e_cvi (pc2 := 78) (k := 39) (As := [.ref 40, .int (nI 2)]) (rest := []) hM rfl rfl rfl rfl rfl rfl rfl (fun x28 h27 => ?_)
            exact e_iret hM rfl rfl
theorem qX8_look_0 {sl : Nat} {xs : Nat → Int32} {d : Nat} {a0 a1 a2 : Int32} {h : pmH} : pm_cf (pm_Ev sl xs) (d + 2) 124 [.ref 40, .int a0, .int a1, .int a2] (SH, h) = pm_ri (pm_cf (pm_Ev sl xs) (d + 1) 97 [.ref 40, .int a0] (SH, h)) SH fun x2 h1 => if x2 = 0 then (pm_ri (pm_cf (pm_Ev sl xs) (d + 1) 96 [.ref 40, .int (nI 1)] (SH, h1)) SH fun x4 h3 => some (some (.int x4), (SH, h3))) else (pm_ix none a0 24 fun j5 => pm_ri (pm_cf (pm_Ev sl xs) (d + 1) 95 [.int a1, .int (nI 0), .int ((h1 48 j5) - (nI 1))] (SH, h1)) SH fun x7 h6 => if x7 = 0 then (pm_ri (pm_cf (pm_Ev sl xs) (d + 1) 96 [.ref 40, .int (nI 1)] (SH, h6)) SH fun x9 h8 => some (some (.int x9), (SH, h8))) else (pm_ri (pm_cf (pm_Ev sl xs) (d + 1) 95 [.int a2, .int (nI 0), .int (nI 1)] (SH, h6)) SH fun x11 h10 => if x11 = 0 then (pm_ri (pm_cf (pm_Ev sl xs) (d + 1) 96 [.ref 40, .int (nI 1)] (SH, h10)) SH fun x64 h63 => some (some (.int x64), (SH, h63))) else (pm_ix none a0 24 fun j12 => if (h10 53 j12) = 0 then (pm_ri (pm_cf (pm_Ev sl xs) (d + 1) 96 [.ref 40, .int (nI 3)] (SH, h10)) SH fun x62 h61 => some (some (.int x62), (SH, h61))) else (if a2 = (nI 1) then (pm_ix none a0 24 fun j29 => if (a1 + (nI 1)) ≤ (h10 51 j29) then (pm_ix none a0 24 fun j30 => if a2 = 0 then (pm_ix none a0 24 fun j36 => if (h10 52 j36) ≤ a1 then (pm_ix none a0 24 fun j37 => if (h10 51 j30) ≤ (h10 52 j37) then (pm_ix none a0 24 fun j38 => pm_ix none a0 24 fun j39 => some (some (.int (((h10 52 j37) - (h10 51 j30)) + (nI 1))), (SH, (pm_up (pm_up h10 51 j38 (h10 51 j30)) 52 j39 (h10 52 j37))))) else (pm_ri (pm_cf (pm_Ev sl xs) (d + 1) 96 [.ref 40, .int (nI 2)] (SH, h10)) SH fun x41 h40 => some (some (.int x41), (SH, h40)))) else (if (h10 51 j30) ≤ a1 then (pm_ix none a0 24 fun j42 => pm_ix none a0 24 fun j43 => some (some (.int ((a1 - (h10 51 j30)) + (nI 1))), (SH, (pm_up (pm_up h10 51 j42 (h10 51 j30)) 52 j43 a1)))) else (pm_ri (pm_cf (pm_Ev sl xs) (d + 1) 96 [.ref 40, .int (nI 2)] (SH, h10)) SH fun x45 h44 => some (some (.int x45), (SH, h44))))) else (pm_ix none a0 24 fun j31 => if (h10 51 j30) ≤ (h10 52 j31) then (pm_ix none a0 24 fun j32 => pm_ix none a0 24 fun j33 => some (some (.int (((h10 52 j31) - (h10 51 j30)) + (nI 1))), (SH, (pm_up (pm_up h10 51 j32 (h10 51 j30)) 52 j33 (h10 52 j31))))) else (pm_ri (pm_cf (pm_Ev sl xs) (d + 1) 96 [.ref 40, .int (nI 2)] (SH, h10)) SH fun x35 h34 => some (some (.int x35), (SH, h34))))) else (if a2 = 0 then (pm_ix none a0 24 fun j51 => if (h10 52 j51) ≤ a1 then (pm_ix none a0 24 fun j52 => if (a1 + (nI 1)) ≤ (h10 52 j52) then (pm_ix none a0 24 fun j53 => pm_ix none a0 24 fun j54 => some (some (.int (((h10 52 j52) - (a1 + (nI 1))) + (nI 1))), (SH, (pm_up (pm_up h10 51 j53 (a1 + (nI 1))) 52 j54 (h10 52 j52))))) else (pm_ri (pm_cf (pm_Ev sl xs) (d + 1) 96 [.ref 40, .int (nI 2)] (SH, h10)) SH fun x56 h55 => some (some (.int x56), (SH, h55)))) else (if (a1 + (nI 1)) ≤ a1 then (pm_ix none a0 24 fun j57 => pm_ix none a0 24 fun j58 => some (some (.int ((a1 - (a1 + (nI 1))) + (nI 1))), (SH, (pm_up (pm_up h10 51 j57 (a1 + (nI 1))) 52 j58 a1)))) else (pm_ri (pm_cf (pm_Ev sl xs) (d + 1) 96 [.ref 40, .int (nI 2)] (SH, h10)) SH fun x60 h59 => some (some (.int x60), (SH, h59))))) else (pm_ix none a0 24 fun j46 => if (a1 + (nI 1)) ≤ (h10 52 j46) then (pm_ix none a0 24 fun j47 => pm_ix none a0 24 fun j48 => some (some (.int (((h10 52 j46) - (a1 + (nI 1))) + (nI 1))), (SH, (pm_up (pm_up h10 51 j47 (a1 + (nI 1))) 52 j48 (h10 52 j46))))) else (pm_ri (pm_cf (pm_Ev sl xs) (d + 1) 96 [.ref 40, .int (nI 2)] (SH, h10)) SH fun x50 h49 => some (some (.int x50), (SH, h49)))))) else (pm_ix none a0 24 fun j13 => if a2 = 0 then (pm_ix none a0 24 fun j19 => if (h10 52 j19) ≤ a1 then (pm_ix none a0 24 fun j20 => if (h10 51 j13) ≤ (h10 52 j20) then (pm_ix none a0 24 fun j21 => pm_ix none a0 24 fun j22 => some (some (.int (((h10 52 j20) - (h10 51 j13)) + (nI 1))), (SH, (pm_up (pm_up h10 51 j21 (h10 51 j13)) 52 j22 (h10 52 j20))))) else (pm_ri (pm_cf (pm_Ev sl xs) (d + 1) 96 [.ref 40, .int (nI 2)] (SH, h10)) SH fun x24 h23 => some (some (.int x24), (SH, h23)))) else (if (h10 51 j13) ≤ a1 then (pm_ix none a0 24 fun j25 => pm_ix none a0 24 fun j26 => some (some (.int ((a1 - (h10 51 j13)) + (nI 1))), (SH, (pm_up (pm_up h10 51 j25 (h10 51 j13)) 52 j26 a1)))) else (pm_ri (pm_cf (pm_Ev sl xs) (d + 1) 96 [.ref 40, .int (nI 2)] (SH, h10)) SH fun x28 h27 => some (some (.int x28), (SH, h27))))) else (pm_ix none a0 24 fun j14 => if (h10 51 j13) ≤ (h10 52 j14) then (pm_ix none a0 24 fun j15 => pm_ix none a0 24 fun j16 => some (some (.int (((h10 52 j14) - (h10 51 j13)) + (nI 1))), (SH, (pm_up (pm_up h10 51 j15 (h10 51 j13)) 52 j16 (h10 52 j14))))) else (pm_ri (pm_cf (pm_Ev sl xs) (d + 1) 96 [.ref 40, .int (nI 2)] (SH, h10)) SH fun x18 h17 => some (some (.int x18), (SH, h17))))))))) := by
  have hM : pm_mt 124 = some mt_124 := rfl
  refine e_call (L := [some (.ref 40), some (.int a0), some (.int a1), some (.int a2), none, none]) hM rfl rfl ?_
  refine e_aload_n (pc2 := 1) hM rfl rfl rfl ?_
  refine e_iload_n (pc2 := 2) hM rfl rfl rfl ?_
  refine e_cvi (pc2 := 5) (k := 39) (As := [.ref 40, .int a0]) (rest := []) hM rfl rfl rfl rfl rfl rfl rfl (fun x2 h1 => ?_)
  refine e_if_eq (pc2 := 8) (tgt := 33) hM rfl rfl rfl ?_ ?_
  · refine e_aload_n (pc2 := 34) hM rfl rfl rfl ?_
    refine e_iconst (pc2 := 35) (v := nI 1) hM rfl rfl rfl ?_
    refine e_cvi (pc2 := 38) (k := 39) (As := [.ref 40, .int (nI 1)]) (rest := []) hM rfl rfl rfl rfl rfl rfl rfl (fun x4 h3 => ?_)
    exact e_iret hM rfl rfl
  · refine e_iload_n (pc2 := 9) hM rfl rfl rfl ?_
    refine e_iconst (pc2 := 10) (v := nI 0) hM rfl rfl rfl ?_
    refine e_aload_n (pc2 := 11) hM rfl rfl rfl ?_
    refine e_getfr (pc2 := 14) (k := 39) (b := 49) hM rfl rfl rfl rfl rfl ?_
    refine e_iload_n (pc2 := 15) hM rfl rfl rfl ?_
    refine e_iald (pc2 := 16) (k := 48) (V := fun j5 => (h1 48 j5)) hM rfl rfl rfl (fun _ => rfl) (fun j5 => ?_)
    refine e_iconst (pc2 := 17) (v := nI 1) hM rfl rfl rfl ?_
    refine e_isub (pc2 := 18) hM rfl rfl ?_
    refine e_csi (pc2 := 21) (As := [.int a1, .int (nI 0), .int ((h1 48 j5) - (nI 1))]) (rest := []) hM rfl rfl rfl rfl rfl rfl rfl (fun x7 h6 => ?_)
    refine e_if_eq (pc2 := 24) (tgt := 33) hM rfl rfl rfl ?_ ?_
    · refine e_aload_n (pc2 := 34) hM rfl rfl rfl ?_
      refine e_iconst (pc2 := 35) (v := nI 1) hM rfl rfl rfl ?_
      refine e_cvi (pc2 := 38) (k := 39) (As := [.ref 40, .int (nI 1)]) (rest := []) hM rfl rfl rfl rfl rfl rfl rfl (fun x9 h8 => ?_)
      exact e_iret hM rfl rfl
    · refine e_iload_n (pc2 := 25) hM rfl rfl rfl ?_
      refine e_iconst (pc2 := 26) (v := nI 0) hM rfl rfl rfl ?_
      refine e_iconst (pc2 := 27) (v := nI 1) hM rfl rfl rfl ?_
      refine e_csi (pc2 := 30) (As := [.int a2, .int (nI 0), .int (nI 1)]) (rest := []) hM rfl rfl rfl rfl rfl rfl rfl (fun x11 h10 => ?_)
      refine e_if_ne (pc2 := 33) (tgt := 39) hM rfl rfl rfl ?_ ?_
      · refine e_aload_n (pc2 := 40) hM rfl rfl rfl ?_
        refine e_getfr (pc2 := 43) (k := 39) (b := 54) hM rfl rfl rfl rfl rfl ?_
        refine e_iload_n (pc2 := 44) hM rfl rfl rfl ?_
        refine e_bald (pc2 := 45) (k := 53) (V := fun j12 => (h10 53 j12)) hM rfl rfl rfl (fun _ => rfl) (fun j12 => ?_)
        refine e_if_ne (pc2 := 48) (tgt := 54) hM rfl rfl rfl ?_ ?_
        · refine e_iload_n (pc2 := 55) hM rfl rfl rfl ?_
          refine e_iconst (pc2 := 56) (v := nI 1) hM rfl rfl rfl ?_
          refine e_icmp_ne (pc2 := 59) (tgt := 77) hM rfl rfl rfl ?_ ?_
          · refine e_aload_n (pc2 := 78) hM rfl rfl rfl ?_
            refine e_getfr (pc2 := 81) (k := 39) (b := 52) hM rfl rfl rfl rfl rfl ?_
            refine e_iload_n (pc2 := 82) hM rfl rfl rfl ?_
            refine e_iald (pc2 := 83) (k := 51) (V := fun j13 => (h10 51 j13)) hM rfl rfl rfl (fun _ => rfl) (fun j13 => ?_)
            refine e_istore (pc2 := 85) (L2 := [some (.ref 40), some (.int a0), some (.int a1), some (.int a2), some (.int (h10 51 j13)), none]) hM rfl rfl rfl rfl ?_
            refine e_iload_n (pc2 := 86) hM rfl rfl rfl ?_
            refine e_if_ne (pc2 := 89) (tgt := 103) hM rfl rfl rfl ?_ ?_
            · refine e_aload_n (pc2 := 104) hM rfl rfl rfl ?_
              refine e_getfr (pc2 := 107) (k := 39) (b := 53) hM rfl rfl rfl rfl rfl ?_
              refine e_iload_n (pc2 := 108) hM rfl rfl rfl ?_
              refine e_iald (pc2 := 109) (k := 52) (V := fun j14 => (h10 52 j14)) hM rfl rfl rfl (fun _ => rfl) (fun j14 => ?_)
              refine e_istore (pc2 := 111) (L2 := [some (.ref 40), some (.int a0), some (.int a1), some (.int a2), some (.int (h10 51 j13)), some (.int (h10 52 j14))]) hM rfl rfl rfl rfl ?_
              refine e_iload (pc2 := 113) hM rfl rfl rfl ?_
              refine e_iload (pc2 := 115) hM rfl rfl rfl ?_
              refine e_icmp_le (pc2 := 118) (tgt := 124) hM rfl rfl rfl ?_ ?_
              · refine e_aload_n (pc2 := 125) hM rfl rfl rfl ?_
                refine e_getfr (pc2 := 128) (k := 39) (b := 52) hM rfl rfl rfl rfl rfl ?_
                refine e_iload_n (pc2 := 129) hM rfl rfl rfl ?_
                refine e_iload (pc2 := 131) hM rfl rfl rfl ?_
                refine e_iast (pc2 := 132) (k := 51) hM rfl rfl rfl (fun j15 => ?_)
                refine e_aload_n (pc2 := 133) hM rfl rfl rfl ?_
                refine e_getfr (pc2 := 136) (k := 39) (b := 53) hM rfl rfl rfl rfl rfl ?_
                refine e_iload_n (pc2 := 137) hM rfl rfl rfl ?_
                refine e_iload (pc2 := 139) hM rfl rfl rfl ?_
                refine e_iast (pc2 := 140) (k := 52) hM rfl rfl rfl (fun j16 => ?_)
                refine e_iload (pc2 := 142) hM rfl rfl rfl ?_
                refine e_iload (pc2 := 144) hM rfl rfl rfl ?_
                refine e_isub (pc2 := 145) hM rfl rfl ?_
                refine e_iconst (pc2 := 146) (v := nI 1) hM rfl rfl rfl ?_
                refine e_iadd (pc2 := 147) hM rfl rfl ?_
                exact e_iret hM rfl rfl
              · refine e_aload_n (pc2 := 119) hM rfl rfl rfl ?_
                refine e_iconst (pc2 := 120) (v := nI 2) hM rfl rfl rfl ?_
                refine e_cvi (pc2 := 123) (k := 39) (As := [.ref 40, .int (nI 2)]) (rest := []) hM rfl rfl rfl rfl rfl rfl rfl (fun x18 h17 => ?_)
                exact e_iret hM rfl rfl
            · refine e_iload_n (pc2 := 90) hM rfl rfl rfl ?_
              refine e_aload_n (pc2 := 91) hM rfl rfl rfl ?_
              refine e_getfr (pc2 := 94) (k := 39) (b := 53) hM rfl rfl rfl rfl rfl ?_
              refine e_iload_n (pc2 := 95) hM rfl rfl rfl ?_
              refine e_iald (pc2 := 96) (k := 52) (V := fun j19 => (h10 52 j19)) hM rfl rfl rfl (fun _ => rfl) (fun j19 => ?_)
              refine e_icmp_ge (pc2 := 99) (tgt := 103) hM rfl rfl rfl ?_ ?_
              · refine e_aload_n (pc2 := 104) hM rfl rfl rfl ?_
                refine e_getfr (pc2 := 107) (k := 39) (b := 53) hM rfl rfl rfl rfl rfl ?_
                refine e_iload_n (pc2 := 108) hM rfl rfl rfl ?_
                refine e_iald (pc2 := 109) (k := 52) (V := fun j20 => (h10 52 j20)) hM rfl rfl rfl (fun _ => rfl) (fun j20 => ?_)
                refine e_istore (pc2 := 111) (L2 := [some (.ref 40), some (.int a0), some (.int a1), some (.int a2), some (.int (h10 51 j13)), some (.int (h10 52 j20))]) hM rfl rfl rfl rfl ?_
                refine e_iload (pc2 := 113) hM rfl rfl rfl ?_
                refine e_iload (pc2 := 115) hM rfl rfl rfl ?_
                refine e_icmp_le (pc2 := 118) (tgt := 124) hM rfl rfl rfl ?_ ?_
                · refine e_aload_n (pc2 := 125) hM rfl rfl rfl ?_
                  refine e_getfr (pc2 := 128) (k := 39) (b := 52) hM rfl rfl rfl rfl rfl ?_
                  refine e_iload_n (pc2 := 129) hM rfl rfl rfl ?_
                  refine e_iload (pc2 := 131) hM rfl rfl rfl ?_
                  refine e_iast (pc2 := 132) (k := 51) hM rfl rfl rfl (fun j21 => ?_)
                  refine e_aload_n (pc2 := 133) hM rfl rfl rfl ?_
                  refine e_getfr (pc2 := 136) (k := 39) (b := 53) hM rfl rfl rfl rfl rfl ?_
                  refine e_iload_n (pc2 := 137) hM rfl rfl rfl ?_
                  refine e_iload (pc2 := 139) hM rfl rfl rfl ?_
                  refine e_iast (pc2 := 140) (k := 52) hM rfl rfl rfl (fun j22 => ?_)
                  refine e_iload (pc2 := 142) hM rfl rfl rfl ?_
                  refine e_iload (pc2 := 144) hM rfl rfl rfl ?_
                  refine e_isub (pc2 := 145) hM rfl rfl ?_
                  refine e_iconst (pc2 := 146) (v := nI 1) hM rfl rfl rfl ?_
                  refine e_iadd (pc2 := 147) hM rfl rfl ?_
                  exact e_iret hM rfl rfl
                · refine e_aload_n (pc2 := 119) hM rfl rfl rfl ?_
                  refine e_iconst (pc2 := 120) (v := nI 2) hM rfl rfl rfl ?_
                  refine e_cvi (pc2 := 123) (k := 39) (As := [.ref 40, .int (nI 2)]) (rest := []) hM rfl rfl rfl rfl rfl rfl rfl (fun x24 h23 => ?_)
                  exact e_iret hM rfl rfl
              · refine e_iload_n (pc2 := 100) hM rfl rfl rfl ?_
                refine e_goto (tgt := 109) hM rfl rfl ?_
                refine e_istore (pc2 := 111) (L2 := [some (.ref 40), some (.int a0), some (.int a1), some (.int a2), some (.int (h10 51 j13)), some (.int a1)]) hM rfl rfl rfl rfl ?_
                refine e_iload (pc2 := 113) hM rfl rfl rfl ?_
                refine e_iload (pc2 := 115) hM rfl rfl rfl ?_
                refine e_icmp_le (pc2 := 118) (tgt := 124) hM rfl rfl rfl ?_ ?_
                · refine e_aload_n (pc2 := 125) hM rfl rfl rfl ?_
                  refine e_getfr (pc2 := 128) (k := 39) (b := 52) hM rfl rfl rfl rfl rfl ?_
                  refine e_iload_n (pc2 := 129) hM rfl rfl rfl ?_
                  refine e_iload (pc2 := 131) hM rfl rfl rfl ?_
                  refine e_iast (pc2 := 132) (k := 51) hM rfl rfl rfl (fun j25 => ?_)
                  refine e_aload_n (pc2 := 133) hM rfl rfl rfl ?_
                  refine e_getfr (pc2 := 136) (k := 39) (b := 53) hM rfl rfl rfl rfl rfl ?_
                  refine e_iload_n (pc2 := 137) hM rfl rfl rfl ?_
                  refine e_iload (pc2 := 139) hM rfl rfl rfl ?_
                  refine e_iast (pc2 := 140) (k := 52) hM rfl rfl rfl (fun j26 => ?_)
                  refine e_iload (pc2 := 142) hM rfl rfl rfl ?_
                  refine e_iload (pc2 := 144) hM rfl rfl rfl ?_
                  refine e_isub (pc2 := 145) hM rfl rfl ?_
                  refine e_iconst (pc2 := 146) (v := nI 1) hM rfl rfl rfl ?_
                  refine e_iadd (pc2 := 147) hM rfl rfl ?_
                  exact e_iret hM rfl rfl
                · refine e_aload_n (pc2 := 119) hM rfl rfl rfl ?_
                  refine e_iconst (pc2 := 120) (v := nI 2) hM rfl rfl rfl ?_
                  refine e_cvi (pc2 := 123) (k := 39) (As := [.ref 40, .int (nI 2)]) (rest := []) hM rfl rfl rfl rfl rfl rfl rfl (fun x28 h27 => ?_)
                  exact e_iret hM rfl rfl
          · refine e_iload_n (pc2 := 60) hM rfl rfl rfl ?_
            refine e_iconst (pc2 := 61) (v := nI 1) hM rfl rfl rfl ?_
            refine e_iadd (pc2 := 62) hM rfl rfl ?_
            refine e_aload_n (pc2 := 63) hM rfl rfl rfl ?_
            refine e_getfr (pc2 := 66) (k := 39) (b := 52) hM rfl rfl rfl rfl rfl ?_
            refine e_iload_n (pc2 := 67) hM rfl rfl rfl ?_
            refine e_iald (pc2 := 68) (k := 51) (V := fun j29 => (h10 51 j29)) hM rfl rfl rfl (fun _ => rfl) (fun j29 => ?_)
            refine e_icmp_le (pc2 := 71) (tgt := 77) hM rfl rfl rfl ?_ ?_
            · refine e_aload_n (pc2 := 78) hM rfl rfl rfl ?_
              refine e_getfr (pc2 := 81) (k := 39) (b := 52) hM rfl rfl rfl rfl rfl ?_
              refine e_iload_n (pc2 := 82) hM rfl rfl rfl ?_
              refine e_iald (pc2 := 83) (k := 51) (V := fun j30 => (h10 51 j30)) hM rfl rfl rfl (fun _ => rfl) (fun j30 => ?_)
              refine e_istore (pc2 := 85) (L2 := [some (.ref 40), some (.int a0), some (.int a1), some (.int a2), some (.int (h10 51 j30)), none]) hM rfl rfl rfl rfl ?_
              refine e_iload_n (pc2 := 86) hM rfl rfl rfl ?_
              refine e_if_ne (pc2 := 89) (tgt := 103) hM rfl rfl rfl ?_ ?_
              · refine e_aload_n (pc2 := 104) hM rfl rfl rfl ?_
                refine e_getfr (pc2 := 107) (k := 39) (b := 53) hM rfl rfl rfl rfl rfl ?_
                refine e_iload_n (pc2 := 108) hM rfl rfl rfl ?_
                refine e_iald (pc2 := 109) (k := 52) (V := fun j31 => (h10 52 j31)) hM rfl rfl rfl (fun _ => rfl) (fun j31 => ?_)
                refine e_istore (pc2 := 111) (L2 := [some (.ref 40), some (.int a0), some (.int a1), some (.int a2), some (.int (h10 51 j30)), some (.int (h10 52 j31))]) hM rfl rfl rfl rfl ?_
                refine e_iload (pc2 := 113) hM rfl rfl rfl ?_
                refine e_iload (pc2 := 115) hM rfl rfl rfl ?_
                refine e_icmp_le (pc2 := 118) (tgt := 124) hM rfl rfl rfl ?_ ?_
                · refine e_aload_n (pc2 := 125) hM rfl rfl rfl ?_
                  refine e_getfr (pc2 := 128) (k := 39) (b := 52) hM rfl rfl rfl rfl rfl ?_
                  refine e_iload_n (pc2 := 129) hM rfl rfl rfl ?_
                  refine e_iload (pc2 := 131) hM rfl rfl rfl ?_
                  refine e_iast (pc2 := 132) (k := 51) hM rfl rfl rfl (fun j32 => ?_)
                  refine e_aload_n (pc2 := 133) hM rfl rfl rfl ?_
                  refine e_getfr (pc2 := 136) (k := 39) (b := 53) hM rfl rfl rfl rfl rfl ?_
                  refine e_iload_n (pc2 := 137) hM rfl rfl rfl ?_
                  refine e_iload (pc2 := 139) hM rfl rfl rfl ?_
                  refine e_iast (pc2 := 140) (k := 52) hM rfl rfl rfl (fun j33 => ?_)
                  refine e_iload (pc2 := 142) hM rfl rfl rfl ?_
                  refine e_iload (pc2 := 144) hM rfl rfl rfl ?_
                  refine e_isub (pc2 := 145) hM rfl rfl ?_
                  refine e_iconst (pc2 := 146) (v := nI 1) hM rfl rfl rfl ?_
                  refine e_iadd (pc2 := 147) hM rfl rfl ?_
                  exact e_iret hM rfl rfl
                · refine e_aload_n (pc2 := 119) hM rfl rfl rfl ?_
                  refine e_iconst (pc2 := 120) (v := nI 2) hM rfl rfl rfl ?_
                  refine e_cvi (pc2 := 123) (k := 39) (As := [.ref 40, .int (nI 2)]) (rest := []) hM rfl rfl rfl rfl rfl rfl rfl (fun x35 h34 => ?_)
                  exact e_iret hM rfl rfl
              · refine e_iload_n (pc2 := 90) hM rfl rfl rfl ?_
                refine e_aload_n (pc2 := 91) hM rfl rfl rfl ?_
                refine e_getfr (pc2 := 94) (k := 39) (b := 53) hM rfl rfl rfl rfl rfl ?_
                refine e_iload_n (pc2 := 95) hM rfl rfl rfl ?_
                refine e_iald (pc2 := 96) (k := 52) (V := fun j36 => (h10 52 j36)) hM rfl rfl rfl (fun _ => rfl) (fun j36 => ?_)
                refine e_icmp_ge (pc2 := 99) (tgt := 103) hM rfl rfl rfl ?_ ?_
                · refine e_aload_n (pc2 := 104) hM rfl rfl rfl ?_
                  refine e_getfr (pc2 := 107) (k := 39) (b := 53) hM rfl rfl rfl rfl rfl ?_
                  refine e_iload_n (pc2 := 108) hM rfl rfl rfl ?_
                  refine e_iald (pc2 := 109) (k := 52) (V := fun j37 => (h10 52 j37)) hM rfl rfl rfl (fun _ => rfl) (fun j37 => ?_)
                  refine e_istore (pc2 := 111) (L2 := [some (.ref 40), some (.int a0), some (.int a1), some (.int a2), some (.int (h10 51 j30)), some (.int (h10 52 j37))]) hM rfl rfl rfl rfl ?_
                  refine e_iload (pc2 := 113) hM rfl rfl rfl ?_
                  refine e_iload (pc2 := 115) hM rfl rfl rfl ?_
                  refine e_icmp_le (pc2 := 118) (tgt := 124) hM rfl rfl rfl ?_ ?_
                  · refine e_aload_n (pc2 := 125) hM rfl rfl rfl ?_
                    refine e_getfr (pc2 := 128) (k := 39) (b := 52) hM rfl rfl rfl rfl rfl ?_
                    refine e_iload_n (pc2 := 129) hM rfl rfl rfl ?_
                    refine e_iload (pc2 := 131) hM rfl rfl rfl ?_
                    refine e_iast (pc2 := 132) (k := 51) hM rfl rfl rfl (fun j38 => ?_)
                    refine e_aload_n (pc2 := 133) hM rfl rfl rfl ?_
                    refine e_getfr (pc2 := 136) (k := 39) (b := 53) hM rfl rfl rfl rfl rfl ?_
                    refine e_iload_n (pc2 := 137) hM rfl rfl rfl ?_
                    refine e_iload (pc2 := 139) hM rfl rfl rfl ?_
                    refine e_iast (pc2 := 140) (k := 52) hM rfl rfl rfl (fun j39 => ?_)
                    refine e_iload (pc2 := 142) hM rfl rfl rfl ?_
                    refine e_iload (pc2 := 144) hM rfl rfl rfl ?_
                    refine e_isub (pc2 := 145) hM rfl rfl ?_
                    refine e_iconst (pc2 := 146) (v := nI 1) hM rfl rfl rfl ?_
                    refine e_iadd (pc2 := 147) hM rfl rfl ?_
                    exact e_iret hM rfl rfl
                  · refine e_aload_n (pc2 := 119) hM rfl rfl rfl ?_
                    refine e_iconst (pc2 := 120) (v := nI 2) hM rfl rfl rfl ?_
                    refine e_cvi (pc2 := 123) (k := 39) (As := [.ref 40, .int (nI 2)]) (rest := []) hM rfl rfl rfl rfl rfl rfl rfl (fun x41 h40 => ?_)
                    exact e_iret hM rfl rfl
                · refine e_iload_n (pc2 := 100) hM rfl rfl rfl ?_
                  refine e_goto (tgt := 109) hM rfl rfl ?_
                  refine e_istore (pc2 := 111) (L2 := [some (.ref 40), some (.int a0), some (.int a1), some (.int a2), some (.int (h10 51 j30)), some (.int a1)]) hM rfl rfl rfl rfl ?_
                  refine e_iload (pc2 := 113) hM rfl rfl rfl ?_
                  refine e_iload (pc2 := 115) hM rfl rfl rfl ?_
                  refine e_icmp_le (pc2 := 118) (tgt := 124) hM rfl rfl rfl ?_ ?_
                  · refine e_aload_n (pc2 := 125) hM rfl rfl rfl ?_
                    refine e_getfr (pc2 := 128) (k := 39) (b := 52) hM rfl rfl rfl rfl rfl ?_
                    refine e_iload_n (pc2 := 129) hM rfl rfl rfl ?_
                    refine e_iload (pc2 := 131) hM rfl rfl rfl ?_
                    refine e_iast (pc2 := 132) (k := 51) hM rfl rfl rfl (fun j42 => ?_)
                    refine e_aload_n (pc2 := 133) hM rfl rfl rfl ?_
                    refine e_getfr (pc2 := 136) (k := 39) (b := 53) hM rfl rfl rfl rfl rfl ?_
                    refine e_iload_n (pc2 := 137) hM rfl rfl rfl ?_
                    refine e_iload (pc2 := 139) hM rfl rfl rfl ?_
                    refine e_iast (pc2 := 140) (k := 52) hM rfl rfl rfl (fun j43 => ?_)
                    refine e_iload (pc2 := 142) hM rfl rfl rfl ?_
                    refine e_iload (pc2 := 144) hM rfl rfl rfl ?_
                    refine e_isub (pc2 := 145) hM rfl rfl ?_
                    refine e_iconst (pc2 := 146) (v := nI 1) hM rfl rfl rfl ?_
                    refine e_iadd (pc2 := 147) hM rfl rfl ?_
                    exact e_iret hM rfl rfl
                  · refine e_aload_n (pc2 := 119) hM rfl rfl rfl ?_
                    refine e_iconst (pc2 := 120) (v := nI 2) hM rfl rfl rfl ?_
                    refine e_cvi (pc2 := 123) (k := 39) (As := [.ref 40, .int (nI 2)]) (rest := []) hM rfl rfl rfl rfl rfl rfl rfl (fun x45 h44 => ?_)
                    exact e_iret hM rfl rfl
            · refine e_iload_n (pc2 := 72) hM rfl rfl rfl ?_
              refine e_iconst (pc2 := 73) (v := nI 1) hM rfl rfl rfl ?_
              refine e_iadd (pc2 := 74) hM rfl rfl ?_
              refine e_goto (tgt := 83) hM rfl rfl ?_
              refine e_istore (pc2 := 85) (L2 := [some (.ref 40), some (.int a0), some (.int a1), some (.int a2), some (.int (a1 + (nI 1))), none]) hM rfl rfl rfl rfl ?_
              refine e_iload_n (pc2 := 86) hM rfl rfl rfl ?_
              refine e_if_ne (pc2 := 89) (tgt := 103) hM rfl rfl rfl ?_ ?_
              · refine e_aload_n (pc2 := 104) hM rfl rfl rfl ?_
                refine e_getfr (pc2 := 107) (k := 39) (b := 53) hM rfl rfl rfl rfl rfl ?_
                refine e_iload_n (pc2 := 108) hM rfl rfl rfl ?_
                refine e_iald (pc2 := 109) (k := 52) (V := fun j46 => (h10 52 j46)) hM rfl rfl rfl (fun _ => rfl) (fun j46 => ?_)
                refine e_istore (pc2 := 111) (L2 := [some (.ref 40), some (.int a0), some (.int a1), some (.int a2), some (.int (a1 + (nI 1))), some (.int (h10 52 j46))]) hM rfl rfl rfl rfl ?_
                refine e_iload (pc2 := 113) hM rfl rfl rfl ?_
                refine e_iload (pc2 := 115) hM rfl rfl rfl ?_
                refine e_icmp_le (pc2 := 118) (tgt := 124) hM rfl rfl rfl ?_ ?_
                · refine e_aload_n (pc2 := 125) hM rfl rfl rfl ?_
                  refine e_getfr (pc2 := 128) (k := 39) (b := 52) hM rfl rfl rfl rfl rfl ?_
                  refine e_iload_n (pc2 := 129) hM rfl rfl rfl ?_
                  refine e_iload (pc2 := 131) hM rfl rfl rfl ?_
                  refine e_iast (pc2 := 132) (k := 51) hM rfl rfl rfl (fun j47 => ?_)
                  refine e_aload_n (pc2 := 133) hM rfl rfl rfl ?_
                  refine e_getfr (pc2 := 136) (k := 39) (b := 53) hM rfl rfl rfl rfl rfl ?_
                  refine e_iload_n (pc2 := 137) hM rfl rfl rfl ?_
                  refine e_iload (pc2 := 139) hM rfl rfl rfl ?_
                  refine e_iast (pc2 := 140) (k := 52) hM rfl rfl rfl (fun j48 => ?_)
                  refine e_iload (pc2 := 142) hM rfl rfl rfl ?_
                  refine e_iload (pc2 := 144) hM rfl rfl rfl ?_
                  refine e_isub (pc2 := 145) hM rfl rfl ?_
                  refine e_iconst (pc2 := 146) (v := nI 1) hM rfl rfl rfl ?_
                  refine e_iadd (pc2 := 147) hM rfl rfl ?_
                  exact e_iret hM rfl rfl
                · refine e_aload_n (pc2 := 119) hM rfl rfl rfl ?_
                  refine e_iconst (pc2 := 120) (v := nI 2) hM rfl rfl rfl ?_
                  refine e_cvi (pc2 := 123) (k := 39) (As := [.ref 40, .int (nI 2)]) (rest := []) hM rfl rfl rfl rfl rfl rfl rfl (fun x50 h49 => ?_)
                  exact e_iret hM rfl rfl
              · refine e_iload_n (pc2 := 90) hM rfl rfl rfl ?_
                refine e_aload_n (pc2 := 91) hM rfl rfl rfl ?_
                refine e_getfr (pc2 := 94) (k := 39) (b := 53) hM rfl rfl rfl rfl rfl ?_
                refine e_iload_n (pc2 := 95) hM rfl rfl rfl ?_
                refine e_iald (pc2 := 96) (k := 52) (V := fun j51 => (h10 52 j51)) hM rfl rfl rfl (fun _ => rfl) (fun j51 => ?_)
                refine e_icmp_ge (pc2 := 99) (tgt := 103) hM rfl rfl rfl ?_ ?_
                · refine e_aload_n (pc2 := 104) hM rfl rfl rfl ?_
                  refine e_getfr (pc2 := 107) (k := 39) (b := 53) hM rfl rfl rfl rfl rfl ?_
                  refine e_iload_n (pc2 := 108) hM rfl rfl rfl ?_
                  refine e_iald (pc2 := 109) (k := 52) (V := fun j52 => (h10 52 j52)) hM rfl rfl rfl (fun _ => rfl) (fun j52 => ?_)
                  refine e_istore (pc2 := 111) (L2 := [some (.ref 40), some (.int a0), some (.int a1), some (.int a2), some (.int (a1 + (nI 1))), some (.int (h10 52 j52))]) hM rfl rfl rfl rfl ?_
                  refine e_iload (pc2 := 113) hM rfl rfl rfl ?_
                  refine e_iload (pc2 := 115) hM rfl rfl rfl ?_
                  refine e_icmp_le (pc2 := 118) (tgt := 124) hM rfl rfl rfl ?_ ?_
                  · refine e_aload_n (pc2 := 125) hM rfl rfl rfl ?_
                    refine e_getfr (pc2 := 128) (k := 39) (b := 52) hM rfl rfl rfl rfl rfl ?_
                    refine e_iload_n (pc2 := 129) hM rfl rfl rfl ?_
                    refine e_iload (pc2 := 131) hM rfl rfl rfl ?_
                    refine e_iast (pc2 := 132) (k := 51) hM rfl rfl rfl (fun j53 => ?_)
                    refine e_aload_n (pc2 := 133) hM rfl rfl rfl ?_
                    refine e_getfr (pc2 := 136) (k := 39) (b := 53) hM rfl rfl rfl rfl rfl ?_
                    refine e_iload_n (pc2 := 137) hM rfl rfl rfl ?_
                    refine e_iload (pc2 := 139) hM rfl rfl rfl ?_
                    refine e_iast (pc2 := 140) (k := 52) hM rfl rfl rfl (fun j54 => ?_)
                    refine e_iload (pc2 := 142) hM rfl rfl rfl ?_
                    refine e_iload (pc2 := 144) hM rfl rfl rfl ?_
                    refine e_isub (pc2 := 145) hM rfl rfl ?_
                    refine e_iconst (pc2 := 146) (v := nI 1) hM rfl rfl rfl ?_
                    refine e_iadd (pc2 := 147) hM rfl rfl ?_
                    exact e_iret hM rfl rfl
                  · refine e_aload_n (pc2 := 119) hM rfl rfl rfl ?_
                    refine e_iconst (pc2 := 120) (v := nI 2) hM rfl rfl rfl ?_
                    refine e_cvi (pc2 := 123) (k := 39) (As := [.ref 40, .int (nI 2)]) (rest := []) hM rfl rfl rfl rfl rfl rfl rfl (fun x56 h55 => ?_)
                    exact e_iret hM rfl rfl
                · refine e_iload_n (pc2 := 100) hM rfl rfl rfl ?_
                  refine e_goto (tgt := 109) hM rfl rfl ?_
                  refine e_istore (pc2 := 111) (L2 := [some (.ref 40), some (.int a0), some (.int a1), some (.int a2), some (.int (a1 + (nI 1))), some (.int a1)]) hM rfl rfl rfl rfl ?_
                  refine e_iload (pc2 := 113) hM rfl rfl rfl ?_
                  refine e_iload (pc2 := 115) hM rfl rfl rfl ?_
                  refine e_icmp_le (pc2 := 118) (tgt := 124) hM rfl rfl rfl ?_ ?_
                  · refine e_aload_n (pc2 := 125) hM rfl rfl rfl ?_
                    refine e_getfr (pc2 := 128) (k := 39) (b := 52) hM rfl rfl rfl rfl rfl ?_
                    refine e_iload_n (pc2 := 129) hM rfl rfl rfl ?_
                    refine e_iload (pc2 := 131) hM rfl rfl rfl ?_
                    refine e_iast (pc2 := 132) (k := 51) hM rfl rfl rfl (fun j57 => ?_)
                    refine e_aload_n (pc2 := 133) hM rfl rfl rfl ?_
                    refine e_getfr (pc2 := 136) (k := 39) (b := 53) hM rfl rfl rfl rfl rfl ?_
                    refine e_iload_n (pc2 := 137) hM rfl rfl rfl ?_
                    refine e_iload (pc2 := 139) hM rfl rfl rfl ?_
                    refine e_iast (pc2 := 140) (k := 52) hM rfl rfl rfl (fun j58 => ?_)
                    refine e_iload (pc2 := 142) hM rfl rfl rfl ?_
                    refine e_iload (pc2 := 144) hM rfl rfl rfl ?_
                    refine e_isub (pc2 := 145) hM rfl rfl ?_
                    refine e_iconst (pc2 := 146) (v := nI 1) hM rfl rfl rfl ?_
                    refine e_iadd (pc2 := 147) hM rfl rfl ?_
                    exact e_iret hM rfl rfl
                  · refine e_aload_n (pc2 := 119) hM rfl rfl rfl ?_
                    refine e_iconst (pc2 := 120) (v := nI 2) hM rfl rfl rfl ?_
                    refine e_cvi (pc2 := 123) (k := 39) (As := [.ref 40, .int (nI 2)]) (rest := []) hM rfl rfl rfl rfl rfl rfl rfl (fun x60 h59 => ?_)
                    exact e_iret hM rfl rfl
        · refine e_aload_n (pc2 := 49) hM rfl rfl rfl ?_
          refine e_iconst (pc2 := 50) (v := nI 3) hM rfl rfl rfl ?_
          refine e_cvi (pc2 := 53) (k := 39) (As := [.ref 40, .int (nI 3)]) (rest := []) hM rfl rfl rfl rfl rfl rfl rfl (fun x62 h61 => ?_)
          exact e_iret hM rfl rfl
      · refine e_aload_n (pc2 := 34) hM rfl rfl rfl ?_
        refine e_iconst (pc2 := 35) (v := nI 1) hM rfl rfl rfl ?_
        refine e_cvi (pc2 := 38) (k := 39) (As := [.ref 40, .int (nI 1)]) (rest := []) hM rfl rfl rfl rfl rfl rfl rfl (fun x64 h63 => ?_)
        exact e_iret hM rfl rfl
theorem qX8_next_0 {sl : Nat} {xs : Nat → Int32} {d : Nat} {a0 : Int32} {h : pmH} : pm_cf (pm_Ev sl xs) (d + 2) 125 [.ref 40, .int a0] (SH, h) = pm_ri (pm_cf (pm_Ev sl xs) (d + 1) 97 [.ref 40, .int a0] (SH, h)) SH fun x2 h1 => if x2 = 0 then (pm_ri (pm_cf (pm_Ev sl xs) (d + 1) 96 [.ref 40, .int (nI 1)] (SH, h1)) SH fun x13 h12 => some (some (.int x13), (SH, h12))) else (pm_ix none a0 24 fun j3 => if (h1 53 j3) = 0 then (pm_ri (pm_cf (pm_Ev sl xs) (d + 1) 96 [.ref 40, .int (nI 3)] (SH, h1)) SH fun x11 h10 => some (some (.int x11), (SH, h10))) else (pm_ix none a0 24 fun j4 => pm_ix none a0 24 fun j5 => if (h1 51 j4) = (h1 52 j5) then (pm_ri (pm_cf (pm_Ev sl xs) (d + 1) 96 [.ref 40, .int (nI 2)] (SH, h1)) SH fun x9 h8 => some (some (.int x9), (SH, h8))) else (pm_ix none a0 24 fun j6 => pm_ix none a0 24 fun j7 => if nI 2 = 0 then none else (some (some (.int (((h1 51 j6) + (h1 52 j7)) / (nI 2))), (SH, h1)))))) := by
  have hM : pm_mt 125 = some mt_125 := rfl
  refine e_call (L := [some (.ref 40), some (.int a0)]) hM rfl rfl ?_
  refine e_aload_n (pc2 := 1) hM rfl rfl rfl ?_
  refine e_iload_n (pc2 := 2) hM rfl rfl rfl ?_
  refine e_cvi (pc2 := 5) (k := 39) (As := [.ref 40, .int a0]) (rest := []) hM rfl rfl rfl rfl rfl rfl rfl (fun x2 h1 => ?_)
  refine e_if_ne (pc2 := 8) (tgt := 14) hM rfl rfl rfl ?_ ?_
  · refine e_aload_n (pc2 := 15) hM rfl rfl rfl ?_
    refine e_getfr (pc2 := 18) (k := 39) (b := 54) hM rfl rfl rfl rfl rfl ?_
    refine e_iload_n (pc2 := 19) hM rfl rfl rfl ?_
    refine e_bald (pc2 := 20) (k := 53) (V := fun j3 => (h1 53 j3)) hM rfl rfl rfl (fun _ => rfl) (fun j3 => ?_)
    refine e_if_ne (pc2 := 23) (tgt := 29) hM rfl rfl rfl ?_ ?_
    · refine e_aload_n (pc2 := 30) hM rfl rfl rfl ?_
      refine e_getfr (pc2 := 33) (k := 39) (b := 52) hM rfl rfl rfl rfl rfl ?_
      refine e_iload_n (pc2 := 34) hM rfl rfl rfl ?_
      refine e_iald (pc2 := 35) (k := 51) (V := fun j4 => (h1 51 j4)) hM rfl rfl rfl (fun _ => rfl) (fun j4 => ?_)
      refine e_aload_n (pc2 := 36) hM rfl rfl rfl ?_
      refine e_getfr (pc2 := 39) (k := 39) (b := 53) hM rfl rfl rfl rfl rfl ?_
      refine e_iload_n (pc2 := 40) hM rfl rfl rfl ?_
      refine e_iald (pc2 := 41) (k := 52) (V := fun j5 => (h1 52 j5)) hM rfl rfl rfl (fun _ => rfl) (fun j5 => ?_)
      refine e_icmp_ne (pc2 := 44) (tgt := 52) hM rfl rfl rfl ?_ ?_
      · refine e_aload_n (pc2 := 53) hM rfl rfl rfl ?_
        refine e_getfr (pc2 := 56) (k := 39) (b := 52) hM rfl rfl rfl rfl rfl ?_
        refine e_iload_n (pc2 := 57) hM rfl rfl rfl ?_
        refine e_iald (pc2 := 58) (k := 51) (V := fun j6 => (h1 51 j6)) hM rfl rfl rfl (fun _ => rfl) (fun j6 => ?_)
        refine e_aload_n (pc2 := 59) hM rfl rfl rfl ?_
        refine e_getfr (pc2 := 62) (k := 39) (b := 53) hM rfl rfl rfl rfl rfl ?_
        refine e_iload_n (pc2 := 63) hM rfl rfl rfl ?_
        refine e_iald (pc2 := 64) (k := 52) (V := fun j7 => (h1 52 j7)) hM rfl rfl rfl (fun _ => rfl) (fun j7 => ?_)
        refine e_iadd (pc2 := 65) hM rfl rfl ?_
        refine e_iconst (pc2 := 66) (v := nI 2) hM rfl rfl rfl ?_
        refine e_idiv (pc2 := 67) hM rfl rfl ?_
        exact e_iret hM rfl rfl
      · refine e_aload_n (pc2 := 45) hM rfl rfl rfl ?_
        refine e_iconst (pc2 := 46) (v := nI 2) hM rfl rfl rfl ?_
        refine e_cvi (pc2 := 49) (k := 39) (As := [.ref 40, .int (nI 2)]) (rest := []) hM rfl rfl rfl rfl rfl rfl rfl (fun x9 h8 => ?_)
        refine e_goto (tgt := 67) hM rfl rfl ?_
        exact e_iret hM rfl rfl
    · refine e_aload_n (pc2 := 24) hM rfl rfl rfl ?_
      refine e_iconst (pc2 := 25) (v := nI 3) hM rfl rfl rfl ?_
      refine e_cvi (pc2 := 28) (k := 39) (As := [.ref 40, .int (nI 3)]) (rest := []) hM rfl rfl rfl rfl rfl rfl rfl (fun x11 h10 => ?_)
      exact e_iret hM rfl rfl
  · refine e_aload_n (pc2 := 9) hM rfl rfl rfl ?_
    refine e_iconst (pc2 := 10) (v := nI 1) hM rfl rfl rfl ?_
    refine e_cvi (pc2 := 13) (k := 39) (As := [.ref 40, .int (nI 1)]) (rest := []) hM rfl rfl rfl rfl rfl rfl rfl (fun x13 h12 => ?_)
    exact e_iret hM rfl rfl
theorem qX8_fault_0 {sl : Nat} {xs : Nat → Int32} {d : Nat} {a0 a1 : Int32} {h : pmH} : pm_cf (pm_Ev sl xs) (d + 2) 126 [.ref 40, .int a0, .int a1] (SH, h) = pm_ri (pm_cf (pm_Ev sl xs) (d + 1) 97 [.ref 40, .int a0] (SH, h)) SH fun x2 h1 => if x2 = 0 then (pm_ri (pm_cf (pm_Ev sl xs) (d + 1) 96 [.ref 40, .int (nI 1)] (SH, h1)) SH fun x9 h8 => some (some (.int x9), (SH, h8))) else (pm_ix none a0 24 fun j3 => if (h1 53 j3) = 0 then (pm_ri (pm_cf (pm_Ev sl xs) (d + 1) 96 [.ref 40, .int (nI 3)] (SH, h1)) SH fun x7 h6 => some (some (.int x7), (SH, h6))) else (if a1 = 0 then (pm_ix none a0 24 fun j4 => some (some (.int (h1 51 j4)), (SH, h1))) else (pm_ix none a0 24 fun j5 => some (some (.int (h1 52 j5)), (SH, h1))))) := by
  have hM : pm_mt 126 = some mt_126 := rfl
  refine e_call (L := [some (.ref 40), some (.int a0), some (.int a1)]) hM rfl rfl ?_
  refine e_aload_n (pc2 := 1) hM rfl rfl rfl ?_
  refine e_iload_n (pc2 := 2) hM rfl rfl rfl ?_
  refine e_cvi (pc2 := 5) (k := 39) (As := [.ref 40, .int a0]) (rest := []) hM rfl rfl rfl rfl rfl rfl rfl (fun x2 h1 => ?_)
  refine e_if_ne (pc2 := 8) (tgt := 14) hM rfl rfl rfl ?_ ?_
  · refine e_aload_n (pc2 := 15) hM rfl rfl rfl ?_
    refine e_getfr (pc2 := 18) (k := 39) (b := 54) hM rfl rfl rfl rfl rfl ?_
    refine e_iload_n (pc2 := 19) hM rfl rfl rfl ?_
    refine e_bald (pc2 := 20) (k := 53) (V := fun j3 => (h1 53 j3)) hM rfl rfl rfl (fun _ => rfl) (fun j3 => ?_)
    refine e_if_ne (pc2 := 23) (tgt := 29) hM rfl rfl rfl ?_ ?_
    · refine e_iload_n (pc2 := 30) hM rfl rfl rfl ?_
      refine e_if_eq (pc2 := 33) (tgt := 42) hM rfl rfl rfl ?_ ?_
      · refine e_aload_n (pc2 := 43) hM rfl rfl rfl ?_
        refine e_getfr (pc2 := 46) (k := 39) (b := 52) hM rfl rfl rfl rfl rfl ?_
        refine e_iload_n (pc2 := 47) hM rfl rfl rfl ?_
        refine e_iald (pc2 := 48) (k := 51) (V := fun j4 => (h1 51 j4)) hM rfl rfl rfl (fun _ => rfl) (fun j4 => ?_)
        exact e_iret hM rfl rfl
      · refine e_aload_n (pc2 := 34) hM rfl rfl rfl ?_
        refine e_getfr (pc2 := 37) (k := 39) (b := 53) hM rfl rfl rfl rfl rfl ?_
        refine e_iload_n (pc2 := 38) hM rfl rfl rfl ?_
        refine e_iald (pc2 := 39) (k := 52) (V := fun j5 => (h1 52 j5)) hM rfl rfl rfl (fun _ => rfl) (fun j5 => ?_)
        refine e_goto (tgt := 48) hM rfl rfl ?_
        exact e_iret hM rfl rfl
    · refine e_aload_n (pc2 := 24) hM rfl rfl rfl ?_
      refine e_iconst (pc2 := 25) (v := nI 3) hM rfl rfl rfl ?_
      refine e_cvi (pc2 := 28) (k := 39) (As := [.ref 40, .int (nI 3)]) (rest := []) hM rfl rfl rfl rfl rfl rfl rfl (fun x7 h6 => ?_)
      exact e_iret hM rfl rfl
  · refine e_aload_n (pc2 := 9) hM rfl rfl rfl ?_
    refine e_iconst (pc2 := 10) (v := nI 1) hM rfl rfl rfl ?_
    refine e_cvi (pc2 := 13) (k := 39) (As := [.ref 40, .int (nI 1)]) (rest := []) hM rfl rfl rfl rfl rfl rfl rfl (fun x9 h8 => ?_)
    exact e_iret hM rfl rfl
theorem qX8_crews_0 {sl : Nat} {xs : Nat → Int32} {d : Nat} {a0 a1 : Int32} {h : pmH} : pm_cf (pm_Ev sl xs) (d + 2) 127 [.ref 40, .int a0, .int a1] (SH, h) = pm_ri (pm_cf (pm_Ev sl xs) (d + 1) 95 [.int a0, .int (nI 1), .int (nI 3)] (SH, h)) SH fun x2 h1 => if x2 = 0 then (pm_ri (pm_cf (pm_Ev sl xs) (d + 1) 96 [.ref 40, .int (nI 1)] (SH, h1)) SH fun x4 h3 => some (some (.int x4), (SH, h3))) else (pm_ri (pm_cf (pm_Ev sl xs) (d + 1) 95 [.int a1, .int (nI 1), .int (nI 12)] (SH, h1)) SH fun x6 h5 => if x6 = 0 then (pm_ri (pm_cf (pm_Ev sl xs) (d + 1) 96 [.ref 40, .int (nI 1)] (SH, h5)) SH fun x8 h7 => some (some (.int x8), (SH, h7))) else (some (some (.int (nI 1)), (SH, (pm_up (pm_up h5 39 3 a0) 39 4 a1))))) := by
  have hM : pm_mt 127 = some mt_127 := rfl
  refine e_call (L := [some (.ref 40), some (.int a0), some (.int a1)]) hM rfl rfl ?_
  refine e_iload_n (pc2 := 1) hM rfl rfl rfl ?_
  refine e_iconst (pc2 := 2) (v := nI 1) hM rfl rfl rfl ?_
  refine e_iconst (pc2 := 3) (v := nI 3) hM rfl rfl rfl ?_
  refine e_csi (pc2 := 6) (As := [.int a0, .int (nI 1), .int (nI 3)]) (rest := []) hM rfl rfl rfl rfl rfl rfl rfl (fun x2 h1 => ?_)
  refine e_if_eq (pc2 := 9) (tgt := 19) hM rfl rfl rfl ?_ ?_
  · refine e_aload_n (pc2 := 20) hM rfl rfl rfl ?_
    refine e_iconst (pc2 := 21) (v := nI 1) hM rfl rfl rfl ?_
    refine e_cvi (pc2 := 24) (k := 39) (As := [.ref 40, .int (nI 1)]) (rest := []) hM rfl rfl rfl rfl rfl rfl rfl (fun x4 h3 => ?_)
    exact e_iret hM rfl rfl
  · refine e_iload_n (pc2 := 10) hM rfl rfl rfl ?_
    refine e_iconst (pc2 := 11) (v := nI 1) hM rfl rfl rfl ?_
    refine e_bipush (pc2 := 13) (v := nI 12) hM rfl rfl rfl rfl ?_
    refine e_csi (pc2 := 16) (As := [.int a1, .int (nI 1), .int (nI 12)]) (rest := []) hM rfl rfl rfl rfl rfl rfl rfl (fun x6 h5 => ?_)
    refine e_if_ne (pc2 := 19) (tgt := 25) hM rfl rfl rfl ?_ ?_
    · refine e_aload_n (pc2 := 26) hM rfl rfl rfl ?_
      refine e_iload_n (pc2 := 27) hM rfl rfl rfl ?_
      refine e_putf (pc2 := 30) (k := 39) hM rfl rfl rfl rfl rfl rfl ?_
      refine e_aload_n (pc2 := 31) hM rfl rfl rfl ?_
      refine e_iload_n (pc2 := 32) hM rfl rfl rfl ?_
      refine e_putf (pc2 := 35) (k := 39) hM rfl rfl rfl rfl rfl rfl ?_
      refine e_iconst (pc2 := 36) (v := nI 1) hM rfl rfl rfl ?_
      exact e_iret hM rfl rfl
    · refine e_aload_n (pc2 := 20) hM rfl rfl rfl ?_
      refine e_iconst (pc2 := 21) (v := nI 1) hM rfl rfl rfl ?_
      refine e_cvi (pc2 := 24) (k := 39) (As := [.ref 40, .int (nI 1)]) (rest := []) hM rfl rfl rfl rfl rfl rfl rfl (fun x8 h7 => ?_)
      exact e_iret hM rfl rfl
theorem qX8_open_0 {sl : Nat} {xs : Nat → Int32} {d : Nat} {a0 a1 : Int32} {h : pmH} : pm_cf (pm_Ev sl xs) (d + 2) 128 [.ref 40, .int a0, .int a1] (SH, h) = pm_ri (pm_cf (pm_Ev sl xs) (d + 1) 95 [.int a0, .int (nI 0), .int (nI 7)] (SH, h)) SH fun x2 h1 => if x2 = 0 then (pm_ri (pm_cf (pm_Ev sl xs) (d + 1) 96 [.ref 40, .int (nI 1)] (SH, h1)) SH fun x4 h3 => some (some (.int x4), (SH, h3))) else (pm_ri (pm_cf (pm_Ev sl xs) (d + 1) 95 [.int a1, .int (nI 0), .int (nI 127)] (SH, h1)) SH fun x6 h5 => if x6 = 0 then (pm_ri (pm_cf (pm_Ev sl xs) (d + 1) 96 [.ref 40, .int (nI 1)] (SH, h5)) SH fun x10 h9 => some (some (.int x10), (SH, h9))) else (pm_ix none a0 8 fun j7 => pm_ix none a0 8 fun j8 => some (some (.int (h5 55 j7)), (SH, (pm_up h5 55 j8 a1))))) := by
  have hM : pm_mt 128 = some mt_128 := rfl
  refine e_call (L := [some (.ref 40), some (.int a0), some (.int a1), none]) hM rfl rfl ?_
  refine e_iload_n (pc2 := 1) hM rfl rfl rfl ?_
  refine e_iconst (pc2 := 2) (v := nI 0) hM rfl rfl rfl ?_
  refine e_bipush (pc2 := 4) (v := nI 7) hM rfl rfl rfl rfl ?_
  refine e_csi (pc2 := 7) (As := [.int a0, .int (nI 0), .int (nI 7)]) (rest := []) hM rfl rfl rfl rfl rfl rfl rfl (fun x2 h1 => ?_)
  refine e_if_eq (pc2 := 10) (tgt := 20) hM rfl rfl rfl ?_ ?_
  · refine e_aload_n (pc2 := 21) hM rfl rfl rfl ?_
    refine e_iconst (pc2 := 22) (v := nI 1) hM rfl rfl rfl ?_
    refine e_cvi (pc2 := 25) (k := 39) (As := [.ref 40, .int (nI 1)]) (rest := []) hM rfl rfl rfl rfl rfl rfl rfl (fun x4 h3 => ?_)
    exact e_iret hM rfl rfl
  · refine e_iload_n (pc2 := 11) hM rfl rfl rfl ?_
    refine e_iconst (pc2 := 12) (v := nI 0) hM rfl rfl rfl ?_
    refine e_bipush (pc2 := 14) (v := nI 127) hM rfl rfl rfl rfl ?_
    refine e_csi (pc2 := 17) (As := [.int a1, .int (nI 0), .int (nI 127)]) (rest := []) hM rfl rfl rfl rfl rfl rfl rfl (fun x6 h5 => ?_)
    refine e_if_ne (pc2 := 20) (tgt := 26) hM rfl rfl rfl ?_ ?_
    · refine e_aload_n (pc2 := 27) hM rfl rfl rfl ?_
      refine e_getfr (pc2 := 30) (k := 39) (b := 56) hM rfl rfl rfl rfl rfl ?_
      refine e_iload_n (pc2 := 31) hM rfl rfl rfl ?_
      refine e_iald (pc2 := 32) (k := 55) (V := fun j7 => (h5 55 j7)) hM rfl rfl rfl (fun _ => rfl) (fun j7 => ?_)
      refine e_istore_n (pc2 := 33) (L2 := [some (.ref 40), some (.int a0), some (.int a1), some (.int (h5 55 j7))]) hM rfl rfl rfl rfl ?_
      refine e_aload_n (pc2 := 34) hM rfl rfl rfl ?_
      refine e_getfr (pc2 := 37) (k := 39) (b := 56) hM rfl rfl rfl rfl rfl ?_
      refine e_iload_n (pc2 := 38) hM rfl rfl rfl ?_
      refine e_iload_n (pc2 := 39) hM rfl rfl rfl ?_
      refine e_iast (pc2 := 40) (k := 55) hM rfl rfl rfl (fun j8 => ?_)
      refine e_iload_n (pc2 := 41) hM rfl rfl rfl ?_
      exact e_iret hM rfl rfl
    · refine e_aload_n (pc2 := 21) hM rfl rfl rfl ?_
      refine e_iconst (pc2 := 22) (v := nI 1) hM rfl rfl rfl ?_
      refine e_cvi (pc2 := 25) (k := 39) (As := [.ref 40, .int (nI 1)]) (rest := []) hM rfl rfl rfl rfl rfl rfl rfl (fun x10 h9 => ?_)
      exact e_iret hM rfl rfl
theorem qX8_placeOf_0 {sl : Nat} {xs : Nat → Int32} {d : Nat} {a0 : Int32} {h : pmH} : pm_cf (pm_Ev sl xs) (d + 1) 129 [.ref 40, .int a0] (SH, h) = pm_Ev sl xs d 129 2 [some (.ref 40), some (.int a0), some (.int (nI 0))] [] (SH, h) := by
  have hM : pm_mt 129 = some mt_129 := rfl
  refine e_call (L := [some (.ref 40), some (.int a0), none]) hM rfl rfl ?_
  refine e_iconst (pc2 := 1) (v := nI 0) hM rfl rfl rfl ?_
  refine e_istore_n (pc2 := 2) (L2 := [some (.ref 40), some (.int a0), some (.int (nI 0))]) hM rfl rfl rfl rfl ?_
  exact rfl
theorem qX8_placeOf_2 {sl : Nat} {xs : Nat → Int32} {d : Nat} {b1 b2 : Int32} {h : pmH} : pm_Ev sl xs d 129 2 [some (.ref 40), some (.int b1), some (.int b2)] [] (SH, h) = pm_ix none b2 24 fun j1 => if (h 59 j1) = b1 then (some (some (.int b2), (SH, h))) else (pm_Ev sl xs d 129 2 [some (.ref 40), some (.int b1), some (.int (b2 + (nI 1)))] [] (SH, h)) := by
  have hM : pm_mt 129 = some mt_129 := rfl
  refine e_aload_n (pc2 := 3) hM rfl rfl rfl ?_
  refine e_getfr (pc2 := 6) (k := 39) (b := 60) hM rfl rfl rfl rfl rfl ?_
  refine e_iload_n (pc2 := 7) hM rfl rfl rfl ?_
  refine e_iald (pc2 := 8) (k := 59) (V := fun j1 => (h 59 j1)) hM rfl rfl rfl (fun _ => rfl) (fun j1 => ?_)
  refine e_iload_n (pc2 := 9) hM rfl rfl rfl ?_
  refine e_icmp_eq (pc2 := 12) (tgt := 18) hM rfl rfl rfl ?_ ?_
  · refine e_iload_n (pc2 := 19) hM rfl rfl rfl ?_
    exact e_iret hM rfl rfl
  · refine e_iinc (pc2 := 15) (v := nI 1) (L2 := [some (.ref 40), some (.int b1), some (.int (b2 + (nI 1)))]) hM rfl rfl rfl rfl rfl ?_
    refine e_goto (tgt := 2) hM rfl rfl ?_
    exact rfl
theorem qX8_order_0 {sl : Nat} {xs : Nat → Int32} {d : Nat} {a0 a1 : Int32} {h : pmH} : pm_cf (pm_Ev sl xs) (d + 2) 130 [.ref 40, .int a0, .int a1] (SH, h) = pm_ri (pm_cf (pm_Ev sl xs) (d + 1) 97 [.ref 40, .int a0] (SH, h)) SH fun x2 h1 => if x2 = 0 then (pm_ri (pm_cf (pm_Ev sl xs) (d + 1) 96 [.ref 40, .int (nI 1)] (SH, h1)) SH fun x4 h3 => some (some (.int x4), (SH, h3))) else (pm_ri (pm_cf (pm_Ev sl xs) (d + 1) 97 [.ref 40, .int a1] (SH, h1)) SH fun x6 h5 => if x6 = 0 then (pm_ri (pm_cf (pm_Ev sl xs) (d + 1) 96 [.ref 40, .int (nI 1)] (SH, h5)) SH fun x10 h9 => some (some (.int x10), (SH, h9))) else (pm_ri (pm_cf (pm_Ev sl xs) (d + 1) 129 [.ref 40, .int a0] (SH, h5)) SH fun x8 h7 => pm_Ev sl xs (d + 1) 130 31 [some (.ref 40), some (.int a0), some (.int a1), some (.int x8), some (.int x8)] [] (SH, h7))) := by
  have hM : pm_mt 130 = some mt_130 := rfl
  refine e_call (L := [some (.ref 40), some (.int a0), some (.int a1), none, none]) hM rfl rfl ?_
  refine e_aload_n (pc2 := 1) hM rfl rfl rfl ?_
  refine e_iload_n (pc2 := 2) hM rfl rfl rfl ?_
  refine e_cvi (pc2 := 5) (k := 39) (As := [.ref 40, .int a0]) (rest := []) hM rfl rfl rfl rfl rfl rfl rfl (fun x2 h1 => ?_)
  refine e_if_eq (pc2 := 8) (tgt := 16) hM rfl rfl rfl ?_ ?_
  · refine e_aload_n (pc2 := 17) hM rfl rfl rfl ?_
    refine e_iconst (pc2 := 18) (v := nI 1) hM rfl rfl rfl ?_
    refine e_cvi (pc2 := 21) (k := 39) (As := [.ref 40, .int (nI 1)]) (rest := []) hM rfl rfl rfl rfl rfl rfl rfl (fun x4 h3 => ?_)
    exact e_iret hM rfl rfl
  · refine e_aload_n (pc2 := 9) hM rfl rfl rfl ?_
    refine e_iload_n (pc2 := 10) hM rfl rfl rfl ?_
    refine e_cvi (pc2 := 13) (k := 39) (As := [.ref 40, .int a1]) (rest := []) hM rfl rfl rfl rfl rfl rfl rfl (fun x6 h5 => ?_)
    refine e_if_ne (pc2 := 16) (tgt := 22) hM rfl rfl rfl ?_ ?_
    · refine e_aload_n (pc2 := 23) hM rfl rfl rfl ?_
      refine e_iload_n (pc2 := 24) hM rfl rfl rfl ?_
      refine e_cvi (pc2 := 27) (k := 39) (As := [.ref 40, .int a0]) (rest := []) hM rfl rfl rfl rfl rfl rfl rfl (fun x8 h7 => ?_)
      refine e_istore_n (pc2 := 28) (L2 := [some (.ref 40), some (.int a0), some (.int a1), some (.int x8), none]) hM rfl rfl rfl rfl ?_
      refine e_iload_n (pc2 := 29) hM rfl rfl rfl ?_
      refine e_istore (pc2 := 31) (L2 := [some (.ref 40), some (.int a0), some (.int a1), some (.int x8), some (.int x8)]) hM rfl rfl rfl rfl ?_
      exact rfl
    · refine e_aload_n (pc2 := 17) hM rfl rfl rfl ?_
      refine e_iconst (pc2 := 18) (v := nI 1) hM rfl rfl rfl ?_
      refine e_cvi (pc2 := 21) (k := 39) (As := [.ref 40, .int (nI 1)]) (rest := []) hM rfl rfl rfl rfl rfl rfl rfl (fun x10 h9 => ?_)
      exact e_iret hM rfl rfl
theorem qX8_order_31 {sl : Nat} {xs : Nat → Int32} {d : Nat} {b1 b2 b3 b4 : Int32} {h : pmH} : pm_Ev sl xs (d + 1) 130 31 [some (.ref 40), some (.int b1), some (.int b2), some (.int b3), some (.int b4)] [] (SH, h) = if b2 ≤ b4 then (pm_Ev sl xs (d + 1) 130 62 [some (.ref 40), some (.int b1), some (.int b2), some (.int b3), some (.int b3)] [] (SH, h)) else (pm_ix none (b4 + (nI 1)) 24 fun j1 => pm_ix none b4 24 fun j2 => pm_Ev sl xs (d + 1) 130 31 [some (.ref 40), some (.int b1), some (.int b2), some (.int b3), some (.int (b4 + (nI 1)))] [] (SH, (pm_up h 59 j2 (h 59 j1)))) := by
  have hM : pm_mt 130 = some mt_130 := rfl
  refine e_iload (pc2 := 33) hM rfl rfl rfl ?_
  refine e_iload_n (pc2 := 34) hM rfl rfl rfl ?_
  refine e_icmp_ge (pc2 := 37) (tgt := 59) hM rfl rfl rfl ?_ ?_
  · refine e_iload_n (pc2 := 60) hM rfl rfl rfl ?_
    refine e_istore (pc2 := 62) (L2 := [some (.ref 40), some (.int b1), some (.int b2), some (.int b3), some (.int b3)]) hM rfl rfl rfl rfl ?_
    exact rfl
  · refine e_aload_n (pc2 := 38) hM rfl rfl rfl ?_
    refine e_getfr (pc2 := 41) (k := 39) (b := 60) hM rfl rfl rfl rfl rfl ?_
    refine e_iload (pc2 := 43) hM rfl rfl rfl ?_
    refine e_aload_n (pc2 := 44) hM rfl rfl rfl ?_
    refine e_getfr (pc2 := 47) (k := 39) (b := 60) hM rfl rfl rfl rfl rfl ?_
    refine e_iload (pc2 := 49) hM rfl rfl rfl ?_
    refine e_iconst (pc2 := 50) (v := nI 1) hM rfl rfl rfl ?_
    refine e_iadd (pc2 := 51) hM rfl rfl ?_
    refine e_iald (pc2 := 52) (k := 59) (V := fun j1 => (h 59 j1)) hM rfl rfl rfl (fun _ => rfl) (fun j1 => ?_)
    refine e_iast (pc2 := 53) (k := 59) hM rfl rfl rfl (fun j2 => ?_)
    refine e_iinc (pc2 := 56) (v := nI 1) (L2 := [some (.ref 40), some (.int b1), some (.int b2), some (.int b3), some (.int (b4 + (nI 1)))]) hM rfl rfl rfl rfl rfl ?_
    refine e_goto (tgt := 31) hM rfl rfl ?_
    exact rfl
theorem qX8_order_62 {sl : Nat} {xs : Nat → Int32} {d : Nat} {b1 b2 b3 b4 : Int32} {h : pmH} : pm_Ev sl xs (d + 1) 130 62 [some (.ref 40), some (.int b1), some (.int b2), some (.int b3), some (.int b4)] [] (SH, h) = if b4 ≤ b2 then (pm_ix none b2 24 fun j1 => some (some (.int b3), (SH, (pm_up h 59 j1 b1)))) else (pm_ix none (b4 - (nI 1)) 24 fun j2 => pm_ix none b4 24 fun j3 => pm_Ev sl xs (d + 1) 130 62 [some (.ref 40), some (.int b1), some (.int b2), some (.int b3), some (.int (b4 + (-nI 1)))] [] (SH, (pm_up h 59 j3 (h 59 j2)))) := by
  have hM : pm_mt 130 = some mt_130 := rfl
  refine e_iload (pc2 := 64) hM rfl rfl rfl ?_
  refine e_iload_n (pc2 := 65) hM rfl rfl rfl ?_
  refine e_icmp_le (pc2 := 68) (tgt := 90) hM rfl rfl rfl ?_ ?_
  · refine e_aload_n (pc2 := 91) hM rfl rfl rfl ?_
    refine e_getfr (pc2 := 94) (k := 39) (b := 60) hM rfl rfl rfl rfl rfl ?_
    refine e_iload_n (pc2 := 95) hM rfl rfl rfl ?_
    refine e_iload_n (pc2 := 96) hM rfl rfl rfl ?_
    refine e_iast (pc2 := 97) (k := 59) hM rfl rfl rfl (fun j1 => ?_)
    refine e_iload_n (pc2 := 98) hM rfl rfl rfl ?_
    exact e_iret hM rfl rfl
  · refine e_aload_n (pc2 := 69) hM rfl rfl rfl ?_
    refine e_getfr (pc2 := 72) (k := 39) (b := 60) hM rfl rfl rfl rfl rfl ?_
    refine e_iload (pc2 := 74) hM rfl rfl rfl ?_
    refine e_aload_n (pc2 := 75) hM rfl rfl rfl ?_
    refine e_getfr (pc2 := 78) (k := 39) (b := 60) hM rfl rfl rfl rfl rfl ?_
    refine e_iload (pc2 := 80) hM rfl rfl rfl ?_
    refine e_iconst (pc2 := 81) (v := nI 1) hM rfl rfl rfl ?_
    refine e_isub (pc2 := 82) hM rfl rfl ?_
    refine e_iald (pc2 := 83) (k := 59) (V := fun j2 => (h 59 j2)) hM rfl rfl rfl (fun _ => rfl) (fun j2 => ?_)
    refine e_iast (pc2 := 84) (k := 59) hM rfl rfl rfl (fun j3 => ?_)
    refine e_iinc (pc2 := 87) (v := -nI 1) (L2 := [some (.ref 40), some (.int b1), some (.int b2), some (.int b3), some (.int (b4 + (-nI 1)))]) hM rfl rfl rfl rfl rfl ?_
    refine e_goto (tgt := 62) hM rfl rfl ?_
    exact rfl
theorem qX8_wants_0 {sl : Nat} {xs : Nat → Int32} {d : Nat} {a0 : Int32} {h : pmH} : pm_cf (pm_Ev sl xs) (d + 1) 131 [.ref 40, .int a0] (SH, h) = pm_ix none a0 24 fun j1 => if nI 20 = 0 then none else (some (some (.int ((nI 1) + ((h 46 j1) / (nI 20)))), (SH, h))) := by
  have hM : pm_mt 131 = some mt_131 := rfl
  refine e_call (L := [some (.ref 40), some (.int a0)]) hM rfl rfl ?_
  refine e_iconst (pc2 := 1) (v := nI 1) hM rfl rfl rfl ?_
  refine e_aload_n (pc2 := 2) hM rfl rfl rfl ?_
  refine e_getfr (pc2 := 5) (k := 39) (b := 47) hM rfl rfl rfl rfl rfl ?_
  refine e_iload_n (pc2 := 6) hM rfl rfl rfl ?_
  refine e_iald (pc2 := 7) (k := 46) (V := fun j1 => (h 46 j1)) hM rfl rfl rfl (fun _ => rfl) (fun j1 => ?_)
  refine e_bipush (pc2 := 9) (v := nI 20) hM rfl rfl rfl rfl ?_
  refine e_idiv (pc2 := 10) hM rfl rfl ?_
  refine e_iadd (pc2 := 11) hM rfl rfl ?_
  exact e_iret hM rfl rfl
theorem qX8_hangs_0 {sl : Nat} {xs : Nat → Int32} {d : Nat} {a0 : Int32} {h : pmH} : pm_cf (pm_Ev sl xs) (d + 2) 132 [.ref 40, .int a0] (SH, h) = pm_ix none a0 24 fun j1 => if (h 44 j1) < 0 then (pm_ix none a0 24 fun j2 => if 0 ≤ (h 44 j2) then (pm_ix none a0 24 fun j3 => pm_ix none (h 44 j3) 24 fun j4 => pm_Ev sl xs (d + 1) 132 49 [some (.ref 40), some (.int a0), some (.int (h 65 j4)), none] [] (SH, h)) else (pm_Ev sl xs (d + 1) 132 49 [some (.ref 40), some (.int a0), some (.int (nI 0)), none] [] (SH, h))) else (pm_ix none a0 24 fun j5 => pm_ix none (h 44 j5) 24 fun j6 => if 0 ≤ (h 65 j6) then (pm_ix none a0 24 fun j7 => if 0 ≤ (h 44 j7) then (pm_ix none a0 24 fun j8 => pm_ix none (h 44 j8) 24 fun j9 => pm_Ev sl xs (d + 1) 132 49 [some (.ref 40), some (.int a0), some (.int (h 65 j9)), none] [] (SH, h)) else (pm_Ev sl xs (d + 1) 132 49 [some (.ref 40), some (.int a0), some (.int (nI 0)), none] [] (SH, h))) else (some (none, (SH, h)))) := by
  have hM : pm_mt 132 = some mt_132 := rfl
  refine e_call (L := [some (.ref 40), some (.int a0), none, none]) hM rfl rfl ?_
  refine e_aload_n (pc2 := 1) hM rfl rfl rfl ?_
  refine e_getfr (pc2 := 4) (k := 39) (b := 45) hM rfl rfl rfl rfl rfl ?_
  refine e_iload_n (pc2 := 5) hM rfl rfl rfl ?_
  refine e_iald (pc2 := 6) (k := 44) (V := fun j1 => (h 44 j1)) hM rfl rfl rfl (fun _ => rfl) (fun j1 => ?_)
  refine e_if_lt (pc2 := 9) (tgt := 24) hM rfl rfl rfl ?_ ?_
  · refine e_aload_n (pc2 := 25) hM rfl rfl rfl ?_
    refine e_getfr (pc2 := 28) (k := 39) (b := 45) hM rfl rfl rfl rfl rfl ?_
    refine e_iload_n (pc2 := 29) hM rfl rfl rfl ?_
    refine e_iald (pc2 := 30) (k := 44) (V := fun j2 => (h 44 j2)) hM rfl rfl rfl (fun _ => rfl) (fun j2 => ?_)
    refine e_if_ge (pc2 := 33) (tgt := 37) hM rfl rfl rfl ?_ ?_
    · refine e_aload_n (pc2 := 38) hM rfl rfl rfl ?_
      refine e_getfr (pc2 := 41) (k := 39) (b := 66) hM rfl rfl rfl rfl rfl ?_
      refine e_aload_n (pc2 := 42) hM rfl rfl rfl ?_
      refine e_getfr (pc2 := 45) (k := 39) (b := 45) hM rfl rfl rfl rfl rfl ?_
      refine e_iload_n (pc2 := 46) hM rfl rfl rfl ?_
      refine e_iald (pc2 := 47) (k := 44) (V := fun j3 => (h 44 j3)) hM rfl rfl rfl (fun _ => rfl) (fun j3 => ?_)
      refine e_iald (pc2 := 48) (k := 65) (V := fun j4 => (h 65 j4)) hM rfl rfl rfl (fun _ => rfl) (fun j4 => ?_)
      refine e_istore_n (pc2 := 49) (L2 := [some (.ref 40), some (.int a0), some (.int (h 65 j4)), none]) hM rfl rfl rfl rfl ?_
      exact rfl
    · refine e_iconst (pc2 := 34) (v := nI 0) hM rfl rfl rfl ?_
      refine e_goto (tgt := 48) hM rfl rfl ?_
      refine e_istore_n (pc2 := 49) (L2 := [some (.ref 40), some (.int a0), some (.int (nI 0)), none]) hM rfl rfl rfl rfl ?_
      exact rfl
  · refine e_aload_n (pc2 := 10) hM rfl rfl rfl ?_
    refine e_getfr (pc2 := 13) (k := 39) (b := 66) hM rfl rfl rfl rfl rfl ?_
    refine e_aload_n (pc2 := 14) hM rfl rfl rfl ?_
    refine e_getfr (pc2 := 17) (k := 39) (b := 45) hM rfl rfl rfl rfl rfl ?_
    refine e_iload_n (pc2 := 18) hM rfl rfl rfl ?_
    refine e_iald (pc2 := 19) (k := 44) (V := fun j5 => (h 44 j5)) hM rfl rfl rfl (fun _ => rfl) (fun j5 => ?_)
    refine e_iald (pc2 := 20) (k := 65) (V := fun j6 => (h 65 j6)) hM rfl rfl rfl (fun _ => rfl) (fun j6 => ?_)
    refine e_if_ge (pc2 := 23) (tgt := 24) hM rfl rfl rfl ?_ ?_
    · refine e_aload_n (pc2 := 25) hM rfl rfl rfl ?_
      refine e_getfr (pc2 := 28) (k := 39) (b := 45) hM rfl rfl rfl rfl rfl ?_
      refine e_iload_n (pc2 := 29) hM rfl rfl rfl ?_
      refine e_iald (pc2 := 30) (k := 44) (V := fun j7 => (h 44 j7)) hM rfl rfl rfl (fun _ => rfl) (fun j7 => ?_)
      refine e_if_ge (pc2 := 33) (tgt := 37) hM rfl rfl rfl ?_ ?_
      · refine e_aload_n (pc2 := 38) hM rfl rfl rfl ?_
        refine e_getfr (pc2 := 41) (k := 39) (b := 66) hM rfl rfl rfl rfl rfl ?_
        refine e_aload_n (pc2 := 42) hM rfl rfl rfl ?_
        refine e_getfr (pc2 := 45) (k := 39) (b := 45) hM rfl rfl rfl rfl rfl ?_
        refine e_iload_n (pc2 := 46) hM rfl rfl rfl ?_
        refine e_iald (pc2 := 47) (k := 44) (V := fun j8 => (h 44 j8)) hM rfl rfl rfl (fun _ => rfl) (fun j8 => ?_)
        refine e_iald (pc2 := 48) (k := 65) (V := fun j9 => (h 65 j9)) hM rfl rfl rfl (fun _ => rfl) (fun j9 => ?_)
        refine e_istore_n (pc2 := 49) (L2 := [some (.ref 40), some (.int a0), some (.int (h 65 j9)), none]) hM rfl rfl rfl rfl ?_
        exact rfl
      · refine e_iconst (pc2 := 34) (v := nI 0) hM rfl rfl rfl ?_
        refine e_goto (tgt := 48) hM rfl rfl ?_
        refine e_istore_n (pc2 := 49) (L2 := [some (.ref 40), some (.int a0), some (.int (nI 0)), none]) hM rfl rfl rfl rfl ?_
        exact rfl
    · exact e_ret hM rfl rfl
theorem qX8_hangs_49 {sl : Nat} {xs : Nat → Int32} {d : Nat} {b1 b2 : Int32} {o3 : Option Value} {h : pmH} : pm_Ev sl xs (d + 1) 132 49 [some (.ref 40), some (.int b1), some (.int b2), o3] [] (SH, h) = if (nI 60) ≤ b2 then (some (none, (SH, h))) else (pm_ix none b1 24 fun j1 => pm_ix none (h 45 j1) 8 fun j2 => if nI 7 = 0 then none else (pm_ri (pm_cf (pm_Ev sl xs) (d + 1) 98 [.int (h 55 j2), .int (b2 - b2 / (nI 7) * (nI 7))] (SH, h)) SH fun x4 h3 => if x4 = 0 then (pm_Ev sl xs (d + 1) 132 49 [some (.ref 40), some (.int b1), some (.int (b2 + (nI 1))), o3] [] (SH, h3)) else (pm_Ev sl xs (d + 1) 132 81 [some (.ref 40), some (.int b1), some (.int b2), some (.int (nI 0))] [] (SH, h3)))) := by
  have hM : pm_mt 132 = some mt_132 := rfl
  refine e_iload_n (pc2 := 50) hM rfl rfl rfl ?_
  refine e_bipush (pc2 := 52) (v := nI 60) hM rfl rfl rfl rfl ?_
  refine e_icmp_ge (pc2 := 55) (tgt := 160) hM rfl rfl rfl ?_ ?_
  · exact e_ret hM rfl rfl
  · refine e_aload_n (pc2 := 56) hM rfl rfl rfl ?_
    refine e_getfr (pc2 := 59) (k := 39) (b := 56) hM rfl rfl rfl rfl rfl ?_
    refine e_aload_n (pc2 := 60) hM rfl rfl rfl ?_
    refine e_getfr (pc2 := 63) (k := 39) (b := 46) hM rfl rfl rfl rfl rfl ?_
    refine e_iload_n (pc2 := 64) hM rfl rfl rfl ?_
    refine e_iald (pc2 := 65) (k := 45) (V := fun j1 => (h 45 j1)) hM rfl rfl rfl (fun _ => rfl) (fun j1 => ?_)
    refine e_iald (pc2 := 66) (k := 55) (V := fun j2 => (h 55 j2)) hM rfl rfl rfl (fun _ => rfl) (fun j2 => ?_)
    refine e_iload_n (pc2 := 67) hM rfl rfl rfl ?_
    refine e_bipush (pc2 := 69) (v := nI 7) hM rfl rfl rfl rfl ?_
    refine e_irem (pc2 := 70) hM rfl rfl ?_
    refine e_csi (pc2 := 73) (As := [.int (h 55 j2), .int (b2 - b2 / (nI 7) * (nI 7))]) (rest := []) hM rfl rfl rfl rfl rfl rfl rfl (fun x4 h3 => ?_)
    refine e_if_ne (pc2 := 76) (tgt := 79) hM rfl rfl rfl ?_ ?_
    · refine e_iconst (pc2 := 80) (v := nI 0) hM rfl rfl rfl ?_
      refine e_istore_n (pc2 := 81) (L2 := [some (.ref 40), some (.int b1), some (.int b2), some (.int (nI 0))]) hM rfl rfl rfl rfl ?_
      exact rfl
    · refine e_goto (tgt := 154) hM rfl rfl ?_
      refine e_iinc (pc2 := 157) (v := nI 1) (L2 := [some (.ref 40), some (.int b1), some (.int (b2 + (nI 1))), o3]) hM rfl rfl rfl rfl rfl ?_
      refine e_goto (tgt := 49) hM rfl rfl ?_
      exact rfl
theorem qX8_hangs_81 {sl : Nat} {xs : Nat → Int32} {d : Nat} {b1 b2 b3 : Int32} {h : pmH} : pm_Ev sl xs (d + 1) 132 81 [some (.ref 40), some (.int b1), some (.int b2), some (.int b3)] [] (SH, h) = if (h 39 3) ≤ b3 then (pm_Ev sl xs (d + 1) 132 49 [some (.ref 40), some (.int b1), some (.int (b2 + (nI 1))), some (.int b3)] [] (SH, h)) else (pm_ix none (((nI 3) * b2) + b3) 180 fun j1 => pm_ri (pm_cf (pm_Ev sl xs) (d + 1) 131 [.ref 40, .int b1] (SH, h)) SH fun x3 h2 => if ((h 67 j1) + x3) ≤ (h2 39 4) then (pm_ix none (((nI 3) * b2) + b3) 180 fun j4 => pm_ri (pm_cf (pm_Ev sl xs) (d + 1) 131 [.ref 40, .int b1] (SH, h2)) SH fun x6 h5 => pm_ix none (((nI 3) * b2) + b3) 180 fun j7 => pm_ix none b1 24 fun j8 => pm_ix none b1 24 fun j9 => some (none, (SH, (pm_up (pm_up (pm_up h5 67 j7 ((h2 67 j4) + x6)) 65 j8 b2) 66 j9 b3)))) else (pm_Ev sl xs (d + 1) 132 81 [some (.ref 40), some (.int b1), some (.int b2), some (.int (b3 + (nI 1)))] [] (SH, h2))) := by
  have hM : pm_mt 132 = some mt_132 := rfl
  refine e_iload_n (pc2 := 82) hM rfl rfl rfl ?_
  refine e_aload_n (pc2 := 83) hM rfl rfl rfl ?_
  refine e_getfi (pc2 := 86) (k := 39) (v := (h 39 3)) hM rfl rfl rfl rfl rfl rfl ?_
  refine e_icmp_ge (pc2 := 89) (tgt := 154) hM rfl rfl rfl ?_ ?_
  · refine e_iinc (pc2 := 157) (v := nI 1) (L2 := [some (.ref 40), some (.int b1), some (.int (b2 + (nI 1))), some (.int b3)]) hM rfl rfl rfl rfl rfl ?_
    refine e_goto (tgt := 49) hM rfl rfl ?_
    exact rfl
  · refine e_aload_n (pc2 := 90) hM rfl rfl rfl ?_
    refine e_getfr (pc2 := 93) (k := 39) (b := 68) hM rfl rfl rfl rfl rfl ?_
    refine e_iconst (pc2 := 94) (v := nI 3) hM rfl rfl rfl ?_
    refine e_iload_n (pc2 := 95) hM rfl rfl rfl ?_
    refine e_imul (pc2 := 96) hM rfl rfl ?_
    refine e_iload_n (pc2 := 97) hM rfl rfl rfl ?_
    refine e_iadd (pc2 := 98) hM rfl rfl ?_
    refine e_iald (pc2 := 99) (k := 67) (V := fun j1 => (h 67 j1)) hM rfl rfl rfl (fun _ => rfl) (fun j1 => ?_)
    refine e_aload_n (pc2 := 100) hM rfl rfl rfl ?_
    refine e_iload_n (pc2 := 101) hM rfl rfl rfl ?_
    refine e_cvi (pc2 := 104) (k := 39) (As := [.ref 40, .int b1]) (rest := [.int (h 67 j1)]) hM rfl rfl rfl rfl rfl rfl rfl (fun x3 h2 => ?_)
    refine e_iadd (pc2 := 105) hM rfl rfl ?_
    refine e_aload_n (pc2 := 106) hM rfl rfl rfl ?_
    refine e_getfi (pc2 := 109) (k := 39) (v := (h2 39 4)) hM rfl rfl rfl rfl rfl rfl ?_
    refine e_icmp_le (pc2 := 112) (tgt := 115) hM rfl rfl rfl ?_ ?_
    · refine e_aload_n (pc2 := 116) hM rfl rfl rfl ?_
      refine e_getfr (pc2 := 119) (k := 39) (b := 68) hM rfl rfl rfl rfl rfl ?_
      refine e_iconst (pc2 := 120) (v := nI 3) hM rfl rfl rfl ?_
      refine e_iload_n (pc2 := 121) hM rfl rfl rfl ?_
      refine e_imul (pc2 := 122) hM rfl rfl ?_
      refine e_iload_n (pc2 := 123) hM rfl rfl rfl ?_
      refine e_iadd (pc2 := 124) hM rfl rfl ?_
      refine e_dup2 (pc2 := 125) hM rfl rfl rfl rfl ?_
      refine e_iald (pc2 := 126) (k := 67) (V := fun j4 => (h2 67 j4)) hM rfl rfl rfl (fun _ => rfl) (fun j4 => ?_)
      refine e_aload_n (pc2 := 127) hM rfl rfl rfl ?_
      refine e_iload_n (pc2 := 128) hM rfl rfl rfl ?_
      refine e_cvi (pc2 := 131) (k := 39) (As := [.ref 40, .int b1]) (rest := [.int (h2 67 j4), .int (((nI 3) * b2) + b3), .ref 68]) hM rfl rfl rfl rfl rfl rfl rfl (fun x6 h5 => ?_)
      refine e_iadd (pc2 := 132) hM rfl rfl ?_
      refine e_iast (pc2 := 133) (k := 67) hM rfl rfl rfl (fun j7 => ?_)
      refine e_aload_n (pc2 := 134) hM rfl rfl rfl ?_
      refine e_getfr (pc2 := 137) (k := 39) (b := 66) hM rfl rfl rfl rfl rfl ?_
      refine e_iload_n (pc2 := 138) hM rfl rfl rfl ?_
      refine e_iload_n (pc2 := 139) hM rfl rfl rfl ?_
      refine e_iast (pc2 := 140) (k := 65) hM rfl rfl rfl (fun j8 => ?_)
      refine e_aload_n (pc2 := 141) hM rfl rfl rfl ?_
      refine e_getfr (pc2 := 144) (k := 39) (b := 67) hM rfl rfl rfl rfl rfl ?_
      refine e_iload_n (pc2 := 145) hM rfl rfl rfl ?_
      refine e_iload_n (pc2 := 146) hM rfl rfl rfl ?_
      refine e_iast (pc2 := 147) (k := 66) hM rfl rfl rfl (fun j9 => ?_)
      exact e_ret hM rfl rfl
    · refine e_goto (tgt := 148) hM rfl rfl ?_
      refine e_iinc (pc2 := 151) (v := nI 1) (L2 := [some (.ref 40), some (.int b1), some (.int b2), some (.int (b3 + (nI 1)))]) hM rfl rfl rfl rfl rfl ?_
      refine e_goto (tgt := 81) hM rfl rfl ?_
      exact rfl
theorem qX8_ends_60_0 {sl : Nat} {xs : Nat → Int32} {d : Nat} {h : pmH} : pm_cf (pm_Ev sl xs) (d + 2) 133 [.ref 40, .ref 60] (SH, h) = pm_Ev sl xs (d + 1) 133 2 [some (.ref 40), some (.ref 60), some (.int (nI 0)), none, none] [] (SH, h) := by
  have hM : pm_mt 133 = some mt_133 := rfl
  refine e_call (L := [some (.ref 40), some (.ref 60), none, none, none]) hM rfl rfl ?_
  refine e_iconst (pc2 := 1) (v := nI 0) hM rfl rfl rfl ?_
  refine e_istore_n (pc2 := 2) (L2 := [some (.ref 40), some (.ref 60), some (.int (nI 0)), none, none]) hM rfl rfl rfl rfl ?_
  exact rfl
theorem qX8_ends_60_2 {sl : Nat} {xs : Nat → Int32} {d : Nat} {b2 : Int32} {o3 o4 : Option Value} {h : pmH} : pm_Ev sl xs (d + 1) 133 2 [some (.ref 40), some (.ref 60), some (.int b2), o3, o4] [] (SH, h) = if (nI 180) ≤ b2 then (pm_Ev sl xs (d + 1) 133 24 [some (.ref 40), some (.ref 60), some (.int (nI 0)), o3, o4] [] (SH, h)) else (pm_ix none b2 180 fun j1 => pm_Ev sl xs (d + 1) 133 2 [some (.ref 40), some (.ref 60), some (.int (b2 + (nI 1))), o3, o4] [] (SH, (pm_up h 67 j1 (nI 0)))) := by
  have hM : pm_mt 133 = some mt_133 := rfl
  refine e_iload_n (pc2 := 3) hM rfl rfl rfl ?_
  refine e_sipush (pc2 := 6) (v := nI 180) hM rfl rfl rfl rfl ?_
  refine e_icmp_ge (pc2 := 9) (tgt := 22) hM rfl rfl rfl ?_ ?_
  · refine e_iconst (pc2 := 23) (v := nI 0) hM rfl rfl rfl ?_
    refine e_istore_n (pc2 := 24) (L2 := [some (.ref 40), some (.ref 60), some (.int (nI 0)), o3, o4]) hM rfl rfl rfl rfl ?_
    exact rfl
  · refine e_aload_n (pc2 := 10) hM rfl rfl rfl ?_
    refine e_getfr (pc2 := 13) (k := 39) (b := 68) hM rfl rfl rfl rfl rfl ?_
    refine e_iload_n (pc2 := 14) hM rfl rfl rfl ?_
    refine e_iconst (pc2 := 15) (v := nI 0) hM rfl rfl rfl ?_
    refine e_iast (pc2 := 16) (k := 67) hM rfl rfl rfl (fun j1 => ?_)
    refine e_iinc (pc2 := 19) (v := nI 1) (L2 := [some (.ref 40), some (.ref 60), some (.int (b2 + (nI 1))), o3, o4]) hM rfl rfl rfl rfl rfl ?_
    refine e_goto (tgt := 2) hM rfl rfl ?_
    exact rfl
theorem qX8_ends_60_24 {sl : Nat} {xs : Nat → Int32} {d : Nat} {b2 : Int32} {o3 o4 : Option Value} {h : pmH} : pm_Ev sl xs (d + 1) 133 24 [some (.ref 40), some (.ref 60), some (.int b2), o3, o4] [] (SH, h) = if (h 39 1) ≤ b2 then (pm_Ev sl xs (d + 1) 133 56 [some (.ref 40), some (.ref 60), some (.int (nI 0)), some (.int (nI 0)), o4] [] (SH, h)) else (pm_ix none b2 24 fun j1 => pm_ix none b2 24 fun j2 => pm_Ev sl xs (d + 1) 133 24 [some (.ref 40), some (.ref 60), some (.int (b2 + (nI 1))), o3, o4] [] (SH, (pm_up (pm_up h 65 j1 (-nI 1)) 66 j2 (-nI 1)))) := by
  have hM : pm_mt 133 = some mt_133 := rfl
  refine e_iload_n (pc2 := 25) hM rfl rfl rfl ?_
  refine e_aload_n (pc2 := 26) hM rfl rfl rfl ?_
  refine e_getfi (pc2 := 29) (k := 39) (v := (h 39 1)) hM rfl rfl rfl rfl rfl rfl ?_
  refine e_icmp_ge (pc2 := 32) (tgt := 52) hM rfl rfl rfl ?_ ?_
  · refine e_iconst (pc2 := 53) (v := nI 0) hM rfl rfl rfl ?_
    refine e_istore_n (pc2 := 54) (L2 := [some (.ref 40), some (.ref 60), some (.int (nI 0)), o3, o4]) hM rfl rfl rfl rfl ?_
    refine e_iconst (pc2 := 55) (v := nI 0) hM rfl rfl rfl ?_
    refine e_istore_n (pc2 := 56) (L2 := [some (.ref 40), some (.ref 60), some (.int (nI 0)), some (.int (nI 0)), o4]) hM rfl rfl rfl rfl ?_
    exact rfl
  · refine e_aload_n (pc2 := 33) hM rfl rfl rfl ?_
    refine e_getfr (pc2 := 36) (k := 39) (b := 66) hM rfl rfl rfl rfl rfl ?_
    refine e_iload_n (pc2 := 37) hM rfl rfl rfl ?_
    refine e_iconst (pc2 := 38) (v := -nI 1) hM rfl rfl rfl ?_
    refine e_iast (pc2 := 39) (k := 65) hM rfl rfl rfl (fun j1 => ?_)
    refine e_aload_n (pc2 := 40) hM rfl rfl rfl ?_
    refine e_getfr (pc2 := 43) (k := 39) (b := 67) hM rfl rfl rfl rfl rfl ?_
    refine e_iload_n (pc2 := 44) hM rfl rfl rfl ?_
    refine e_iconst (pc2 := 45) (v := -nI 1) hM rfl rfl rfl ?_
    refine e_iast (pc2 := 46) (k := 66) hM rfl rfl rfl (fun j2 => ?_)
    refine e_iinc (pc2 := 49) (v := nI 1) (L2 := [some (.ref 40), some (.ref 60), some (.int (b2 + (nI 1))), o3, o4]) hM rfl rfl rfl rfl rfl ?_
    refine e_goto (tgt := 24) hM rfl rfl ?_
    exact rfl
theorem qX8_ends_60_56 {sl : Nat} {xs : Nat → Int32} {d : Nat} {b2 b3 : Int32} {o4 : Option Value} {h : pmH} : pm_Ev sl xs (d + 1) 133 56 [some (.ref 40), some (.ref 60), some (.int b2), some (.int b3), o4] [] (SH, h) = if (h 39 1) ≤ b3 then (some (some (.int b2), (SH, h))) else (pm_ix none b3 24 fun j1 => pm_rv (pm_cf (pm_Ev sl xs) (d + 1) 132 [.ref 40, .int (h 59 j1)] (SH, h)) SH fun h2 => pm_ix none b3 24 fun j3 => pm_ix none (h2 59 j3) 24 fun j4 => if 0 ≤ (h2 65 j4) then (pm_ix none b3 24 fun j5 => pm_ix none (h2 59 j5) 24 fun j6 => if ((nI 1) + (h2 65 j6)) ≤ b2 then (pm_Ev sl xs (d + 1) 133 56 [some (.ref 40), some (.ref 60), some (.int b2), some (.int (b3 + (nI 1))), some (.int ((nI 1) + (h2 65 j6)))] [] (SH, h2)) else (pm_Ev sl xs (d + 1) 133 56 [some (.ref 40), some (.ref 60), some (.int ((nI 1) + (h2 65 j6))), some (.int (b3 + (nI 1))), some (.int ((nI 1) + (h2 65 j6)))] [] (SH, h2))) else (if (nI 99) ≤ b2 then (pm_Ev sl xs (d + 1) 133 56 [some (.ref 40), some (.ref 60), some (.int b2), some (.int (b3 + (nI 1))), some (.int (nI 99))] [] (SH, h2)) else (pm_Ev sl xs (d + 1) 133 56 [some (.ref 40), some (.ref 60), some (.int (nI 99)), some (.int (b3 + (nI 1))), some (.int (nI 99))] [] (SH, h2)))) := by
  have hM : pm_mt 133 = some mt_133 := rfl
  refine e_iload_n (pc2 := 57) hM rfl rfl rfl ?_
  refine e_aload_n (pc2 := 58) hM rfl rfl rfl ?_
  refine e_getfi (pc2 := 61) (k := 39) (v := (h 39 1)) hM rfl rfl rfl rfl rfl rfl ?_
  refine e_icmp_ge (pc2 := 64) (tgt := 118) hM rfl rfl rfl ?_ ?_
  · refine e_iload_n (pc2 := 119) hM rfl rfl rfl ?_
    exact e_iret hM rfl rfl
  · refine e_aload_n (pc2 := 65) hM rfl rfl rfl ?_
    refine e_aload_n (pc2 := 66) hM rfl rfl rfl ?_
    refine e_iload_n (pc2 := 67) hM rfl rfl rfl ?_
    refine e_iald (pc2 := 68) (k := 59) (V := fun j1 => (h 59 j1)) hM rfl rfl rfl (fun _ => rfl) (fun j1 => ?_)
    refine e_cvv (pc2 := 71) (k := 39) (As := [.ref 40, .int (h 59 j1)]) (rest := []) hM rfl rfl rfl rfl rfl rfl rfl (fun h2 => ?_)
    refine e_aload_n (pc2 := 72) hM rfl rfl rfl ?_
    refine e_getfr (pc2 := 75) (k := 39) (b := 66) hM rfl rfl rfl rfl rfl ?_
    refine e_aload_n (pc2 := 76) hM rfl rfl rfl ?_
    refine e_iload_n (pc2 := 77) hM rfl rfl rfl ?_
    refine e_iald (pc2 := 78) (k := 59) (V := fun j3 => (h2 59 j3)) hM rfl rfl rfl (fun _ => rfl) (fun j3 => ?_)
    refine e_iald (pc2 := 79) (k := 65) (V := fun j4 => (h2 65 j4)) hM rfl rfl rfl (fun _ => rfl) (fun j4 => ?_)
    refine e_if_ge (pc2 := 82) (tgt := 87) hM rfl rfl rfl ?_ ?_
    · refine e_iconst (pc2 := 88) (v := nI 1) hM rfl rfl rfl ?_
      refine e_aload_n (pc2 := 89) hM rfl rfl rfl ?_
      refine e_getfr (pc2 := 92) (k := 39) (b := 66) hM rfl rfl rfl rfl rfl ?_
      refine e_aload_n (pc2 := 93) hM rfl rfl rfl ?_
      refine e_iload_n (pc2 := 94) hM rfl rfl rfl ?_
      refine e_iald (pc2 := 95) (k := 59) (V := fun j5 => (h2 59 j5)) hM rfl rfl rfl (fun _ => rfl) (fun j5 => ?_)
      refine e_iald (pc2 := 96) (k := 65) (V := fun j6 => (h2 65 j6)) hM rfl rfl rfl (fun _ => rfl) (fun j6 => ?_)
      refine e_iadd (pc2 := 97) hM rfl rfl ?_
      refine e_istore (pc2 := 99) (L2 := [some (.ref 40), some (.ref 60), some (.int b2), some (.int b3), some (.int ((nI 1) + (h2 65 j6)))]) hM rfl rfl rfl rfl ?_
      refine e_iload (pc2 := 101) hM rfl rfl rfl ?_
      refine e_iload_n (pc2 := 102) hM rfl rfl rfl ?_
      refine e_icmp_le (pc2 := 105) (tgt := 110) hM rfl rfl rfl ?_ ?_
      · refine e_iload_n (pc2 := 111) hM rfl rfl rfl ?_
        refine e_istore_n (pc2 := 112) (L2 := [some (.ref 40), some (.ref 60), some (.int b2), some (.int b3), some (.int ((nI 1) + (h2 65 j6)))]) hM rfl rfl rfl rfl ?_
        refine e_iinc (pc2 := 115) (v := nI 1) (L2 := [some (.ref 40), some (.ref 60), some (.int b2), some (.int (b3 + (nI 1))), some (.int ((nI 1) + (h2 65 j6)))]) hM rfl rfl rfl rfl rfl ?_
        refine e_goto (tgt := 56) hM rfl rfl ?_
        exact rfl
      · refine e_iload (pc2 := 107) hM rfl rfl rfl ?_
        refine e_goto (tgt := 111) hM rfl rfl ?_
        refine e_istore_n (pc2 := 112) (L2 := [some (.ref 40), some (.ref 60), some (.int ((nI 1) + (h2 65 j6))), some (.int b3), some (.int ((nI 1) + (h2 65 j6)))]) hM rfl rfl rfl rfl ?_
        refine e_iinc (pc2 := 115) (v := nI 1) (L2 := [some (.ref 40), some (.ref 60), some (.int ((nI 1) + (h2 65 j6))), some (.int (b3 + (nI 1))), some (.int ((nI 1) + (h2 65 j6)))]) hM rfl rfl rfl rfl rfl ?_
        refine e_goto (tgt := 56) hM rfl rfl ?_
        exact rfl
    · refine e_bipush (pc2 := 84) (v := nI 99) hM rfl rfl rfl rfl ?_
      refine e_goto (tgt := 97) hM rfl rfl ?_
      refine e_istore (pc2 := 99) (L2 := [some (.ref 40), some (.ref 60), some (.int b2), some (.int b3), some (.int (nI 99))]) hM rfl rfl rfl rfl ?_
      refine e_iload (pc2 := 101) hM rfl rfl rfl ?_
      refine e_iload_n (pc2 := 102) hM rfl rfl rfl ?_
      refine e_icmp_le (pc2 := 105) (tgt := 110) hM rfl rfl rfl ?_ ?_
      · refine e_iload_n (pc2 := 111) hM rfl rfl rfl ?_
        refine e_istore_n (pc2 := 112) (L2 := [some (.ref 40), some (.ref 60), some (.int b2), some (.int b3), some (.int (nI 99))]) hM rfl rfl rfl rfl ?_
        refine e_iinc (pc2 := 115) (v := nI 1) (L2 := [some (.ref 40), some (.ref 60), some (.int b2), some (.int (b3 + (nI 1))), some (.int (nI 99))]) hM rfl rfl rfl rfl rfl ?_
        refine e_goto (tgt := 56) hM rfl rfl ?_
        exact rfl
      · refine e_iload (pc2 := 107) hM rfl rfl rfl ?_
        refine e_goto (tgt := 111) hM rfl rfl ?_
        refine e_istore_n (pc2 := 112) (L2 := [some (.ref 40), some (.ref 60), some (.int (nI 99)), some (.int b3), some (.int (nI 99))]) hM rfl rfl rfl rfl ?_
        refine e_iinc (pc2 := 115) (v := nI 1) (L2 := [some (.ref 40), some (.ref 60), some (.int (nI 99)), some (.int (b3 + (nI 1))), some (.int (nI 99))]) hM rfl rfl rfl rfl rfl ?_
        refine e_goto (tgt := 56) hM rfl rfl ?_
        exact rfl
theorem qX8_ends_69_0 {sl : Nat} {xs : Nat → Int32} {d : Nat} {h : pmH} : pm_cf (pm_Ev sl xs) (d + 2) 133 [.ref 40, .ref 69] (SH, h) = pm_Ev sl xs (d + 1) 133 2 [some (.ref 40), some (.ref 69), some (.int (nI 0)), none, none] [] (SH, h) := by
  have hM : pm_mt 133 = some mt_133 := rfl
  refine e_call (L := [some (.ref 40), some (.ref 69), none, none, none]) hM rfl rfl ?_
  refine e_iconst (pc2 := 1) (v := nI 0) hM rfl rfl rfl ?_
  refine e_istore_n (pc2 := 2) (L2 := [some (.ref 40), some (.ref 69), some (.int (nI 0)), none, none]) hM rfl rfl rfl rfl ?_
  exact rfl
theorem qX8_ends_69_2 {sl : Nat} {xs : Nat → Int32} {d : Nat} {b2 : Int32} {o3 o4 : Option Value} {h : pmH} : pm_Ev sl xs (d + 1) 133 2 [some (.ref 40), some (.ref 69), some (.int b2), o3, o4] [] (SH, h) = if (nI 180) ≤ b2 then (pm_Ev sl xs (d + 1) 133 24 [some (.ref 40), some (.ref 69), some (.int (nI 0)), o3, o4] [] (SH, h)) else (pm_ix none b2 180 fun j1 => pm_Ev sl xs (d + 1) 133 2 [some (.ref 40), some (.ref 69), some (.int (b2 + (nI 1))), o3, o4] [] (SH, (pm_up h 67 j1 (nI 0)))) := by
  have hM : pm_mt 133 = some mt_133 := rfl
  refine e_iload_n (pc2 := 3) hM rfl rfl rfl ?_
  refine e_sipush (pc2 := 6) (v := nI 180) hM rfl rfl rfl rfl ?_
  refine e_icmp_ge (pc2 := 9) (tgt := 22) hM rfl rfl rfl ?_ ?_
  · refine e_iconst (pc2 := 23) (v := nI 0) hM rfl rfl rfl ?_
    refine e_istore_n (pc2 := 24) (L2 := [some (.ref 40), some (.ref 69), some (.int (nI 0)), o3, o4]) hM rfl rfl rfl rfl ?_
    exact rfl
  · refine e_aload_n (pc2 := 10) hM rfl rfl rfl ?_
    refine e_getfr (pc2 := 13) (k := 39) (b := 68) hM rfl rfl rfl rfl rfl ?_
    refine e_iload_n (pc2 := 14) hM rfl rfl rfl ?_
    refine e_iconst (pc2 := 15) (v := nI 0) hM rfl rfl rfl ?_
    refine e_iast (pc2 := 16) (k := 67) hM rfl rfl rfl (fun j1 => ?_)
    refine e_iinc (pc2 := 19) (v := nI 1) (L2 := [some (.ref 40), some (.ref 69), some (.int (b2 + (nI 1))), o3, o4]) hM rfl rfl rfl rfl rfl ?_
    refine e_goto (tgt := 2) hM rfl rfl ?_
    exact rfl
theorem qX8_ends_69_24 {sl : Nat} {xs : Nat → Int32} {d : Nat} {b2 : Int32} {o3 o4 : Option Value} {h : pmH} : pm_Ev sl xs (d + 1) 133 24 [some (.ref 40), some (.ref 69), some (.int b2), o3, o4] [] (SH, h) = if (h 39 1) ≤ b2 then (pm_Ev sl xs (d + 1) 133 56 [some (.ref 40), some (.ref 69), some (.int (nI 0)), some (.int (nI 0)), o4] [] (SH, h)) else (pm_ix none b2 24 fun j1 => pm_ix none b2 24 fun j2 => pm_Ev sl xs (d + 1) 133 24 [some (.ref 40), some (.ref 69), some (.int (b2 + (nI 1))), o3, o4] [] (SH, (pm_up (pm_up h 65 j1 (-nI 1)) 66 j2 (-nI 1)))) := by
  have hM : pm_mt 133 = some mt_133 := rfl
  refine e_iload_n (pc2 := 25) hM rfl rfl rfl ?_
  refine e_aload_n (pc2 := 26) hM rfl rfl rfl ?_
  refine e_getfi (pc2 := 29) (k := 39) (v := (h 39 1)) hM rfl rfl rfl rfl rfl rfl ?_
  refine e_icmp_ge (pc2 := 32) (tgt := 52) hM rfl rfl rfl ?_ ?_
  · refine e_iconst (pc2 := 53) (v := nI 0) hM rfl rfl rfl ?_
    refine e_istore_n (pc2 := 54) (L2 := [some (.ref 40), some (.ref 69), some (.int (nI 0)), o3, o4]) hM rfl rfl rfl rfl ?_
    refine e_iconst (pc2 := 55) (v := nI 0) hM rfl rfl rfl ?_
    refine e_istore_n (pc2 := 56) (L2 := [some (.ref 40), some (.ref 69), some (.int (nI 0)), some (.int (nI 0)), o4]) hM rfl rfl rfl rfl ?_
    exact rfl
  · refine e_aload_n (pc2 := 33) hM rfl rfl rfl ?_
    refine e_getfr (pc2 := 36) (k := 39) (b := 66) hM rfl rfl rfl rfl rfl ?_
    refine e_iload_n (pc2 := 37) hM rfl rfl rfl ?_
    refine e_iconst (pc2 := 38) (v := -nI 1) hM rfl rfl rfl ?_
    refine e_iast (pc2 := 39) (k := 65) hM rfl rfl rfl (fun j1 => ?_)
    refine e_aload_n (pc2 := 40) hM rfl rfl rfl ?_
    refine e_getfr (pc2 := 43) (k := 39) (b := 67) hM rfl rfl rfl rfl rfl ?_
    refine e_iload_n (pc2 := 44) hM rfl rfl rfl ?_
    refine e_iconst (pc2 := 45) (v := -nI 1) hM rfl rfl rfl ?_
    refine e_iast (pc2 := 46) (k := 66) hM rfl rfl rfl (fun j2 => ?_)
    refine e_iinc (pc2 := 49) (v := nI 1) (L2 := [some (.ref 40), some (.ref 69), some (.int (b2 + (nI 1))), o3, o4]) hM rfl rfl rfl rfl rfl ?_
    refine e_goto (tgt := 24) hM rfl rfl ?_
    exact rfl
theorem qX8_ends_69_56 {sl : Nat} {xs : Nat → Int32} {d : Nat} {b2 b3 : Int32} {o4 : Option Value} {h : pmH} : pm_Ev sl xs (d + 1) 133 56 [some (.ref 40), some (.ref 69), some (.int b2), some (.int b3), o4] [] (SH, h) = if (h 39 1) ≤ b3 then (some (some (.int b2), (SH, h))) else (pm_ix none b3 24 fun j1 => pm_rv (pm_cf (pm_Ev sl xs) (d + 1) 132 [.ref 40, .int (h 68 j1)] (SH, h)) SH fun h2 => pm_ix none b3 24 fun j3 => pm_ix none (h2 68 j3) 24 fun j4 => if 0 ≤ (h2 65 j4) then (pm_ix none b3 24 fun j5 => pm_ix none (h2 68 j5) 24 fun j6 => if ((nI 1) + (h2 65 j6)) ≤ b2 then (pm_Ev sl xs (d + 1) 133 56 [some (.ref 40), some (.ref 69), some (.int b2), some (.int (b3 + (nI 1))), some (.int ((nI 1) + (h2 65 j6)))] [] (SH, h2)) else (pm_Ev sl xs (d + 1) 133 56 [some (.ref 40), some (.ref 69), some (.int ((nI 1) + (h2 65 j6))), some (.int (b3 + (nI 1))), some (.int ((nI 1) + (h2 65 j6)))] [] (SH, h2))) else (if (nI 99) ≤ b2 then (pm_Ev sl xs (d + 1) 133 56 [some (.ref 40), some (.ref 69), some (.int b2), some (.int (b3 + (nI 1))), some (.int (nI 99))] [] (SH, h2)) else (pm_Ev sl xs (d + 1) 133 56 [some (.ref 40), some (.ref 69), some (.int (nI 99)), some (.int (b3 + (nI 1))), some (.int (nI 99))] [] (SH, h2)))) := by
  have hM : pm_mt 133 = some mt_133 := rfl
  refine e_iload_n (pc2 := 57) hM rfl rfl rfl ?_
  refine e_aload_n (pc2 := 58) hM rfl rfl rfl ?_
  refine e_getfi (pc2 := 61) (k := 39) (v := (h 39 1)) hM rfl rfl rfl rfl rfl rfl ?_
  refine e_icmp_ge (pc2 := 64) (tgt := 118) hM rfl rfl rfl ?_ ?_
  · refine e_iload_n (pc2 := 119) hM rfl rfl rfl ?_
    exact e_iret hM rfl rfl
  · refine e_aload_n (pc2 := 65) hM rfl rfl rfl ?_
    refine e_aload_n (pc2 := 66) hM rfl rfl rfl ?_
    refine e_iload_n (pc2 := 67) hM rfl rfl rfl ?_
    refine e_iald (pc2 := 68) (k := 68) (V := fun j1 => (h 68 j1)) hM rfl rfl rfl (fun _ => rfl) (fun j1 => ?_)
    refine e_cvv (pc2 := 71) (k := 39) (As := [.ref 40, .int (h 68 j1)]) (rest := []) hM rfl rfl rfl rfl rfl rfl rfl (fun h2 => ?_)
    refine e_aload_n (pc2 := 72) hM rfl rfl rfl ?_
    refine e_getfr (pc2 := 75) (k := 39) (b := 66) hM rfl rfl rfl rfl rfl ?_
    refine e_aload_n (pc2 := 76) hM rfl rfl rfl ?_
    refine e_iload_n (pc2 := 77) hM rfl rfl rfl ?_
    refine e_iald (pc2 := 78) (k := 68) (V := fun j3 => (h2 68 j3)) hM rfl rfl rfl (fun _ => rfl) (fun j3 => ?_)
    refine e_iald (pc2 := 79) (k := 65) (V := fun j4 => (h2 65 j4)) hM rfl rfl rfl (fun _ => rfl) (fun j4 => ?_)
    refine e_if_ge (pc2 := 82) (tgt := 87) hM rfl rfl rfl ?_ ?_
    · refine e_iconst (pc2 := 88) (v := nI 1) hM rfl rfl rfl ?_
      refine e_aload_n (pc2 := 89) hM rfl rfl rfl ?_
      refine e_getfr (pc2 := 92) (k := 39) (b := 66) hM rfl rfl rfl rfl rfl ?_
      refine e_aload_n (pc2 := 93) hM rfl rfl rfl ?_
      refine e_iload_n (pc2 := 94) hM rfl rfl rfl ?_
      refine e_iald (pc2 := 95) (k := 68) (V := fun j5 => (h2 68 j5)) hM rfl rfl rfl (fun _ => rfl) (fun j5 => ?_)
      refine e_iald (pc2 := 96) (k := 65) (V := fun j6 => (h2 65 j6)) hM rfl rfl rfl (fun _ => rfl) (fun j6 => ?_)
      refine e_iadd (pc2 := 97) hM rfl rfl ?_
      refine e_istore (pc2 := 99) (L2 := [some (.ref 40), some (.ref 69), some (.int b2), some (.int b3), some (.int ((nI 1) + (h2 65 j6)))]) hM rfl rfl rfl rfl ?_
      refine e_iload (pc2 := 101) hM rfl rfl rfl ?_
      refine e_iload_n (pc2 := 102) hM rfl rfl rfl ?_
      refine e_icmp_le (pc2 := 105) (tgt := 110) hM rfl rfl rfl ?_ ?_
      · refine e_iload_n (pc2 := 111) hM rfl rfl rfl ?_
        refine e_istore_n (pc2 := 112) (L2 := [some (.ref 40), some (.ref 69), some (.int b2), some (.int b3), some (.int ((nI 1) + (h2 65 j6)))]) hM rfl rfl rfl rfl ?_
        refine e_iinc (pc2 := 115) (v := nI 1) (L2 := [some (.ref 40), some (.ref 69), some (.int b2), some (.int (b3 + (nI 1))), some (.int ((nI 1) + (h2 65 j6)))]) hM rfl rfl rfl rfl rfl ?_
        refine e_goto (tgt := 56) hM rfl rfl ?_
        exact rfl
      · refine e_iload (pc2 := 107) hM rfl rfl rfl ?_
        refine e_goto (tgt := 111) hM rfl rfl ?_
        refine e_istore_n (pc2 := 112) (L2 := [some (.ref 40), some (.ref 69), some (.int ((nI 1) + (h2 65 j6))), some (.int b3), some (.int ((nI 1) + (h2 65 j6)))]) hM rfl rfl rfl rfl ?_
        refine e_iinc (pc2 := 115) (v := nI 1) (L2 := [some (.ref 40), some (.ref 69), some (.int ((nI 1) + (h2 65 j6))), some (.int (b3 + (nI 1))), some (.int ((nI 1) + (h2 65 j6)))]) hM rfl rfl rfl rfl rfl ?_
        refine e_goto (tgt := 56) hM rfl rfl ?_
        exact rfl
    · refine e_bipush (pc2 := 84) (v := nI 99) hM rfl rfl rfl rfl ?_
      refine e_goto (tgt := 97) hM rfl rfl ?_
      refine e_istore (pc2 := 99) (L2 := [some (.ref 40), some (.ref 69), some (.int b2), some (.int b3), some (.int (nI 99))]) hM rfl rfl rfl rfl ?_
      refine e_iload (pc2 := 101) hM rfl rfl rfl ?_
      refine e_iload_n (pc2 := 102) hM rfl rfl rfl ?_
      refine e_icmp_le (pc2 := 105) (tgt := 110) hM rfl rfl rfl ?_ ?_
      · refine e_iload_n (pc2 := 111) hM rfl rfl rfl ?_
        refine e_istore_n (pc2 := 112) (L2 := [some (.ref 40), some (.ref 69), some (.int b2), some (.int b3), some (.int (nI 99))]) hM rfl rfl rfl rfl ?_
        refine e_iinc (pc2 := 115) (v := nI 1) (L2 := [some (.ref 40), some (.ref 69), some (.int b2), some (.int (b3 + (nI 1))), some (.int (nI 99))]) hM rfl rfl rfl rfl rfl ?_
        refine e_goto (tgt := 56) hM rfl rfl ?_
        exact rfl
      · refine e_iload (pc2 := 107) hM rfl rfl rfl ?_
        refine e_goto (tgt := 111) hM rfl rfl ?_
        refine e_istore_n (pc2 := 112) (L2 := [some (.ref 40), some (.ref 69), some (.int (nI 99)), some (.int b3), some (.int (nI 99))]) hM rfl rfl rfl rfl ?_
        refine e_iinc (pc2 := 115) (v := nI 1) (L2 := [some (.ref 40), some (.ref 69), some (.int (nI 99)), some (.int (b3 + (nI 1))), some (.int (nI 99))]) hM rfl rfl rfl rfl rfl ?_
        refine e_goto (tgt := 56) hM rfl rfl ?_
        exact rfl
theorem qX8_plan_0 {sl : Nat} {xs : Nat → Int32} {d : Nat} {h : pmH} : pm_cf (pm_Ev sl xs) (d + 2) 134 [.ref 40] (SH, h) = pm_ri (pm_cf (pm_Ev sl xs) (d + 1) 133 [.ref 40, .ref 60] (SH, h)) SH fun x2 h1 => some (some (.int x2), (SH, h1)) := by
  have hM : pm_mt 134 = some mt_134 := rfl
  refine e_call (L := [some (.ref 40)]) hM rfl rfl ?_
  refine e_aload_n (pc2 := 1) hM rfl rfl rfl ?_
  refine e_aload_n (pc2 := 2) hM rfl rfl rfl ?_
  refine e_getfr (pc2 := 5) (k := 39) (b := 60) hM rfl rfl rfl rfl rfl ?_
  refine e_cvi (pc2 := 8) (k := 39) (As := [.ref 40, .ref 60]) (rest := []) hM rfl rfl rfl rfl rfl rfl rfl (fun x2 h1 => ?_)
  exact e_iret hM rfl rfl
theorem qX8_hung_0 {sl : Nat} {xs : Nat → Int32} {d : Nat} {a0 a1 : Int32} {h : pmH} : pm_cf (pm_Ev sl xs) (d + 2) 135 [.ref 40, .int a0, .int a1] (SH, h) = pm_ri (pm_cf (pm_Ev sl xs) (d + 1) 97 [.ref 40, .int a0] (SH, h)) SH fun x2 h1 => if x2 = 0 then (pm_ri (pm_cf (pm_Ev sl xs) (d + 1) 96 [.ref 40, .int (nI 1)] (SH, h1)) SH fun x4 h3 => some (some (.int x4), (SH, h3))) else (pm_ri (pm_cf (pm_Ev sl xs) (d + 1) 95 [.int a1, .int (nI 0), .int (nI 3)] (SH, h1)) SH fun x6 h5 => if x6 = 0 then (pm_ri (pm_cf (pm_Ev sl xs) (d + 1) 96 [.ref 40, .int (nI 1)] (SH, h5)) SH fun x16 h15 => some (some (.int x16), (SH, h15))) else (pm_ri (pm_cf (pm_Ev sl xs) (d + 1) 133 [.ref 40, .ref 60] (SH, h5)) SH fun x8 h7 => if a1 = 0 then (pm_ix none a0 24 fun j14 => some (some (.int (h7 65 j14)), (SH, h7))) else (if a1 = (nI 1) then (pm_ix none a0 24 fun j13 => some (some (.int (h7 66 j13)), (SH, h7))) else (if a1 = (nI 2) then (pm_ri (pm_cf (pm_Ev sl xs) (d + 1) 129 [.ref 40, .int a0] (SH, h7)) SH fun x12 h11 => some (some (.int x12), (SH, h11))) else (pm_ri (pm_cf (pm_Ev sl xs) (d + 1) 131 [.ref 40, .int a0] (SH, h7)) SH fun x10 h9 => some (some (.int x10), (SH, h9))))))) := by
  have hM : pm_mt 135 = some mt_135 := rfl
  refine e_call (L := [some (.ref 40), some (.int a0), some (.int a1), none]) hM rfl rfl ?_
  refine e_aload_n (pc2 := 1) hM rfl rfl rfl ?_
  refine e_iload_n (pc2 := 2) hM rfl rfl rfl ?_
  refine e_cvi (pc2 := 5) (k := 39) (As := [.ref 40, .int a0]) (rest := []) hM rfl rfl rfl rfl rfl rfl rfl (fun x2 h1 => ?_)
  refine e_if_eq (pc2 := 8) (tgt := 17) hM rfl rfl rfl ?_ ?_
  · refine e_aload_n (pc2 := 18) hM rfl rfl rfl ?_
    refine e_iconst (pc2 := 19) (v := nI 1) hM rfl rfl rfl ?_
    refine e_cvi (pc2 := 22) (k := 39) (As := [.ref 40, .int (nI 1)]) (rest := []) hM rfl rfl rfl rfl rfl rfl rfl (fun x4 h3 => ?_)
    exact e_iret hM rfl rfl
  · refine e_iload_n (pc2 := 9) hM rfl rfl rfl ?_
    refine e_iconst (pc2 := 10) (v := nI 0) hM rfl rfl rfl ?_
    refine e_iconst (pc2 := 11) (v := nI 3) hM rfl rfl rfl ?_
    refine e_csi (pc2 := 14) (As := [.int a1, .int (nI 0), .int (nI 3)]) (rest := []) hM rfl rfl rfl rfl rfl rfl rfl (fun x6 h5 => ?_)
    refine e_if_ne (pc2 := 17) (tgt := 23) hM rfl rfl rfl ?_ ?_
    · refine e_aload_n (pc2 := 24) hM rfl rfl rfl ?_
      refine e_aload_n (pc2 := 25) hM rfl rfl rfl ?_
      refine e_getfr (pc2 := 28) (k := 39) (b := 60) hM rfl rfl rfl rfl rfl ?_
      refine e_cvi (pc2 := 31) (k := 39) (As := [.ref 40, .ref 60]) (rest := []) hM rfl rfl rfl rfl rfl rfl rfl (fun x8 h7 => ?_)
      refine e_istore_n (pc2 := 32) (L2 := [some (.ref 40), some (.int a0), some (.int a1), some (.int x8)]) hM rfl rfl rfl rfl ?_
      refine e_iload_n (pc2 := 33) hM rfl rfl rfl ?_
      refine e_if_ne (pc2 := 36) (tgt := 45) hM rfl rfl rfl ?_ ?_
      · refine e_iload_n (pc2 := 46) hM rfl rfl rfl ?_
        refine e_iconst (pc2 := 47) (v := nI 1) hM rfl rfl rfl ?_
        refine e_icmp_ne (pc2 := 50) (tgt := 59) hM rfl rfl rfl ?_ ?_
        · refine e_iload_n (pc2 := 60) hM rfl rfl rfl ?_
          refine e_iconst (pc2 := 61) (v := nI 2) hM rfl rfl rfl ?_
          refine e_icmp_ne (pc2 := 64) (tgt := 72) hM rfl rfl rfl ?_ ?_
          · refine e_aload_n (pc2 := 73) hM rfl rfl rfl ?_
            refine e_iload_n (pc2 := 74) hM rfl rfl rfl ?_
            refine e_cvi (pc2 := 77) (k := 39) (As := [.ref 40, .int a0]) (rest := []) hM rfl rfl rfl rfl rfl rfl rfl (fun x10 h9 => ?_)
            exact e_iret hM rfl rfl
          · refine e_aload_n (pc2 := 65) hM rfl rfl rfl ?_
            refine e_iload_n (pc2 := 66) hM rfl rfl rfl ?_
            refine e_cvi (pc2 := 69) (k := 39) (As := [.ref 40, .int a0]) (rest := []) hM rfl rfl rfl rfl rfl rfl rfl (fun x12 h11 => ?_)
            refine e_goto (tgt := 77) hM rfl rfl ?_
            exact e_iret hM rfl rfl
        · refine e_aload_n (pc2 := 51) hM rfl rfl rfl ?_
          refine e_getfr (pc2 := 54) (k := 39) (b := 67) hM rfl rfl rfl rfl rfl ?_
          refine e_iload_n (pc2 := 55) hM rfl rfl rfl ?_
          refine e_iald (pc2 := 56) (k := 66) (V := fun j13 => (h7 66 j13)) hM rfl rfl rfl (fun _ => rfl) (fun j13 => ?_)
          refine e_goto (tgt := 77) hM rfl rfl ?_
          exact e_iret hM rfl rfl
      · refine e_aload_n (pc2 := 37) hM rfl rfl rfl ?_
        refine e_getfr (pc2 := 40) (k := 39) (b := 66) hM rfl rfl rfl rfl rfl ?_
        refine e_iload_n (pc2 := 41) hM rfl rfl rfl ?_
        refine e_iald (pc2 := 42) (k := 65) (V := fun j14 => (h7 65 j14)) hM rfl rfl rfl (fun _ => rfl) (fun j14 => ?_)
        refine e_goto (tgt := 77) hM rfl rfl ?_
        exact e_iret hM rfl rfl
    · refine e_aload_n (pc2 := 18) hM rfl rfl rfl ?_
      refine e_iconst (pc2 := 19) (v := nI 1) hM rfl rfl rfl ?_
      refine e_cvi (pc2 := 22) (k := 39) (As := [.ref 40, .int (nI 1)]) (rest := []) hM rfl rfl rfl rfl rfl rfl rfl (fun x16 h15 => ?_)
      exact e_iret hM rfl rfl
theorem qX8_lay_0 {sl : Nat} {xs : Nat → Int32} {d : Nat} {a0 a1 : Int32} {h : pmH} : pm_cf (pm_Ev sl xs) (d + 2) 136 [.ref 40, .int a0, .int a1] (SH, h) = pm_Ev sl xs (d + 1) 136 11 [some (.ref 40), some (.int a0), some (.int a1), some (.int a0), some (.int a1), some (.int (nI 0)), some (.int (nI 0)), none, none] [] (SH, h) := by
  have hM : pm_mt 136 = some mt_136 := rfl
  refine e_call (L := [some (.ref 40), some (.int a0), some (.int a1), none, none, none, none, none, none]) hM rfl rfl ?_
  refine e_iload_n (pc2 := 1) hM rfl rfl rfl ?_
  refine e_istore_n (pc2 := 2) (L2 := [some (.ref 40), some (.int a0), some (.int a1), some (.int a0), none, none, none, none, none]) hM rfl rfl rfl rfl ?_
  refine e_iload_n (pc2 := 3) hM rfl rfl rfl ?_
  refine e_istore (pc2 := 5) (L2 := [some (.ref 40), some (.int a0), some (.int a1), some (.int a0), some (.int a1), none, none, none, none]) hM rfl rfl rfl rfl ?_
  refine e_iconst (pc2 := 6) (v := nI 0) hM rfl rfl rfl ?_
  refine e_istore (pc2 := 8) (L2 := [some (.ref 40), some (.int a0), some (.int a1), some (.int a0), some (.int a1), some (.int (nI 0)), none, none, none]) hM rfl rfl rfl rfl ?_
  refine e_iconst (pc2 := 9) (v := nI 0) hM rfl rfl rfl ?_
  refine e_istore (pc2 := 11) (L2 := [some (.ref 40), some (.int a0), some (.int a1), some (.int a0), some (.int a1), some (.int (nI 0)), some (.int (nI 0)), none, none]) hM rfl rfl rfl rfl ?_
  exact rfl
theorem qX8_lay_11 {sl : Nat} {xs : Nat → Int32} {d : Nat} {b1 b2 b3 b4 b5 b6 : Int32} {h : pmH} : pm_Ev sl xs (d + 1) 136 11 [some (.ref 40), some (.int b1), some (.int b2), some (.int b3), some (.int b4), some (.int b5), some (.int b6), none, none] [] (SH, h) = if (h 39 1) ≤ b6 then (some (none, (SH, h))) else (if (h 39 1) - b6 = 0 then none else (if b4 / ((h 39 1) - b6) = 0 then none else (if b4 / ((h 39 1) - b6) = 0 then none else (pm_Ev sl xs (d + 1) 136 46 [some (.ref 40), some (.int b1), some (.int b2), some (.int (b3 - b3 / (b4 / ((h 39 1) - b6)) * (b4 / ((h 39 1) - b6)))), some (.int (b4 / ((h 39 1) - b6))), some (.int b5), some (.int b6), some (.int (b3 / (b4 / ((h 39 1) - b6)))), some (.int (nI 0))] [] (SH, h))))) := by
  have hM : pm_mt 136 = some mt_136 := rfl
  refine e_iload (pc2 := 13) hM rfl rfl rfl ?_
  refine e_aload_n (pc2 := 14) hM rfl rfl rfl ?_
  refine e_getfi (pc2 := 17) (k := 39) (v := (h 39 1)) hM rfl rfl rfl rfl rfl rfl ?_
  refine e_icmp_ge (pc2 := 20) (tgt := 104) hM rfl rfl rfl ?_ ?_
  · exact e_ret hM rfl rfl
  · refine e_iload (pc2 := 22) hM rfl rfl rfl ?_
    refine e_aload_n (pc2 := 23) hM rfl rfl rfl ?_
    refine e_getfi (pc2 := 26) (k := 39) (v := (h 39 1)) hM rfl rfl rfl rfl rfl rfl ?_
    refine e_iload (pc2 := 28) hM rfl rfl rfl ?_
    refine e_isub (pc2 := 29) hM rfl rfl ?_
    refine e_idiv (pc2 := 30) hM rfl rfl ?_
    refine e_istore (pc2 := 32) (L2 := [some (.ref 40), some (.int b1), some (.int b2), some (.int b3), some (.int (b4 / ((h 39 1) - b6))), some (.int b5), some (.int b6), none, none]) hM rfl rfl rfl rfl ?_
    refine e_iload_n (pc2 := 33) hM rfl rfl rfl ?_
    refine e_iload (pc2 := 35) hM rfl rfl rfl ?_
    refine e_idiv (pc2 := 36) hM rfl rfl ?_
    refine e_istore (pc2 := 38) (L2 := [some (.ref 40), some (.int b1), some (.int b2), some (.int b3), some (.int (b4 / ((h 39 1) - b6))), some (.int b5), some (.int b6), some (.int (b3 / (b4 / ((h 39 1) - b6)))), none]) hM rfl rfl rfl rfl ?_
    refine e_iload_n (pc2 := 39) hM rfl rfl rfl ?_
    refine e_iload (pc2 := 41) hM rfl rfl rfl ?_
    refine e_irem (pc2 := 42) hM rfl rfl ?_
    refine e_istore_n (pc2 := 43) (L2 := [some (.ref 40), some (.int b1), some (.int b2), some (.int (b3 - b3 / (b4 / ((h 39 1) - b6)) * (b4 / ((h 39 1) - b6)))), some (.int (b4 / ((h 39 1) - b6))), some (.int b5), some (.int b6), some (.int (b3 / (b4 / ((h 39 1) - b6)))), none]) hM rfl rfl rfl rfl ?_
    refine e_iconst (pc2 := 44) (v := nI 0) hM rfl rfl rfl ?_
    refine e_istore (pc2 := 46) (L2 := [some (.ref 40), some (.int b1), some (.int b2), some (.int (b3 - b3 / (b4 / ((h 39 1) - b6)) * (b4 / ((h 39 1) - b6)))), some (.int (b4 / ((h 39 1) - b6))), some (.int b5), some (.int b6), some (.int (b3 / (b4 / ((h 39 1) - b6)))), some (.int (nI 0))]) hM rfl rfl rfl rfl ?_
    exact rfl
theorem qX8_lay_46 {sl : Nat} {xs : Nat → Int32} {d : Nat} {b3 b4 b5 b6 b7 b8 : Int32} {o1 o2 : Option Value} {h : pmH} : pm_Ev sl xs (d + 1) 136 46 [some (.ref 40), o1, o2, some (.int b3), some (.int b4), some (.int b5), some (.int b6), some (.int b7), some (.int b8)] [] (SH, h) = pm_ri (pm_cf (pm_Ev sl xs) (d + 1) 98 [.int b5, .int b8] (SH, h)) SH fun x2 h1 => if x2 = 0 then (if b7 ≤ 0 then (pm_ix none b6 24 fun j5 => pm_Ev sl xs (d + 1) 136 11 [some (.ref 40), o1, o2, some (.int b3), some (.int b4), some (.int (b5 ||| ((nI 1) <<< (b8 &&& 31)))), some (.int (b6 + (nI 1))), some (.int b7), some (.int b8)] [] (SH, (pm_up h1 68 j5 b8))) else (pm_ri (pm_cf (pm_Ev sl xs) (d + 1) 98 [.int b5, .int b8] (SH, h1)) SH fun x7 h6 => if x7 = 0 then (pm_Ev sl xs (d + 1) 136 46 [some (.ref 40), o1, o2, some (.int b3), some (.int b4), some (.int b5), some (.int b6), some (.int (b7 + (-nI 1))), some (.int (b8 + (nI 1)))] [] (SH, h6)) else (pm_Ev sl xs (d + 1) 136 46 [some (.ref 40), o1, o2, some (.int b3), some (.int b4), some (.int b5), some (.int b6), some (.int b7), some (.int (b8 + (nI 1)))] [] (SH, h6)))) else (pm_ri (pm_cf (pm_Ev sl xs) (d + 1) 98 [.int b5, .int b8] (SH, h1)) SH fun x4 h3 => if x4 = 0 then (pm_Ev sl xs (d + 1) 136 46 [some (.ref 40), o1, o2, some (.int b3), some (.int b4), some (.int b5), some (.int b6), some (.int (b7 + (-nI 1))), some (.int (b8 + (nI 1)))] [] (SH, h3)) else (pm_Ev sl xs (d + 1) 136 46 [some (.ref 40), o1, o2, some (.int b3), some (.int b4), some (.int b5), some (.int b6), some (.int b7), some (.int (b8 + (nI 1)))] [] (SH, h3))) := by
  have hM : pm_mt 136 = some mt_136 := rfl
  refine e_iload (pc2 := 48) hM rfl rfl rfl ?_
  refine e_iload (pc2 := 50) hM rfl rfl rfl ?_
  refine e_csi (pc2 := 53) (As := [.int b5, .int b8]) (rest := []) hM rfl rfl rfl rfl rfl rfl rfl (fun x2 h1 => ?_)
  refine e_if_ne (pc2 := 56) (tgt := 61) hM rfl rfl rfl ?_ ?_
  · refine e_iload (pc2 := 63) hM rfl rfl rfl ?_
    refine e_iload (pc2 := 65) hM rfl rfl rfl ?_
    refine e_csi (pc2 := 68) (As := [.int b5, .int b8]) (rest := []) hM rfl rfl rfl rfl rfl rfl rfl (fun x4 h3 => ?_)
    refine e_if_ne (pc2 := 71) (tgt := 74) hM rfl rfl rfl ?_ ?_
    · refine e_iinc (pc2 := 77) (v := nI 1) (L2 := [some (.ref 40), o1, o2, some (.int b3), some (.int b4), some (.int b5), some (.int b6), some (.int b7), some (.int (b8 + (nI 1)))]) hM rfl rfl rfl rfl rfl ?_
      refine e_goto (tgt := 46) hM rfl rfl ?_
      exact rfl
    · refine e_iinc (pc2 := 74) (v := -nI 1) (L2 := [some (.ref 40), o1, o2, some (.int b3), some (.int b4), some (.int b5), some (.int b6), some (.int (b7 + (-nI 1))), some (.int b8)]) hM rfl rfl rfl rfl rfl ?_
      refine e_iinc (pc2 := 77) (v := nI 1) (L2 := [some (.ref 40), o1, o2, some (.int b3), some (.int b4), some (.int b5), some (.int b6), some (.int (b7 + (-nI 1))), some (.int (b8 + (nI 1)))]) hM rfl rfl rfl rfl rfl ?_
      refine e_goto (tgt := 46) hM rfl rfl ?_
      exact rfl
  · refine e_iload (pc2 := 58) hM rfl rfl rfl ?_
    refine e_if_le (pc2 := 61) (tgt := 80) hM rfl rfl rfl ?_ ?_
    · refine e_aload_n (pc2 := 81) hM rfl rfl rfl ?_
      refine e_getfr (pc2 := 84) (k := 39) (b := 69) hM rfl rfl rfl rfl rfl ?_
      refine e_iload (pc2 := 86) hM rfl rfl rfl ?_
      refine e_iload (pc2 := 88) hM rfl rfl rfl ?_
      refine e_iast (pc2 := 89) (k := 68) hM rfl rfl rfl (fun j5 => ?_)
      refine e_iload (pc2 := 91) hM rfl rfl rfl ?_
      refine e_iconst (pc2 := 92) (v := nI 1) hM rfl rfl rfl ?_
      refine e_iload (pc2 := 94) hM rfl rfl rfl ?_
      refine e_ishl (pc2 := 95) hM rfl rfl ?_
      refine e_ior (pc2 := 96) hM rfl rfl ?_
      refine e_istore (pc2 := 98) (L2 := [some (.ref 40), o1, o2, some (.int b3), some (.int b4), some (.int (b5 ||| ((nI 1) <<< (b8 &&& 31)))), some (.int b6), some (.int b7), some (.int b8)]) hM rfl rfl rfl rfl ?_
      refine e_iinc (pc2 := 101) (v := nI 1) (L2 := [some (.ref 40), o1, o2, some (.int b3), some (.int b4), some (.int (b5 ||| ((nI 1) <<< (b8 &&& 31)))), some (.int (b6 + (nI 1))), some (.int b7), some (.int b8)]) hM rfl rfl rfl rfl rfl ?_
      refine e_goto (tgt := 11) hM rfl rfl ?_
      exact rfl
    · refine e_iload (pc2 := 63) hM rfl rfl rfl ?_
      refine e_iload (pc2 := 65) hM rfl rfl rfl ?_
      refine e_csi (pc2 := 68) (As := [.int b5, .int b8]) (rest := []) hM rfl rfl rfl rfl rfl rfl rfl (fun x7 h6 => ?_)
      refine e_if_ne (pc2 := 71) (tgt := 74) hM rfl rfl rfl ?_ ?_
      · refine e_iinc (pc2 := 77) (v := nI 1) (L2 := [some (.ref 40), o1, o2, some (.int b3), some (.int b4), some (.int b5), some (.int b6), some (.int b7), some (.int (b8 + (nI 1)))]) hM rfl rfl rfl rfl rfl ?_
        refine e_goto (tgt := 46) hM rfl rfl ?_
        exact rfl
      · refine e_iinc (pc2 := 74) (v := -nI 1) (L2 := [some (.ref 40), o1, o2, some (.int b3), some (.int b4), some (.int b5), some (.int b6), some (.int (b7 + (-nI 1))), some (.int b8)]) hM rfl rfl rfl rfl rfl ?_
        refine e_iinc (pc2 := 77) (v := nI 1) (L2 := [some (.ref 40), o1, o2, some (.int b3), some (.int b4), some (.int b5), some (.int b6), some (.int (b7 + (-nI 1))), some (.int (b8 + (nI 1)))]) hM rfl rfl rfl rfl rfl ?_
        refine e_goto (tgt := 46) hM rfl rfl ?_
        exact rfl
theorem qX8_best_0 {sl : Nat} {xs : Nat → Int32} {d : Nat} {h : pmH} : pm_cf (pm_Ev sl xs) (d + 2) 137 [.ref 40] (SH, h) = if (h 39 1) ≤ (nI 6) then (pm_Ev sl xs (d + 1) 137 19 [some (.ref 40), some (.int (nI 1)), some (.int (nI 2)), none, none, none] [] (SH, h)) else (pm_ri (pm_cf (pm_Ev sl xs) (d + 1) 96 [.ref 40, .int (nI 3)] (SH, h)) SH fun x2 h1 => some (some (.int x2), (SH, h1))) := by
  have hM : pm_mt 137 = some mt_137 := rfl
  refine e_call (L := [some (.ref 40), none, none, none, none, none]) hM rfl rfl ?_
  refine e_aload_n (pc2 := 1) hM rfl rfl rfl ?_
  refine e_getfi (pc2 := 4) (k := 39) (v := (h 39 1)) hM rfl rfl rfl rfl rfl rfl ?_
  refine e_bipush (pc2 := 6) (v := nI 6) hM rfl rfl rfl rfl ?_
  refine e_icmp_le (pc2 := 9) (tgt := 15) hM rfl rfl rfl ?_ ?_
  · refine e_iconst (pc2 := 16) (v := nI 1) hM rfl rfl rfl ?_
    refine e_istore_n (pc2 := 17) (L2 := [some (.ref 40), some (.int (nI 1)), none, none, none, none]) hM rfl rfl rfl rfl ?_
    refine e_iconst (pc2 := 18) (v := nI 2) hM rfl rfl rfl ?_
    refine e_istore_n (pc2 := 19) (L2 := [some (.ref 40), some (.int (nI 1)), some (.int (nI 2)), none, none, none]) hM rfl rfl rfl rfl ?_
    exact rfl
  · refine e_aload_n (pc2 := 10) hM rfl rfl rfl ?_
    refine e_iconst (pc2 := 11) (v := nI 3) hM rfl rfl rfl ?_
    refine e_cvi (pc2 := 14) (k := 39) (As := [.ref 40, .int (nI 3)]) (rest := []) hM rfl rfl rfl rfl rfl rfl rfl (fun x2 h1 => ?_)
    exact e_iret hM rfl rfl
theorem qX8_best_19 {sl : Nat} {xs : Nat → Int32} {d : Nat} {b1 b2 : Int32} {o3 o4 o5 : Option Value} {h : pmH} : pm_Ev sl xs (d + 1) 137 19 [some (.ref 40), some (.int b1), some (.int b2), o3, o4, o5] [] (SH, h) = if (h 39 1) < b2 then (pm_Ev sl xs (d + 1) 137 45 [some (.ref 40), some (.int b1), some (.int (nI 0)), some (.int (nI 100)), some (.int (nI 0)), o5] [] (SH, h)) else (pm_Ev sl xs (d + 1) 137 19 [some (.ref 40), some (.int (b1 * b2)), some (.int (b2 + (nI 1))), o3, o4, o5] [] (SH, h)) := by
  have hM : pm_mt 137 = some mt_137 := rfl
  refine e_iload_n (pc2 := 20) hM rfl rfl rfl ?_
  refine e_aload_n (pc2 := 21) hM rfl rfl rfl ?_
  refine e_getfi (pc2 := 24) (k := 39) (v := (h 39 1)) hM rfl rfl rfl rfl rfl rfl ?_
  refine e_icmp_gt (pc2 := 27) (tgt := 37) hM rfl rfl rfl ?_ ?_
  · refine e_iconst (pc2 := 38) (v := nI 0) hM rfl rfl rfl ?_
    refine e_istore_n (pc2 := 39) (L2 := [some (.ref 40), some (.int b1), some (.int (nI 0)), o3, o4, o5]) hM rfl rfl rfl rfl ?_
    refine e_bipush (pc2 := 41) (v := nI 100) hM rfl rfl rfl rfl ?_
    refine e_istore_n (pc2 := 42) (L2 := [some (.ref 40), some (.int b1), some (.int (nI 0)), some (.int (nI 100)), o4, o5]) hM rfl rfl rfl rfl ?_
    refine e_iconst (pc2 := 43) (v := nI 0) hM rfl rfl rfl ?_
    refine e_istore (pc2 := 45) (L2 := [some (.ref 40), some (.int b1), some (.int (nI 0)), some (.int (nI 100)), some (.int (nI 0)), o5]) hM rfl rfl rfl rfl ?_
    exact rfl
  · refine e_iload_n (pc2 := 28) hM rfl rfl rfl ?_
    refine e_iload_n (pc2 := 29) hM rfl rfl rfl ?_
    refine e_imul (pc2 := 30) hM rfl rfl ?_
    refine e_istore_n (pc2 := 31) (L2 := [some (.ref 40), some (.int (b1 * b2)), some (.int b2), o3, o4, o5]) hM rfl rfl rfl rfl ?_
    refine e_iinc (pc2 := 34) (v := nI 1) (L2 := [some (.ref 40), some (.int (b1 * b2)), some (.int (b2 + (nI 1))), o3, o4, o5]) hM rfl rfl rfl rfl rfl ?_
    refine e_goto (tgt := 19) hM rfl rfl ?_
    exact rfl
theorem qX8_best_45 {sl : Nat} {xs : Nat → Int32} {d : Nat} {b1 b2 b3 b4 : Int32} {o5 : Option Value} {h : pmH} : pm_Ev sl xs (d + 1) 137 45 [some (.ref 40), some (.int b1), some (.int b2), some (.int b3), some (.int b4), o5] [] (SH, h) = if b1 ≤ b4 then (pm_rv (pm_cf (pm_Ev sl xs) (d + 1) 136 [.ref 40, .int b2, .int b1] (SH, h)) SH fun h1 => pm_Ev sl xs (d + 1) 137 98 [some (.ref 40), some (.int b1), some (.int b2), some (.int b3), some (.int (nI 0)), o5] [] (SH, h1)) else (pm_rv (pm_cf (pm_Ev sl xs) (d + 1) 136 [.ref 40, .int b4, .int b1] (SH, h)) SH fun h2 => pm_ri (pm_cf (pm_Ev sl xs) (d + 1) 133 [.ref 40, .ref 69] (SH, h2)) SH fun x4 h3 => if x4 < b3 then (pm_Ev sl xs (d + 1) 137 45 [some (.ref 40), some (.int b1), some (.int b4), some (.int x4), some (.int (b4 + (nI 1))), some (.int x4)] [] (SH, h3)) else (pm_Ev sl xs (d + 1) 137 45 [some (.ref 40), some (.int b1), some (.int b2), some (.int b3), some (.int (b4 + (nI 1))), some (.int x4)] [] (SH, h3))) := by
  have hM : pm_mt 137 = some mt_137 := rfl
  refine e_iload (pc2 := 47) hM rfl rfl rfl ?_
  refine e_iload_n (pc2 := 48) hM rfl rfl rfl ?_
  refine e_icmp_ge (pc2 := 51) (tgt := 89) hM rfl rfl rfl ?_ ?_
  · refine e_aload_n (pc2 := 90) hM rfl rfl rfl ?_
    refine e_iload_n (pc2 := 91) hM rfl rfl rfl ?_
    refine e_iload_n (pc2 := 92) hM rfl rfl rfl ?_
    refine e_cvv (pc2 := 95) (k := 39) (As := [.ref 40, .int b2, .int b1]) (rest := []) hM rfl rfl rfl rfl rfl rfl rfl (fun h1 => ?_)
    refine e_iconst (pc2 := 96) (v := nI 0) hM rfl rfl rfl ?_
    refine e_istore (pc2 := 98) (L2 := [some (.ref 40), some (.int b1), some (.int b2), some (.int b3), some (.int (nI 0)), o5]) hM rfl rfl rfl rfl ?_
    exact rfl
  · refine e_aload_n (pc2 := 52) hM rfl rfl rfl ?_
    refine e_iload (pc2 := 54) hM rfl rfl rfl ?_
    refine e_iload_n (pc2 := 55) hM rfl rfl rfl ?_
    refine e_cvv (pc2 := 58) (k := 39) (As := [.ref 40, .int b4, .int b1]) (rest := []) hM rfl rfl rfl rfl rfl rfl rfl (fun h2 => ?_)
    refine e_aload_n (pc2 := 59) hM rfl rfl rfl ?_
    refine e_aload_n (pc2 := 60) hM rfl rfl rfl ?_
    refine e_getfr (pc2 := 63) (k := 39) (b := 69) hM rfl rfl rfl rfl rfl ?_
    refine e_cvi (pc2 := 66) (k := 39) (As := [.ref 40, .ref 69]) (rest := []) hM rfl rfl rfl rfl rfl rfl rfl (fun x4 h3 => ?_)
    refine e_istore (pc2 := 68) (L2 := [some (.ref 40), some (.int b1), some (.int b2), some (.int b3), some (.int b4), some (.int x4)]) hM rfl rfl rfl rfl ?_
    refine e_iload (pc2 := 70) hM rfl rfl rfl ?_
    refine e_iload_n (pc2 := 71) hM rfl rfl rfl ?_
    refine e_icmp_lt (pc2 := 74) (tgt := 77) hM rfl rfl rfl ?_ ?_
    · refine e_iload (pc2 := 79) hM rfl rfl rfl ?_
      refine e_istore_n (pc2 := 80) (L2 := [some (.ref 40), some (.int b1), some (.int b2), some (.int x4), some (.int b4), some (.int x4)]) hM rfl rfl rfl rfl ?_
      refine e_iload (pc2 := 82) hM rfl rfl rfl ?_
      refine e_istore_n (pc2 := 83) (L2 := [some (.ref 40), some (.int b1), some (.int b4), some (.int x4), some (.int b4), some (.int x4)]) hM rfl rfl rfl rfl ?_
      refine e_iinc (pc2 := 86) (v := nI 1) (L2 := [some (.ref 40), some (.int b1), some (.int b4), some (.int x4), some (.int (b4 + (nI 1))), some (.int x4)]) hM rfl rfl rfl rfl rfl ?_
      refine e_goto (tgt := 45) hM rfl rfl ?_
      exact rfl
    · refine e_goto (tgt := 83) hM rfl rfl ?_
      refine e_iinc (pc2 := 86) (v := nI 1) (L2 := [some (.ref 40), some (.int b1), some (.int b2), some (.int b3), some (.int (b4 + (nI 1))), some (.int x4)]) hM rfl rfl rfl rfl rfl ?_
      refine e_goto (tgt := 45) hM rfl rfl ?_
      exact rfl
theorem qX8_best_98 {sl : Nat} {xs : Nat → Int32} {d : Nat} {b3 b4 : Int32} {o1 o2 o5 : Option Value} {h : pmH} : pm_Ev sl xs (d + 1) 137 98 [some (.ref 40), o1, o2, some (.int b3), some (.int b4), o5] [] (SH, h) = if (h 39 1) ≤ b4 then (some (some (.int b3), (SH, h))) else (pm_ix none b4 24 fun j1 => pm_ix none b4 24 fun j2 => pm_Ev sl xs (d + 1) 137 98 [some (.ref 40), o1, o2, some (.int b3), some (.int (b4 + (nI 1))), o5] [] (SH, (pm_up h 59 j2 (h 68 j1)))) := by
  have hM : pm_mt 137 = some mt_137 := rfl
  refine e_iload (pc2 := 100) hM rfl rfl rfl ?_
  refine e_aload_n (pc2 := 101) hM rfl rfl rfl ?_
  refine e_getfi (pc2 := 104) (k := 39) (v := (h 39 1)) hM rfl rfl rfl rfl rfl rfl ?_
  refine e_icmp_ge (pc2 := 107) (tgt := 127) hM rfl rfl rfl ?_ ?_
  · refine e_iload_n (pc2 := 128) hM rfl rfl rfl ?_
    exact e_iret hM rfl rfl
  · refine e_aload_n (pc2 := 108) hM rfl rfl rfl ?_
    refine e_getfr (pc2 := 111) (k := 39) (b := 60) hM rfl rfl rfl rfl rfl ?_
    refine e_iload (pc2 := 113) hM rfl rfl rfl ?_
    refine e_aload_n (pc2 := 114) hM rfl rfl rfl ?_
    refine e_getfr (pc2 := 117) (k := 39) (b := 69) hM rfl rfl rfl rfl rfl ?_
    refine e_iload (pc2 := 119) hM rfl rfl rfl ?_
    refine e_iald (pc2 := 120) (k := 68) (V := fun j1 => (h 68 j1)) hM rfl rfl rfl (fun _ => rfl) (fun j1 => ?_)
    refine e_iast (pc2 := 121) (k := 59) hM rfl rfl rfl (fun j2 => ?_)
    refine e_iinc (pc2 := 124) (v := nI 1) (L2 := [some (.ref 40), o1, o2, some (.int b3), some (.int (b4 + (nI 1))), o5]) hM rfl rfl rfl rfl rfl ?_
    refine e_goto (tgt := 98) hM rfl rfl ?_
    exact rfl
theorem qX8_front_0 {sl : Nat} {xs : Nat → Int32} {d : Nat} {a0 a1 : Int32} {h : pmH} : pm_cf (pm_Ev sl xs) (d + 2) 138 [.ref 40, .int a0, .int a1] (SH, h) = pm_ri (pm_cf (pm_Ev sl xs) (d + 1) 95 [.int a0, .int (nI 0), .int (nI 7)] (SH, h)) SH fun x2 h1 => if x2 = 0 then (pm_ri (pm_cf (pm_Ev sl xs) (d + 1) 96 [.ref 40, .int (nI 1)] (SH, h1)) SH fun x4 h3 => some (some (.int x4), (SH, h3))) else (pm_ri (pm_cf (pm_Ev sl xs) (d + 1) 95 [.int a1, .int (nI 0), .int (nI 1000)] (SH, h1)) SH fun x6 h5 => if x6 = 0 then (pm_ri (pm_cf (pm_Ev sl xs) (d + 1) 96 [.ref 40, .int (nI 1)] (SH, h5)) SH fun x10 h9 => some (some (.int x10), (SH, h9))) else (pm_ix none a0 8 fun j7 => pm_ix none a0 8 fun j8 => some (some (.int (h5 56 j7)), (SH, (pm_up h5 56 j8 a1))))) := by
  have hM : pm_mt 138 = some mt_138 := rfl
  refine e_call (L := [some (.ref 40), some (.int a0), some (.int a1), none]) hM rfl rfl ?_
  refine e_iload_n (pc2 := 1) hM rfl rfl rfl ?_
  refine e_iconst (pc2 := 2) (v := nI 0) hM rfl rfl rfl ?_
  refine e_bipush (pc2 := 4) (v := nI 7) hM rfl rfl rfl rfl ?_
  refine e_csi (pc2 := 7) (As := [.int a0, .int (nI 0), .int (nI 7)]) (rest := []) hM rfl rfl rfl rfl rfl rfl rfl (fun x2 h1 => ?_)
  refine e_if_eq (pc2 := 10) (tgt := 21) hM rfl rfl rfl ?_ ?_
  · refine e_aload_n (pc2 := 22) hM rfl rfl rfl ?_
    refine e_iconst (pc2 := 23) (v := nI 1) hM rfl rfl rfl ?_
    refine e_cvi (pc2 := 26) (k := 39) (As := [.ref 40, .int (nI 1)]) (rest := []) hM rfl rfl rfl rfl rfl rfl rfl (fun x4 h3 => ?_)
    exact e_iret hM rfl rfl
  · refine e_iload_n (pc2 := 11) hM rfl rfl rfl ?_
    refine e_iconst (pc2 := 12) (v := nI 0) hM rfl rfl rfl ?_
    refine e_sipush (pc2 := 15) (v := nI 1000) hM rfl rfl rfl rfl ?_
    refine e_csi (pc2 := 18) (As := [.int a1, .int (nI 0), .int (nI 1000)]) (rest := []) hM rfl rfl rfl rfl rfl rfl rfl (fun x6 h5 => ?_)
    refine e_if_ne (pc2 := 21) (tgt := 27) hM rfl rfl rfl ?_ ?_
    · refine e_aload_n (pc2 := 28) hM rfl rfl rfl ?_
      refine e_getfr (pc2 := 31) (k := 39) (b := 57) hM rfl rfl rfl rfl rfl ?_
      refine e_iload_n (pc2 := 32) hM rfl rfl rfl ?_
      refine e_iald (pc2 := 33) (k := 56) (V := fun j7 => (h5 56 j7)) hM rfl rfl rfl (fun _ => rfl) (fun j7 => ?_)
      refine e_istore_n (pc2 := 34) (L2 := [some (.ref 40), some (.int a0), some (.int a1), some (.int (h5 56 j7))]) hM rfl rfl rfl rfl ?_
      refine e_aload_n (pc2 := 35) hM rfl rfl rfl ?_
      refine e_getfr (pc2 := 38) (k := 39) (b := 57) hM rfl rfl rfl rfl rfl ?_
      refine e_iload_n (pc2 := 39) hM rfl rfl rfl ?_
      refine e_iload_n (pc2 := 40) hM rfl rfl rfl ?_
      refine e_iast (pc2 := 41) (k := 56) hM rfl rfl rfl (fun j8 => ?_)
      refine e_iload_n (pc2 := 42) hM rfl rfl rfl ?_
      exact e_iret hM rfl rfl
    · refine e_aload_n (pc2 := 22) hM rfl rfl rfl ?_
      refine e_iconst (pc2 := 23) (v := nI 1) hM rfl rfl rfl ?_
      refine e_cvi (pc2 := 26) (k := 39) (As := [.ref 40, .int (nI 1)]) (rest := []) hM rfl rfl rfl rfl rfl rfl rfl (fun x10 h9 => ?_)
      exact e_iret hM rfl rfl
theorem qX8_part_0 {sl : Nat} {xs : Nat → Int32} {d : Nat} {a0 : Int32} {h : pmH} : pm_cf (pm_Ev sl xs) (d + 2) 139 [.ref 40, .int a0] (SH, h) = pm_ri (pm_cf (pm_Ev sl xs) (d + 1) 95 [.int a0, .int (nI 0), .int (nI 100)] (SH, h)) SH fun x2 h1 => if x2 = 0 then (pm_ri (pm_cf (pm_Ev sl xs) (d + 1) 96 [.ref 40, .int (nI 1)] (SH, h1)) SH fun x4 h3 => some (some (.int x4), (SH, h3))) else (some (some (.int (h1 39 5)), (SH, (pm_up h1 39 5 a0)))) := by
  have hM : pm_mt 139 = some mt_139 := rfl
  refine e_call (L := [some (.ref 40), some (.int a0), none]) hM rfl rfl ?_
  refine e_iload_n (pc2 := 1) hM rfl rfl rfl ?_
  refine e_iconst (pc2 := 2) (v := nI 0) hM rfl rfl rfl ?_
  refine e_bipush (pc2 := 4) (v := nI 100) hM rfl rfl rfl rfl ?_
  refine e_csi (pc2 := 7) (As := [.int a0, .int (nI 0), .int (nI 100)]) (rest := []) hM rfl rfl rfl rfl rfl rfl rfl (fun x2 h1 => ?_)
  refine e_if_ne (pc2 := 10) (tgt := 16) hM rfl rfl rfl ?_ ?_
  · refine e_aload_n (pc2 := 17) hM rfl rfl rfl ?_
    refine e_getfi (pc2 := 20) (k := 39) (v := (h1 39 5)) hM rfl rfl rfl rfl rfl rfl ?_
    refine e_istore_n (pc2 := 21) (L2 := [some (.ref 40), some (.int a0), some (.int (h1 39 5))]) hM rfl rfl rfl rfl ?_
    refine e_aload_n (pc2 := 22) hM rfl rfl rfl ?_
    refine e_iload_n (pc2 := 23) hM rfl rfl rfl ?_
    refine e_putf (pc2 := 26) (k := 39) hM rfl rfl rfl rfl rfl rfl ?_
    refine e_iload_n (pc2 := 27) hM rfl rfl rfl ?_
    exact e_iret hM rfl rfl
  · refine e_aload_n (pc2 := 11) hM rfl rfl rfl ?_
    refine e_iconst (pc2 := 12) (v := nI 1) hM rfl rfl rfl ?_
    refine e_cvi (pc2 := 15) (k := 39) (As := [.ref 40, .int (nI 1)]) (rest := []) hM rfl rfl rfl rfl rfl rfl rfl (fun x4 h3 => ?_)
    exact e_iret hM rfl rfl
theorem qX8_share_0 {sl : Nat} {xs : Nat → Int32} {d : Nat} {a0 a1 : Int32} {h : pmH} : pm_cf (pm_Ev sl xs) (d + 2) 140 [.ref 40, .int a0, .int a1] (SH, h) = pm_ri (pm_cf (pm_Ev sl xs) (d + 1) 95 [.int a0, .int (-nI 1), .int (nI 7)] (SH, h)) SH fun x2 h1 => if x2 = 0 then (pm_ri (pm_cf (pm_Ev sl xs) (d + 1) 96 [.ref 40, .int (nI 1)] (SH, h1)) SH fun x4 h3 => some (some (.int x4), (SH, h3))) else (pm_ri (pm_cf (pm_Ev sl xs) (d + 1) 95 [.int a1, .int (nI 0), .int 1000000] (SH, h1)) SH fun x6 h5 => if x6 = 0 then (pm_ri (pm_cf (pm_Ev sl xs) (d + 1) 96 [.ref 40, .int (nI 1)] (SH, h5)) SH fun x8 h7 => some (some (.int x8), (SH, h7))) else (pm_Ev sl xs (d + 1) 140 31 [some (.ref 40), some (.int a0), some (.int a1), some (.int (nI 0)), some (.int (nI 0)), none, none, none, none, none, none, none, none] [] (SH, h5))) := by
  have hM : pm_mt 140 = some mt_140 := rfl
  refine e_call (L := [some (.ref 40), some (.int a0), some (.int a1), none, none, none, none, none, none, none, none, none, none]) hM rfl rfl ?_
  refine e_iload_n (pc2 := 1) hM rfl rfl rfl ?_
  refine e_iconst (pc2 := 2) (v := -nI 1) hM rfl rfl rfl ?_
  refine e_bipush (pc2 := 4) (v := nI 7) hM rfl rfl rfl rfl ?_
  refine e_csi (pc2 := 7) (As := [.int a0, .int (-nI 1), .int (nI 7)]) (rest := []) hM rfl rfl rfl rfl rfl rfl rfl (fun x2 h1 => ?_)
  refine e_if_eq (pc2 := 10) (tgt := 20) hM rfl rfl rfl ?_ ?_
  · refine e_aload_n (pc2 := 21) hM rfl rfl rfl ?_
    refine e_iconst (pc2 := 22) (v := nI 1) hM rfl rfl rfl ?_
    refine e_cvi (pc2 := 25) (k := 39) (As := [.ref 40, .int (nI 1)]) (rest := []) hM rfl rfl rfl rfl rfl rfl rfl (fun x4 h3 => ?_)
    exact e_iret hM rfl rfl
  · refine e_iload_n (pc2 := 11) hM rfl rfl rfl ?_
    refine e_iconst (pc2 := 12) (v := nI 0) hM rfl rfl rfl ?_
    refine e_ldc (pc2 := 14) (v := 1000000) hM rfl rfl rfl ?_
    refine e_csi (pc2 := 17) (As := [.int a1, .int (nI 0), .int 1000000]) (rest := []) hM rfl rfl rfl rfl rfl rfl rfl (fun x6 h5 => ?_)
    refine e_if_ne (pc2 := 20) (tgt := 26) hM rfl rfl rfl ?_ ?_
    · refine e_iconst (pc2 := 27) (v := nI 0) hM rfl rfl rfl ?_
      refine e_istore_n (pc2 := 28) (L2 := [some (.ref 40), some (.int a0), some (.int a1), some (.int (nI 0)), none, none, none, none, none, none, none, none, none]) hM rfl rfl rfl rfl ?_
      refine e_iconst (pc2 := 29) (v := nI 0) hM rfl rfl rfl ?_
      refine e_istore (pc2 := 31) (L2 := [some (.ref 40), some (.int a0), some (.int a1), some (.int (nI 0)), some (.int (nI 0)), none, none, none, none, none, none, none, none]) hM rfl rfl rfl rfl ?_
      exact rfl
    · refine e_aload_n (pc2 := 21) hM rfl rfl rfl ?_
      refine e_iconst (pc2 := 22) (v := nI 1) hM rfl rfl rfl ?_
      refine e_cvi (pc2 := 25) (k := 39) (As := [.ref 40, .int (nI 1)]) (rest := []) hM rfl rfl rfl rfl rfl rfl rfl (fun x8 h7 => ?_)
      exact e_iret hM rfl rfl
theorem qX8_share_31 {sl : Nat} {xs : Nat → Int32} {d : Nat} {b1 b2 b3 b4 : Int32} {o5 o6 o7 o8 o9 o10 o11 o12 : Option Value} {h : pmH} : pm_Ev sl xs (d + 1) 140 31 [some (.ref 40), some (.int b1), some (.int b2), some (.int b3), some (.int b4), o5, o6, o7, o8, o9, o10, o11, o12] [] (SH, h) = if (nI 8) ≤ b4 then (if b3 = 0 then (if 0 ≤ b1 then (some (some (.int (nI 0)), (SH, h))) else (some (some (.int b2), (SH, h)))) else (if nI 100 = 0 then none else (if 0 ≤ b1 then (pm_ix none b1 8 fun j1 => if b3.toInt64 = 0 then none else (pm_Ev sl xs (d + 1) 140 118 [some (.ref 40), some (.int b1), some (.int b2), some (.int b3), some (.int ((b2 * (h 39 5)) / (nI 100))), some (.int (b2 - ((b2 * (h 39 5)) / (nI 100)))), some (.int (b2 - ((b2 * (h 39 5)) / (nI 100)))), some (.int (nI 0)), some (.long ((((b2 - ((b2 * (h 39 5)) / (nI 100))).toInt64) * ((h 56 j1).toInt64)) - (((b2 - ((b2 * (h 39 5)) / (nI 100))).toInt64) * ((h 56 j1).toInt64)) / (b3.toInt64) * (b3.toInt64))), none, some (.int (nI 0)), o11, o12] [] (SH, h))) else (some (some (.int ((b2 * (h 39 5)) / (nI 100))), (SH, h)))))) else (pm_ix none b4 8 fun j2 => pm_Ev sl xs (d + 1) 140 31 [some (.ref 40), some (.int b1), some (.int b2), some (.int (b3 + (h 56 j2))), some (.int (b4 + (nI 1))), o5, o6, o7, o8, o9, o10, o11, o12] [] (SH, h)) := by
  have hM : pm_mt 140 = some mt_140 := rfl
  refine e_iload (pc2 := 33) hM rfl rfl rfl ?_
  refine e_bipush (pc2 := 35) (v := nI 8) hM rfl rfl rfl rfl ?_
  refine e_icmp_ge (pc2 := 38) (tgt := 54) hM rfl rfl rfl ?_ ?_
  · refine e_iload_n (pc2 := 55) hM rfl rfl rfl ?_
    refine e_if_ne (pc2 := 58) (tgt := 68) hM rfl rfl rfl ?_ ?_
    · refine e_iload_n (pc2 := 69) hM rfl rfl rfl ?_
      refine e_aload_n (pc2 := 70) hM rfl rfl rfl ?_
      refine e_getfi (pc2 := 73) (k := 39) (v := (h 39 5)) hM rfl rfl rfl rfl rfl rfl ?_
      refine e_imul (pc2 := 74) hM rfl rfl ?_
      refine e_bipush (pc2 := 76) (v := nI 100) hM rfl rfl rfl rfl ?_
      refine e_idiv (pc2 := 77) hM rfl rfl ?_
      refine e_istore (pc2 := 79) (L2 := [some (.ref 40), some (.int b1), some (.int b2), some (.int b3), some (.int ((b2 * (h 39 5)) / (nI 100))), o5, o6, o7, o8, o9, o10, o11, o12]) hM rfl rfl rfl rfl ?_
      refine e_iload_n (pc2 := 80) hM rfl rfl rfl ?_
      refine e_if_ge (pc2 := 83) (tgt := 86) hM rfl rfl rfl ?_ ?_
      · refine e_iload_n (pc2 := 87) hM rfl rfl rfl ?_
        refine e_iload (pc2 := 89) hM rfl rfl rfl ?_
        refine e_isub (pc2 := 90) hM rfl rfl ?_
        refine e_istore (pc2 := 92) (L2 := [some (.ref 40), some (.int b1), some (.int b2), some (.int b3), some (.int ((b2 * (h 39 5)) / (nI 100))), some (.int (b2 - ((b2 * (h 39 5)) / (nI 100)))), o6, o7, o8, o9, o10, o11, o12]) hM rfl rfl rfl rfl ?_
        refine e_iload (pc2 := 94) hM rfl rfl rfl ?_
        refine e_istore (pc2 := 96) (L2 := [some (.ref 40), some (.int b1), some (.int b2), some (.int b3), some (.int ((b2 * (h 39 5)) / (nI 100))), some (.int (b2 - ((b2 * (h 39 5)) / (nI 100)))), some (.int (b2 - ((b2 * (h 39 5)) / (nI 100)))), o7, o8, o9, o10, o11, o12]) hM rfl rfl rfl rfl ?_
        refine e_iconst (pc2 := 97) (v := nI 0) hM rfl rfl rfl ?_
        refine e_istore (pc2 := 99) (L2 := [some (.ref 40), some (.int b1), some (.int b2), some (.int b3), some (.int ((b2 * (h 39 5)) / (nI 100))), some (.int (b2 - ((b2 * (h 39 5)) / (nI 100)))), some (.int (b2 - ((b2 * (h 39 5)) / (nI 100)))), some (.int (nI 0)), o8, o9, o10, o11, o12]) hM rfl rfl rfl rfl ?_
        refine e_iload (pc2 := 101) hM rfl rfl rfl ?_
        refine e_i2l (pc2 := 102) hM rfl rfl ?_
        refine e_aload_n (pc2 := 103) hM rfl rfl rfl ?_
        refine e_getfr (pc2 := 106) (k := 39) (b := 57) hM rfl rfl rfl rfl rfl ?_
        refine e_iload_n (pc2 := 107) hM rfl rfl rfl ?_
        refine e_iald (pc2 := 108) (k := 56) (V := fun j1 => (h 56 j1)) hM rfl rfl rfl (fun _ => rfl) (fun j1 => ?_)
        refine e_i2l (pc2 := 109) hM rfl rfl ?_
        refine e_lmul (pc2 := 110) hM rfl rfl ?_
        refine e_iload_n (pc2 := 111) hM rfl rfl rfl ?_
        refine e_i2l (pc2 := 112) hM rfl rfl ?_
        refine e_lrem (pc2 := 113) hM rfl rfl ?_
        refine e_lstore (pc2 := 115) (L2 := [some (.ref 40), some (.int b1), some (.int b2), some (.int b3), some (.int ((b2 * (h 39 5)) / (nI 100))), some (.int (b2 - ((b2 * (h 39 5)) / (nI 100)))), some (.int (b2 - ((b2 * (h 39 5)) / (nI 100)))), some (.int (nI 0)), some (.long ((((b2 - ((b2 * (h 39 5)) / (nI 100))).toInt64) * ((h 56 j1).toInt64)) - (((b2 - ((b2 * (h 39 5)) / (nI 100))).toInt64) * ((h 56 j1).toInt64)) / (b3.toInt64) * (b3.toInt64))), none, o10, o11, o12]) hM rfl rfl rfl rfl ?_
        refine e_iconst (pc2 := 116) (v := nI 0) hM rfl rfl rfl ?_
        refine e_istore (pc2 := 118) (L2 := [some (.ref 40), some (.int b1), some (.int b2), some (.int b3), some (.int ((b2 * (h 39 5)) / (nI 100))), some (.int (b2 - ((b2 * (h 39 5)) / (nI 100)))), some (.int (b2 - ((b2 * (h 39 5)) / (nI 100)))), some (.int (nI 0)), some (.long ((((b2 - ((b2 * (h 39 5)) / (nI 100))).toInt64) * ((h 56 j1).toInt64)) - (((b2 - ((b2 * (h 39 5)) / (nI 100))).toInt64) * ((h 56 j1).toInt64)) / (b3.toInt64) * (b3.toInt64))), none, some (.int (nI 0)), o11, o12]) hM rfl rfl rfl rfl ?_
        exact rfl
      · refine e_iload (pc2 := 85) hM rfl rfl rfl ?_
        exact e_iret hM rfl rfl
    · refine e_iload_n (pc2 := 59) hM rfl rfl rfl ?_
      refine e_if_ge (pc2 := 62) (tgt := 66) hM rfl rfl rfl ?_ ?_
      · refine e_iconst (pc2 := 67) (v := nI 0) hM rfl rfl rfl ?_
        exact e_iret hM rfl rfl
      · refine e_iload_n (pc2 := 63) hM rfl rfl rfl ?_
        refine e_goto (tgt := 67) hM rfl rfl ?_
        exact e_iret hM rfl rfl
  · refine e_iload_n (pc2 := 39) hM rfl rfl rfl ?_
    refine e_aload_n (pc2 := 40) hM rfl rfl rfl ?_
    refine e_getfr (pc2 := 43) (k := 39) (b := 57) hM rfl rfl rfl rfl rfl ?_
    refine e_iload (pc2 := 45) hM rfl rfl rfl ?_
    refine e_iald (pc2 := 46) (k := 56) (V := fun j2 => (h 56 j2)) hM rfl rfl rfl (fun _ => rfl) (fun j2 => ?_)
    refine e_iadd (pc2 := 47) hM rfl rfl ?_
    refine e_istore_n (pc2 := 48) (L2 := [some (.ref 40), some (.int b1), some (.int b2), some (.int (b3 + (h 56 j2))), some (.int b4), o5, o6, o7, o8, o9, o10, o11, o12]) hM rfl rfl rfl rfl ?_
    refine e_iinc (pc2 := 51) (v := nI 1) (L2 := [some (.ref 40), some (.int b1), some (.int b2), some (.int (b3 + (h 56 j2))), some (.int (b4 + (nI 1))), o5, o6, o7, o8, o9, o10, o11, o12]) hM rfl rfl rfl rfl rfl ?_
    refine e_goto (tgt := 31) hM rfl rfl ?_
    exact rfl
theorem qX8_share_118 {sl : Nat} {xs : Nat → Int32} {d : Nat} {b1 b2 b3 b4 b5 b6 b7 b10 : Int32} {b8 : Int64} {o11 o12 : Option Value} {h : pmH} : pm_Ev sl xs (d + 1) 140 118 [some (.ref 40), some (.int b1), some (.int b2), some (.int b3), some (.int b4), some (.int b5), some (.int b6), some (.int b7), some (.long b8), none, some (.int b10), o11, o12] [] (SH, h) = if (nI 8) ≤ b10 then (pm_ix none b1 8 fun j1 => if b3.toInt64 = 0 then none else (if b6 ≤ b7 then (some (some (.int (((((b5.toInt64) * ((h 56 j1).toInt64)) / (b3.toInt64)).toInt32) + (nI 0))), (SH, h))) else (some (some (.int (((((b5.toInt64) * ((h 56 j1).toInt64)) / (b3.toInt64)).toInt32) + (nI 1))), (SH, h))))) else (pm_ix none b10 8 fun j2 => if b3.toInt64 = 0 then none else (if b3.toInt64 = 0 then none else (if 0 < (lg_cmp (((b5.toInt64) * ((h 56 j2).toInt64)) - ((b5.toInt64) * ((h 56 j2).toInt64)) / (b3.toInt64) * (b3.toInt64)) b8) then (pm_Ev sl xs (d + 1) 140 118 [some (.ref 40), some (.int b1), some (.int b2), some (.int b3), some (.int b4), some (.int b5), some (.int (b6 - ((((b5.toInt64) * ((h 56 j2).toInt64)) / (b3.toInt64)).toInt32))), some (.int (b7 + (nI 1))), some (.long b8), none, some (.int (b10 + (nI 1))), some (.long ((b5.toInt64) * ((h 56 j2).toInt64))), none] [] (SH, h)) else (if b3.toInt64 = 0 then none else (if (lg_cmp (((b5.toInt64) * ((h 56 j2).toInt64)) - ((b5.toInt64) * ((h 56 j2).toInt64)) / (b3.toInt64) * (b3.toInt64)) b8) = 0 then (if b1 ≤ b10 then (pm_Ev sl xs (d + 1) 140 118 [some (.ref 40), some (.int b1), some (.int b2), some (.int b3), some (.int b4), some (.int b5), some (.int (b6 - ((((b5.toInt64) * ((h 56 j2).toInt64)) / (b3.toInt64)).toInt32))), some (.int b7), some (.long b8), none, some (.int (b10 + (nI 1))), some (.long ((b5.toInt64) * ((h 56 j2).toInt64))), none] [] (SH, h)) else (pm_Ev sl xs (d + 1) 140 118 [some (.ref 40), some (.int b1), some (.int b2), some (.int b3), some (.int b4), some (.int b5), some (.int (b6 - ((((b5.toInt64) * ((h 56 j2).toInt64)) / (b3.toInt64)).toInt32))), some (.int (b7 + (nI 1))), some (.long b8), none, some (.int (b10 + (nI 1))), some (.long ((b5.toInt64) * ((h 56 j2).toInt64))), none] [] (SH, h))) else (pm_Ev sl xs (d + 1) 140 118 [some (.ref 40), some (.int b1), some (.int b2), some (.int b3), some (.int b4), some (.int b5), some (.int (b6 - ((((b5.toInt64) * ((h 56 j2).toInt64)) / (b3.toInt64)).toInt32))), some (.int b7), some (.long b8), none, some (.int (b10 + (nI 1))), some (.long ((b5.toInt64) * ((h 56 j2).toInt64))), none] [] (SH, h))))))) := by
  have hM : pm_mt 140 = some mt_140 := rfl
  refine e_iload (pc2 := 120) hM rfl rfl rfl ?_
  refine e_bipush (pc2 := 122) (v := nI 8) hM rfl rfl rfl rfl ?_
  refine e_icmp_ge (pc2 := 125) (tgt := 187) hM rfl rfl rfl ?_ ?_
  · refine e_iload (pc2 := 189) hM rfl rfl rfl ?_
    refine e_i2l (pc2 := 190) hM rfl rfl ?_
    refine e_aload_n (pc2 := 191) hM rfl rfl rfl ?_
    refine e_getfr (pc2 := 194) (k := 39) (b := 57) hM rfl rfl rfl rfl rfl ?_
    refine e_iload_n (pc2 := 195) hM rfl rfl rfl ?_
    refine e_iald (pc2 := 196) (k := 56) (V := fun j1 => (h 56 j1)) hM rfl rfl rfl (fun _ => rfl) (fun j1 => ?_)
    refine e_i2l (pc2 := 197) hM rfl rfl ?_
    refine e_lmul (pc2 := 198) hM rfl rfl ?_
    refine e_iload_n (pc2 := 199) hM rfl rfl rfl ?_
    refine e_i2l (pc2 := 200) hM rfl rfl ?_
    refine e_ldiv (pc2 := 201) hM rfl rfl ?_
    refine e_l2i (pc2 := 202) hM rfl rfl ?_
    refine e_iload (pc2 := 204) hM rfl rfl rfl ?_
    refine e_iload (pc2 := 206) hM rfl rfl rfl ?_
    refine e_icmp_ge (pc2 := 209) (tgt := 213) hM rfl rfl rfl ?_ ?_
    · refine e_iconst (pc2 := 214) (v := nI 0) hM rfl rfl rfl ?_
      refine e_iadd (pc2 := 215) hM rfl rfl ?_
      exact e_iret hM rfl rfl
    · refine e_iconst (pc2 := 210) (v := nI 1) hM rfl rfl rfl ?_
      refine e_goto (tgt := 214) hM rfl rfl ?_
      refine e_iadd (pc2 := 215) hM rfl rfl ?_
      exact e_iret hM rfl rfl
  · refine e_iload (pc2 := 127) hM rfl rfl rfl ?_
    refine e_i2l (pc2 := 128) hM rfl rfl ?_
    refine e_aload_n (pc2 := 129) hM rfl rfl rfl ?_
    refine e_getfr (pc2 := 132) (k := 39) (b := 57) hM rfl rfl rfl rfl rfl ?_
    refine e_iload (pc2 := 134) hM rfl rfl rfl ?_
    refine e_iald (pc2 := 135) (k := 56) (V := fun j2 => (h 56 j2)) hM rfl rfl rfl (fun _ => rfl) (fun j2 => ?_)
    refine e_i2l (pc2 := 136) hM rfl rfl ?_
    refine e_lmul (pc2 := 137) hM rfl rfl ?_
    refine e_lstore (pc2 := 139) (L2 := [some (.ref 40), some (.int b1), some (.int b2), some (.int b3), some (.int b4), some (.int b5), some (.int b6), some (.int b7), some (.long b8), none, some (.int b10), some (.long ((b5.toInt64) * ((h 56 j2).toInt64))), none]) hM rfl rfl rfl rfl ?_
    refine e_iload (pc2 := 141) hM rfl rfl rfl ?_
    refine e_lload (pc2 := 143) hM rfl rfl rfl ?_
    refine e_iload_n (pc2 := 144) hM rfl rfl rfl ?_
    refine e_i2l (pc2 := 145) hM rfl rfl ?_
    refine e_ldiv (pc2 := 146) hM rfl rfl ?_
    refine e_l2i (pc2 := 147) hM rfl rfl ?_
    refine e_isub (pc2 := 148) hM rfl rfl ?_
    refine e_istore (pc2 := 150) (L2 := [some (.ref 40), some (.int b1), some (.int b2), some (.int b3), some (.int b4), some (.int b5), some (.int (b6 - ((((b5.toInt64) * ((h 56 j2).toInt64)) / (b3.toInt64)).toInt32))), some (.int b7), some (.long b8), none, some (.int b10), some (.long ((b5.toInt64) * ((h 56 j2).toInt64))), none]) hM rfl rfl rfl rfl ?_
    refine e_lload (pc2 := 152) hM rfl rfl rfl ?_
    refine e_iload_n (pc2 := 153) hM rfl rfl rfl ?_
    refine e_i2l (pc2 := 154) hM rfl rfl ?_
    refine e_lrem (pc2 := 155) hM rfl rfl ?_
    refine e_lload (pc2 := 157) hM rfl rfl rfl ?_
    refine e_lcmp (pc2 := 158) hM rfl rfl ?_
    refine e_if_gt (pc2 := 161) (tgt := 178) hM rfl rfl rfl ?_ ?_
    · refine e_iinc (pc2 := 181) (v := nI 1) (L2 := [some (.ref 40), some (.int b1), some (.int b2), some (.int b3), some (.int b4), some (.int b5), some (.int (b6 - ((((b5.toInt64) * ((h 56 j2).toInt64)) / (b3.toInt64)).toInt32))), some (.int (b7 + (nI 1))), some (.long b8), none, some (.int b10), some (.long ((b5.toInt64) * ((h 56 j2).toInt64))), none]) hM rfl rfl rfl rfl rfl ?_
      refine e_iinc (pc2 := 184) (v := nI 1) (L2 := [some (.ref 40), some (.int b1), some (.int b2), some (.int b3), some (.int b4), some (.int b5), some (.int (b6 - ((((b5.toInt64) * ((h 56 j2).toInt64)) / (b3.toInt64)).toInt32))), some (.int (b7 + (nI 1))), some (.long b8), none, some (.int (b10 + (nI 1))), some (.long ((b5.toInt64) * ((h 56 j2).toInt64))), none]) hM rfl rfl rfl rfl rfl ?_
      refine e_goto (tgt := 118) hM rfl rfl ?_
      exact rfl
    · refine e_lload (pc2 := 163) hM rfl rfl rfl ?_
      refine e_iload_n (pc2 := 164) hM rfl rfl rfl ?_
      refine e_i2l (pc2 := 165) hM rfl rfl ?_
      refine e_lrem (pc2 := 166) hM rfl rfl ?_
      refine e_lload (pc2 := 168) hM rfl rfl rfl ?_
      refine e_lcmp (pc2 := 169) hM rfl rfl ?_
      refine e_if_ne (pc2 := 172) (tgt := 181) hM rfl rfl rfl ?_ ?_
      · refine e_iinc (pc2 := 184) (v := nI 1) (L2 := [some (.ref 40), some (.int b1), some (.int b2), some (.int b3), some (.int b4), some (.int b5), some (.int (b6 - ((((b5.toInt64) * ((h 56 j2).toInt64)) / (b3.toInt64)).toInt32))), some (.int b7), some (.long b8), none, some (.int (b10 + (nI 1))), some (.long ((b5.toInt64) * ((h 56 j2).toInt64))), none]) hM rfl rfl rfl rfl rfl ?_
        refine e_goto (tgt := 118) hM rfl rfl ?_
        exact rfl
      · refine e_iload (pc2 := 174) hM rfl rfl rfl ?_
        refine e_iload_n (pc2 := 175) hM rfl rfl rfl ?_
        refine e_icmp_ge (pc2 := 178) (tgt := 181) hM rfl rfl rfl ?_ ?_
        · refine e_iinc (pc2 := 184) (v := nI 1) (L2 := [some (.ref 40), some (.int b1), some (.int b2), some (.int b3), some (.int b4), some (.int b5), some (.int (b6 - ((((b5.toInt64) * ((h 56 j2).toInt64)) / (b3.toInt64)).toInt32))), some (.int b7), some (.long b8), none, some (.int (b10 + (nI 1))), some (.long ((b5.toInt64) * ((h 56 j2).toInt64))), none]) hM rfl rfl rfl rfl rfl ?_
          refine e_goto (tgt := 118) hM rfl rfl ?_
          exact rfl
        · refine e_iinc (pc2 := 181) (v := nI 1) (L2 := [some (.ref 40), some (.int b1), some (.int b2), some (.int b3), some (.int b4), some (.int b5), some (.int (b6 - ((((b5.toInt64) * ((h 56 j2).toInt64)) / (b3.toInt64)).toInt32))), some (.int (b7 + (nI 1))), some (.long b8), none, some (.int b10), some (.long ((b5.toInt64) * ((h 56 j2).toInt64))), none]) hM rfl rfl rfl rfl rfl ?_
          refine e_iinc (pc2 := 184) (v := nI 1) (L2 := [some (.ref 40), some (.int b1), some (.int b2), some (.int b3), some (.int b4), some (.int b5), some (.int (b6 - ((((b5.toInt64) * ((h 56 j2).toInt64)) / (b3.toInt64)).toInt32))), some (.int (b7 + (nI 1))), some (.long b8), none, some (.int (b10 + (nI 1))), some (.long ((b5.toInt64) * ((h 56 j2).toInt64))), none]) hM rfl rfl rfl rfl rfl ?_
          refine e_goto (tgt := 118) hM rfl rfl ?_
          exact rfl
theorem qX8_isLamp_0 {sl : Nat} {xs : Nat → Int32} {d : Nat} {a0 a1 : Int32} {h : pmH} : pm_cf (pm_Ev sl xs) (d + 2) 141 [.ref 40, .int a0, .int a1] (SH, h) = pm_ri (pm_cf (pm_Ev sl xs) (d + 1) 97 [.ref 40, .int a0] (SH, h)) SH fun x2 h1 => if x2 = 0 then (some (some (.int (nI 0)), (SH, h1))) else (pm_ix none a0 24 fun j3 => pm_ri (pm_cf (pm_Ev sl xs) (d + 1) 95 [.int a1, .int (nI 0), .int ((h1 48 j3) - (nI 1))] (SH, h1)) SH fun x5 h4 => if x5 = 0 then (some (some (.int (nI 0)), (SH, h4))) else (some (some (.int (nI 1)), (SH, h4)))) := by
  have hM : pm_mt 141 = some mt_141 := rfl
  refine e_call (L := [some (.ref 40), some (.int a0), some (.int a1)]) hM rfl rfl ?_
  refine e_aload_n (pc2 := 1) hM rfl rfl rfl ?_
  refine e_iload_n (pc2 := 2) hM rfl rfl rfl ?_
  refine e_cvi (pc2 := 5) (k := 39) (As := [.ref 40, .int a0]) (rest := []) hM rfl rfl rfl rfl rfl rfl rfl (fun x2 h1 => ?_)
  refine e_if_eq (pc2 := 8) (tgt := 28) hM rfl rfl rfl ?_ ?_
  · refine e_iconst (pc2 := 29) (v := nI 0) hM rfl rfl rfl ?_
    exact e_zret hM rfl rfl pm_01a
  · refine e_iload_n (pc2 := 9) hM rfl rfl rfl ?_
    refine e_iconst (pc2 := 10) (v := nI 0) hM rfl rfl rfl ?_
    refine e_aload_n (pc2 := 11) hM rfl rfl rfl ?_
    refine e_getfr (pc2 := 14) (k := 39) (b := 49) hM rfl rfl rfl rfl rfl ?_
    refine e_iload_n (pc2 := 15) hM rfl rfl rfl ?_
    refine e_iald (pc2 := 16) (k := 48) (V := fun j3 => (h1 48 j3)) hM rfl rfl rfl (fun _ => rfl) (fun j3 => ?_)
    refine e_iconst (pc2 := 17) (v := nI 1) hM rfl rfl rfl ?_
    refine e_isub (pc2 := 18) hM rfl rfl ?_
    refine e_csi (pc2 := 21) (As := [.int a1, .int (nI 0), .int ((h1 48 j3) - (nI 1))]) (rest := []) hM rfl rfl rfl rfl rfl rfl rfl (fun x5 h4 => ?_)
    refine e_if_eq (pc2 := 24) (tgt := 28) hM rfl rfl rfl ?_ ?_
    · refine e_iconst (pc2 := 29) (v := nI 0) hM rfl rfl rfl ?_
      exact e_zret hM rfl rfl pm_01a
    · refine e_iconst (pc2 := 25) (v := nI 1) hM rfl rfl rfl ?_
      refine e_goto (tgt := 29) hM rfl rfl ?_
      exact e_zret hM rfl rfl pm_01b
theorem qX8_lamp_0 {sl : Nat} {xs : Nat → Int32} {d : Nat} {a0 a1 : Int32} {h : pmH} : pm_cf (pm_Ev sl xs) (d + 2) 142 [.ref 40, .int a0, .int a1] (SH, h) = pm_ri (pm_cf (pm_Ev sl xs) (d + 1) 141 [.ref 40, .int a0, .int a1] (SH, h)) SH fun x2 h1 => if x2 = 0 then (pm_ri (pm_cf (pm_Ev sl xs) (d + 1) 96 [.ref 40, .int (nI 1)] (SH, h1)) SH fun x4 h3 => some (some (.int x4), (SH, h3))) else (pm_ix none (((nI 60) * a0) + a1) 1440 fun j5 => some (some (.int (h1 54 j5)), (SH, h1))) := by
  have hM : pm_mt 142 = some mt_142 := rfl
  refine e_call (L := [some (.ref 40), some (.int a0), some (.int a1)]) hM rfl rfl ?_
  refine e_aload_n (pc2 := 1) hM rfl rfl rfl ?_
  refine e_iload_n (pc2 := 2) hM rfl rfl rfl ?_
  refine e_iload_n (pc2 := 3) hM rfl rfl rfl ?_
  refine e_cvi (pc2 := 6) (k := 39) (As := [.ref 40, .int a0, .int a1]) (rest := []) hM rfl rfl rfl rfl rfl rfl rfl (fun x2 h1 => ?_)
  refine e_if_eq (pc2 := 9) (tgt := 23) hM rfl rfl rfl ?_ ?_
  · refine e_aload_n (pc2 := 24) hM rfl rfl rfl ?_
    refine e_iconst (pc2 := 25) (v := nI 1) hM rfl rfl rfl ?_
    refine e_cvi (pc2 := 28) (k := 39) (As := [.ref 40, .int (nI 1)]) (rest := []) hM rfl rfl rfl rfl rfl rfl rfl (fun x4 h3 => ?_)
    exact e_iret hM rfl rfl
  · refine e_aload_n (pc2 := 10) hM rfl rfl rfl ?_
    refine e_getfr (pc2 := 13) (k := 39) (b := 55) hM rfl rfl rfl rfl rfl ?_
    refine e_bipush (pc2 := 15) (v := nI 60) hM rfl rfl rfl rfl ?_
    refine e_iload_n (pc2 := 16) hM rfl rfl rfl ?_
    refine e_imul (pc2 := 17) hM rfl rfl ?_
    refine e_iload_n (pc2 := 18) hM rfl rfl rfl ?_
    refine e_iadd (pc2 := 19) hM rfl rfl ?_
    refine e_iald (pc2 := 20) (k := 54) (V := fun j5 => (h1 54 j5)) hM rfl rfl rfl (fun _ => rfl) (fun j5 => ?_)
    refine e_goto (tgt := 28) hM rfl rfl ?_
    exact e_iret hM rfl rfl
theorem qX8_replace_0 {sl : Nat} {xs : Nat → Int32} {d : Nat} {a0 a1 : Int32} {h : pmH} : pm_cf (pm_Ev sl xs) (d + 2) 143 [.ref 40, .int a0, .int a1] (SH, h) = pm_ri (pm_cf (pm_Ev sl xs) (d + 1) 141 [.ref 40, .int a0, .int a1] (SH, h)) SH fun x2 h1 => if x2 = 0 then (pm_ri (pm_cf (pm_Ev sl xs) (d + 1) 96 [.ref 40, .int (nI 1)] (SH, h1)) SH fun x15 h14 => some (some (.int x15), (SH, h14))) else (pm_ri (pm_cf (pm_Ev sl xs) (d + 1) 100 [.ref 40] (SH, h1)) SH fun x4 h3 => if x4 = 0 then (pm_ri (pm_cf (pm_Ev sl xs) (d + 1) 96 [.ref 40, .int (nI 3)] (SH, h3)) SH fun x13 h12 => some (some (.int x13), (SH, h12))) else (pm_ix none (((nI 60) * a0) + a1) 1440 fun j5 => pm_ix none (h3 54 j5) 12 fun j6 => pm_ix none (h3 54 j5) 12 fun j7 => pm_ri (pm_cf (pm_Ev sl xs) (d + 1) 101 [.ref 40] (SH, (pm_up h3 42 j7 ((h3 42 j6) + (nI 1))))) SH fun x9 h8 => pm_ix none (((nI 60) * a0) + a1) 1440 fun j10 => pm_ix none (((nI 60) * a0) + a1) 1440 fun j11 => some (some (.int ((upd (h8 54) j10 x9) j11)), (SH, (pm_up h8 54 j10 x9))))) := by
  have hM : pm_mt 143 = some mt_143 := rfl
  refine e_call (L := [some (.ref 40), some (.int a0), some (.int a1)]) hM rfl rfl ?_
  refine e_aload_n (pc2 := 1) hM rfl rfl rfl ?_
  refine e_iload_n (pc2 := 2) hM rfl rfl rfl ?_
  refine e_iload_n (pc2 := 3) hM rfl rfl rfl ?_
  refine e_cvi (pc2 := 6) (k := 39) (As := [.ref 40, .int a0, .int a1]) (rest := []) hM rfl rfl rfl rfl rfl rfl rfl (fun x2 h1 => ?_)
  refine e_if_ne (pc2 := 9) (tgt := 15) hM rfl rfl rfl ?_ ?_
  · refine e_aload_n (pc2 := 16) hM rfl rfl rfl ?_
    refine e_cvi (pc2 := 19) (k := 39) (As := [.ref 40]) (rest := []) hM rfl rfl rfl rfl rfl rfl rfl (fun x4 h3 => ?_)
    refine e_if_ne (pc2 := 22) (tgt := 28) hM rfl rfl rfl ?_ ?_
    · refine e_aload_n (pc2 := 29) hM rfl rfl rfl ?_
      refine e_getfr (pc2 := 32) (k := 39) (b := 43) hM rfl rfl rfl rfl rfl ?_
      refine e_aload_n (pc2 := 33) hM rfl rfl rfl ?_
      refine e_getfr (pc2 := 36) (k := 39) (b := 55) hM rfl rfl rfl rfl rfl ?_
      refine e_bipush (pc2 := 38) (v := nI 60) hM rfl rfl rfl rfl ?_
      refine e_iload_n (pc2 := 39) hM rfl rfl rfl ?_
      refine e_imul (pc2 := 40) hM rfl rfl ?_
      refine e_iload_n (pc2 := 41) hM rfl rfl rfl ?_
      refine e_iadd (pc2 := 42) hM rfl rfl ?_
      refine e_iald (pc2 := 43) (k := 54) (V := fun j5 => (h3 54 j5)) hM rfl rfl rfl (fun _ => rfl) (fun j5 => ?_)
      refine e_dup2 (pc2 := 44) hM rfl rfl rfl rfl ?_
      refine e_iald (pc2 := 45) (k := 42) (V := fun j6 => (h3 42 j6)) hM rfl rfl rfl (fun _ => rfl) (fun j6 => ?_)
      refine e_iconst (pc2 := 46) (v := nI 1) hM rfl rfl rfl ?_
      refine e_iadd (pc2 := 47) hM rfl rfl ?_
      refine e_iast (pc2 := 48) (k := 42) hM rfl rfl rfl (fun j7 => ?_)
      refine e_aload_n (pc2 := 49) hM rfl rfl rfl ?_
      refine e_getfr (pc2 := 52) (k := 39) (b := 55) hM rfl rfl rfl rfl rfl ?_
      refine e_bipush (pc2 := 54) (v := nI 60) hM rfl rfl rfl rfl ?_
      refine e_iload_n (pc2 := 55) hM rfl rfl rfl ?_
      refine e_imul (pc2 := 56) hM rfl rfl ?_
      refine e_iload_n (pc2 := 57) hM rfl rfl rfl ?_
      refine e_iadd (pc2 := 58) hM rfl rfl ?_
      refine e_aload_n (pc2 := 59) hM rfl rfl rfl ?_
      refine e_cvi (pc2 := 62) (k := 39) (As := [.ref 40]) (rest := [.int (((nI 60) * a0) + a1), .ref 55]) hM rfl rfl rfl rfl rfl rfl rfl (fun x9 h8 => ?_)
      refine e_iast (pc2 := 63) (k := 54) hM rfl rfl rfl (fun j10 => ?_)
      refine e_aload_n (pc2 := 64) hM rfl rfl rfl ?_
      refine e_getfr (pc2 := 67) (k := 39) (b := 55) hM rfl rfl rfl rfl rfl ?_
      refine e_bipush (pc2 := 69) (v := nI 60) hM rfl rfl rfl rfl ?_
      refine e_iload_n (pc2 := 70) hM rfl rfl rfl ?_
      refine e_imul (pc2 := 71) hM rfl rfl ?_
      refine e_iload_n (pc2 := 72) hM rfl rfl rfl ?_
      refine e_iadd (pc2 := 73) hM rfl rfl ?_
      refine e_iald (pc2 := 74) (k := 54) (V := fun j11 => ((upd (h8 54) j10 x9) j11)) hM rfl rfl rfl (fun _ => rfl) (fun j11 => ?_)
      exact e_iret hM rfl rfl
    · refine e_aload_n (pc2 := 23) hM rfl rfl rfl ?_
      refine e_iconst (pc2 := 24) (v := nI 3) hM rfl rfl rfl ?_
      refine e_cvi (pc2 := 27) (k := 39) (As := [.ref 40, .int (nI 3)]) (rest := []) hM rfl rfl rfl rfl rfl rfl rfl (fun x13 h12 => ?_)
      exact e_iret hM rfl rfl
  · refine e_aload_n (pc2 := 10) hM rfl rfl rfl ?_
    refine e_iconst (pc2 := 11) (v := nI 1) hM rfl rfl rfl ?_
    refine e_cvi (pc2 := 14) (k := 39) (As := [.ref 40, .int (nI 1)]) (rest := []) hM rfl rfl rfl rfl rfl rfl rfl (fun x15 h14 => ?_)
    exact e_iret hM rfl rfl
theorem qX8_box_0 {sl : Nat} {xs : Nat → Int32} {d : Nat} {a0 a1 : Int32} {h : pmH} : pm_cf (pm_Ev sl xs) (d + 2) 144 [.ref 40, .int a0, .int a1] (SH, h) = pm_ri (pm_cf (pm_Ev sl xs) (d + 1) 95 [.int a0, .int (nI 0), .int ((h 39 0) - (nI 1))] (SH, h)) SH fun x2 h1 => if x2 = 0 then (pm_ri (pm_cf (pm_Ev sl xs) (d + 1) 96 [.ref 40, .int (nI 1)] (SH, h1)) SH fun x4 h3 => some (some (.int x4), (SH, h3))) else (pm_ri (pm_cf (pm_Ev sl xs) (d + 1) 95 [.int a1, .int (nI 0), .int (nI 3)] (SH, h1)) SH fun x6 h5 => if x6 = 0 then (pm_ri (pm_cf (pm_Ev sl xs) (d + 1) 96 [.ref 40, .int (nI 1)] (SH, h5)) SH fun x11 h10 => some (some (.int x11), (SH, h10))) else (if (nI 3) ≤ a1 then (pm_Ev sl xs (d + 1) 144 73 [some (.ref 40), some (.int a0), some (.int a1), some (.int (nI 0)), some (.int (nI 0)), none] [] (SH, h5)) else (if a1 = 0 then (pm_ix none a0 12 fun j9 => some (some (.int (h5 40 j9)), (SH, h5))) else (if a1 = (nI 1) then (pm_ix none a0 12 fun j8 => some (some (.int (h5 41 j8)), (SH, h5))) else (pm_ix none a0 12 fun j7 => some (some (.int (h5 42 j7)), (SH, h5))))))) := by
  have hM : pm_mt 144 = some mt_144 := rfl
  refine e_call (L := [some (.ref 40), some (.int a0), some (.int a1), none, none, none]) hM rfl rfl ?_
  refine e_iload_n (pc2 := 1) hM rfl rfl rfl ?_
  refine e_iconst (pc2 := 2) (v := nI 0) hM rfl rfl rfl ?_
  refine e_aload_n (pc2 := 3) hM rfl rfl rfl ?_
  refine e_getfi (pc2 := 6) (k := 39) (v := (h 39 0)) hM rfl rfl rfl rfl rfl rfl ?_
  refine e_iconst (pc2 := 7) (v := nI 1) hM rfl rfl rfl ?_
  refine e_isub (pc2 := 8) hM rfl rfl ?_
  refine e_csi (pc2 := 11) (As := [.int a0, .int (nI 0), .int ((h 39 0) - (nI 1))]) (rest := []) hM rfl rfl rfl rfl rfl rfl rfl (fun x2 h1 => ?_)
  refine e_if_eq (pc2 := 14) (tgt := 23) hM rfl rfl rfl ?_ ?_
  · refine e_aload_n (pc2 := 24) hM rfl rfl rfl ?_
    refine e_iconst (pc2 := 25) (v := nI 1) hM rfl rfl rfl ?_
    refine e_cvi (pc2 := 28) (k := 39) (As := [.ref 40, .int (nI 1)]) (rest := []) hM rfl rfl rfl rfl rfl rfl rfl (fun x4 h3 => ?_)
    exact e_iret hM rfl rfl
  · refine e_iload_n (pc2 := 15) hM rfl rfl rfl ?_
    refine e_iconst (pc2 := 16) (v := nI 0) hM rfl rfl rfl ?_
    refine e_iconst (pc2 := 17) (v := nI 3) hM rfl rfl rfl ?_
    refine e_csi (pc2 := 20) (As := [.int a1, .int (nI 0), .int (nI 3)]) (rest := []) hM rfl rfl rfl rfl rfl rfl rfl (fun x6 h5 => ?_)
    refine e_if_ne (pc2 := 23) (tgt := 29) hM rfl rfl rfl ?_ ?_
    · refine e_iload_n (pc2 := 30) hM rfl rfl rfl ?_
      refine e_iconst (pc2 := 31) (v := nI 3) hM rfl rfl rfl ?_
      refine e_icmp_ge (pc2 := 34) (tgt := 68) hM rfl rfl rfl ?_ ?_
      · refine e_iconst (pc2 := 69) (v := nI 0) hM rfl rfl rfl ?_
        refine e_istore_n (pc2 := 70) (L2 := [some (.ref 40), some (.int a0), some (.int a1), some (.int (nI 0)), none, none]) hM rfl rfl rfl rfl ?_
        refine e_iconst (pc2 := 71) (v := nI 0) hM rfl rfl rfl ?_
        refine e_istore (pc2 := 73) (L2 := [some (.ref 40), some (.int a0), some (.int a1), some (.int (nI 0)), some (.int (nI 0)), none]) hM rfl rfl rfl rfl ?_
        exact rfl
      · refine e_iload_n (pc2 := 35) hM rfl rfl rfl ?_
        refine e_if_ne (pc2 := 38) (tgt := 47) hM rfl rfl rfl ?_ ?_
        · refine e_iload_n (pc2 := 48) hM rfl rfl rfl ?_
          refine e_iconst (pc2 := 49) (v := nI 1) hM rfl rfl rfl ?_
          refine e_icmp_ne (pc2 := 52) (tgt := 61) hM rfl rfl rfl ?_ ?_
          · refine e_aload_n (pc2 := 62) hM rfl rfl rfl ?_
            refine e_getfr (pc2 := 65) (k := 39) (b := 43) hM rfl rfl rfl rfl rfl ?_
            refine e_iload_n (pc2 := 66) hM rfl rfl rfl ?_
            refine e_iald (pc2 := 67) (k := 42) (V := fun j7 => (h5 42 j7)) hM rfl rfl rfl (fun _ => rfl) (fun j7 => ?_)
            exact e_iret hM rfl rfl
          · refine e_aload_n (pc2 := 53) hM rfl rfl rfl ?_
            refine e_getfr (pc2 := 56) (k := 39) (b := 42) hM rfl rfl rfl rfl rfl ?_
            refine e_iload_n (pc2 := 57) hM rfl rfl rfl ?_
            refine e_iald (pc2 := 58) (k := 41) (V := fun j8 => (h5 41 j8)) hM rfl rfl rfl (fun _ => rfl) (fun j8 => ?_)
            refine e_goto (tgt := 67) hM rfl rfl ?_
            exact e_iret hM rfl rfl
        · refine e_aload_n (pc2 := 39) hM rfl rfl rfl ?_
          refine e_getfr (pc2 := 42) (k := 39) (b := 41) hM rfl rfl rfl rfl rfl ?_
          refine e_iload_n (pc2 := 43) hM rfl rfl rfl ?_
          refine e_iald (pc2 := 44) (k := 40) (V := fun j9 => (h5 40 j9)) hM rfl rfl rfl (fun _ => rfl) (fun j9 => ?_)
          refine e_goto (tgt := 67) hM rfl rfl ?_
          exact e_iret hM rfl rfl
    · refine e_aload_n (pc2 := 24) hM rfl rfl rfl ?_
      refine e_iconst (pc2 := 25) (v := nI 1) hM rfl rfl rfl ?_
      refine e_cvi (pc2 := 28) (k := 39) (As := [.ref 40, .int (nI 1)]) (rest := []) hM rfl rfl rfl rfl rfl rfl rfl (fun x11 h10 => ?_)
      exact e_iret hM rfl rfl
theorem qX8_box_73 {sl : Nat} {xs : Nat → Int32} {d : Nat} {b1 b3 b4 : Int32} {o2 o5 : Option Value} {h : pmH} : pm_Ev sl xs (d + 1) 144 73 [some (.ref 40), some (.int b1), o2, some (.int b3), some (.int b4), o5] [] (SH, h) = if (h 39 1) ≤ b4 then (some (some (.int b3), (SH, h))) else (pm_Ev sl xs (d + 1) 144 85 [some (.ref 40), some (.int b1), o2, some (.int b3), some (.int b4), some (.int (nI 0))] [] (SH, h)) := by
  have hM : pm_mt 144 = some mt_144 := rfl
  refine e_iload (pc2 := 75) hM rfl rfl rfl ?_
  refine e_aload_n (pc2 := 76) hM rfl rfl rfl ?_
  refine e_getfi (pc2 := 79) (k := 39) (v := (h 39 1)) hM rfl rfl rfl rfl rfl rfl ?_
  refine e_icmp_ge (pc2 := 82) (tgt := 134) hM rfl rfl rfl ?_ ?_
  · refine e_iload_n (pc2 := 135) hM rfl rfl rfl ?_
    exact e_iret hM rfl rfl
  · refine e_iconst (pc2 := 83) (v := nI 0) hM rfl rfl rfl ?_
    refine e_istore (pc2 := 85) (L2 := [some (.ref 40), some (.int b1), o2, some (.int b3), some (.int b4), some (.int (nI 0))]) hM rfl rfl rfl rfl ?_
    exact rfl
theorem qX8_box_85_v0 {sl : Nat} {xs : Nat → Int32} {d : Nat} {b1 b3 b4 b5 : Int32} {h : pmH} : pm_Ev sl xs (d + 1) 144 85 [some (.ref 40), some (.int b1), none, some (.int b3), some (.int b4), some (.int b5)] [] (SH, h) = pm_ix none b4 24 fun j1 => if (h 48 j1) ≤ b5 then (pm_Ev sl xs (d + 1) 144 73 [some (.ref 40), some (.int b1), none, some (.int b3), some (.int (b4 + (nI 1))), some (.int b5)] [] (SH, h)) else (pm_ix none (((nI 60) * b4) + b5) 1440 fun j2 => if (h 54 j2) = b1 then (pm_Ev sl xs (d + 1) 144 85 [some (.ref 40), some (.int b1), none, some (.int (b3 + (nI 1))), some (.int b4), some (.int (b5 + (nI 1)))] [] (SH, h)) else (pm_Ev sl xs (d + 1) 144 85 [some (.ref 40), some (.int b1), none, some (.int (b3 + (nI 0))), some (.int b4), some (.int (b5 + (nI 1)))] [] (SH, h))) := by
  have hM : pm_mt 144 = some mt_144 := rfl
  refine e_iload (pc2 := 87) hM rfl rfl rfl ?_
  refine e_aload_n (pc2 := 88) hM rfl rfl rfl ?_
  refine e_getfr (pc2 := 91) (k := 39) (b := 49) hM rfl rfl rfl rfl rfl ?_
  refine e_iload (pc2 := 93) hM rfl rfl rfl ?_
  refine e_iald (pc2 := 94) (k := 48) (V := fun j1 => (h 48 j1)) hM rfl rfl rfl (fun _ => rfl) (fun j1 => ?_)
  refine e_icmp_ge (pc2 := 97) (tgt := 128) hM rfl rfl rfl ?_ ?_
  · refine e_iinc (pc2 := 131) (v := nI 1) (L2 := [some (.ref 40), some (.int b1), none, some (.int b3), some (.int (b4 + (nI 1))), some (.int b5)]) hM rfl rfl rfl rfl rfl ?_
    refine e_goto (tgt := 73) hM rfl rfl ?_
    exact rfl
  · refine e_iload_n (pc2 := 98) hM rfl rfl rfl ?_
    refine e_aload_n (pc2 := 99) hM rfl rfl rfl ?_
    refine e_getfr (pc2 := 102) (k := 39) (b := 55) hM rfl rfl rfl rfl rfl ?_
    refine e_bipush (pc2 := 104) (v := nI 60) hM rfl rfl rfl rfl ?_
    refine e_iload (pc2 := 106) hM rfl rfl rfl ?_
    refine e_imul (pc2 := 107) hM rfl rfl ?_
    refine e_iload (pc2 := 109) hM rfl rfl rfl ?_
    refine e_iadd (pc2 := 110) hM rfl rfl ?_
    refine e_iald (pc2 := 111) (k := 54) (V := fun j2 => (h 54 j2)) hM rfl rfl rfl (fun _ => rfl) (fun j2 => ?_)
    refine e_iload_n (pc2 := 112) hM rfl rfl rfl ?_
    refine e_icmp_ne (pc2 := 115) (tgt := 119) hM rfl rfl rfl ?_ ?_
    · refine e_iconst (pc2 := 120) (v := nI 0) hM rfl rfl rfl ?_
      refine e_iadd (pc2 := 121) hM rfl rfl ?_
      refine e_istore_n (pc2 := 122) (L2 := [some (.ref 40), some (.int b1), none, some (.int (b3 + (nI 0))), some (.int b4), some (.int b5)]) hM rfl rfl rfl rfl ?_
      refine e_iinc (pc2 := 125) (v := nI 1) (L2 := [some (.ref 40), some (.int b1), none, some (.int (b3 + (nI 0))), some (.int b4), some (.int (b5 + (nI 1)))]) hM rfl rfl rfl rfl rfl ?_
      refine e_goto (tgt := 85) hM rfl rfl ?_
      exact rfl
    · refine e_iconst (pc2 := 116) (v := nI 1) hM rfl rfl rfl ?_
      refine e_goto (tgt := 120) hM rfl rfl ?_
      refine e_iadd (pc2 := 121) hM rfl rfl ?_
      refine e_istore_n (pc2 := 122) (L2 := [some (.ref 40), some (.int b1), none, some (.int (b3 + (nI 1))), some (.int b4), some (.int b5)]) hM rfl rfl rfl rfl ?_
      refine e_iinc (pc2 := 125) (v := nI 1) (L2 := [some (.ref 40), some (.int b1), none, some (.int (b3 + (nI 1))), some (.int b4), some (.int (b5 + (nI 1)))]) hM rfl rfl rfl rfl rfl ?_
      refine e_goto (tgt := 85) hM rfl rfl ?_
      exact rfl
theorem qX8_box_85_v1 {sl : Nat} {xs : Nat → Int32} {d : Nat} {b1 b2 b3 b4 b5 : Int32} {h : pmH} : pm_Ev sl xs (d + 1) 144 85 [some (.ref 40), some (.int b1), some (.int b2), some (.int b3), some (.int b4), some (.int b5)] [] (SH, h) = pm_ix none b4 24 fun j1 => if (h 48 j1) ≤ b5 then (pm_Ev sl xs (d + 1) 144 73 [some (.ref 40), some (.int b1), some (.int b2), some (.int b3), some (.int (b4 + (nI 1))), some (.int b5)] [] (SH, h)) else (pm_ix none (((nI 60) * b4) + b5) 1440 fun j2 => if (h 54 j2) = b1 then (pm_Ev sl xs (d + 1) 144 85 [some (.ref 40), some (.int b1), some (.int b2), some (.int (b3 + (nI 1))), some (.int b4), some (.int (b5 + (nI 1)))] [] (SH, h)) else (pm_Ev sl xs (d + 1) 144 85 [some (.ref 40), some (.int b1), some (.int b2), some (.int (b3 + (nI 0))), some (.int b4), some (.int (b5 + (nI 1)))] [] (SH, h))) := by
  have hM : pm_mt 144 = some mt_144 := rfl
  refine e_iload (pc2 := 87) hM rfl rfl rfl ?_
  refine e_aload_n (pc2 := 88) hM rfl rfl rfl ?_
  refine e_getfr (pc2 := 91) (k := 39) (b := 49) hM rfl rfl rfl rfl rfl ?_
  refine e_iload (pc2 := 93) hM rfl rfl rfl ?_
  refine e_iald (pc2 := 94) (k := 48) (V := fun j1 => (h 48 j1)) hM rfl rfl rfl (fun _ => rfl) (fun j1 => ?_)
  refine e_icmp_ge (pc2 := 97) (tgt := 128) hM rfl rfl rfl ?_ ?_
  · refine e_iinc (pc2 := 131) (v := nI 1) (L2 := [some (.ref 40), some (.int b1), some (.int b2), some (.int b3), some (.int (b4 + (nI 1))), some (.int b5)]) hM rfl rfl rfl rfl rfl ?_
    refine e_goto (tgt := 73) hM rfl rfl ?_
    exact rfl
  · refine e_iload_n (pc2 := 98) hM rfl rfl rfl ?_
    refine e_aload_n (pc2 := 99) hM rfl rfl rfl ?_
    refine e_getfr (pc2 := 102) (k := 39) (b := 55) hM rfl rfl rfl rfl rfl ?_
    refine e_bipush (pc2 := 104) (v := nI 60) hM rfl rfl rfl rfl ?_
    refine e_iload (pc2 := 106) hM rfl rfl rfl ?_
    refine e_imul (pc2 := 107) hM rfl rfl ?_
    refine e_iload (pc2 := 109) hM rfl rfl rfl ?_
    refine e_iadd (pc2 := 110) hM rfl rfl ?_
    refine e_iald (pc2 := 111) (k := 54) (V := fun j2 => (h 54 j2)) hM rfl rfl rfl (fun _ => rfl) (fun j2 => ?_)
    refine e_iload_n (pc2 := 112) hM rfl rfl rfl ?_
    refine e_icmp_ne (pc2 := 115) (tgt := 119) hM rfl rfl rfl ?_ ?_
    · refine e_iconst (pc2 := 120) (v := nI 0) hM rfl rfl rfl ?_
      refine e_iadd (pc2 := 121) hM rfl rfl ?_
      refine e_istore_n (pc2 := 122) (L2 := [some (.ref 40), some (.int b1), some (.int b2), some (.int (b3 + (nI 0))), some (.int b4), some (.int b5)]) hM rfl rfl rfl rfl ?_
      refine e_iinc (pc2 := 125) (v := nI 1) (L2 := [some (.ref 40), some (.int b1), some (.int b2), some (.int (b3 + (nI 0))), some (.int b4), some (.int (b5 + (nI 1)))]) hM rfl rfl rfl rfl rfl ?_
      refine e_goto (tgt := 85) hM rfl rfl ?_
      exact rfl
    · refine e_iconst (pc2 := 116) (v := nI 1) hM rfl rfl rfl ?_
      refine e_goto (tgt := 120) hM rfl rfl ?_
      refine e_iadd (pc2 := 121) hM rfl rfl ?_
      refine e_istore_n (pc2 := 122) (L2 := [some (.ref 40), some (.int b1), some (.int b2), some (.int (b3 + (nI 1))), some (.int b4), some (.int b5)]) hM rfl rfl rfl rfl ?_
      refine e_iinc (pc2 := 125) (v := nI 1) (L2 := [some (.ref 40), some (.int b1), some (.int b2), some (.int (b3 + (nI 1))), some (.int b4), some (.int (b5 + (nI 1)))]) hM rfl rfl rfl rfl rfl ?_
      refine e_goto (tgt := 85) hM rfl rfl ?_
      exact rfl
theorem qX8_tell_0 {sl : Nat} {xs : Nat → Int32} {d : Nat} {a0 : Int32} {h : pmH} : pm_cf (pm_Ev sl xs) (d + 2) 145 [.ref 40, .int a0] (SH, h) = if (h 39 6) = (nI 24) then (pm_ri (pm_cf (pm_Ev sl xs) (d + 1) 96 [.ref 40, .int (nI 4)] (SH, h)) SH fun x3 h2 => some (some (.int x3), (SH, h2))) else (pm_ix none (h 39 6) 24 fun j1 => some (some (.int ((h 39 6) + (nI 1))), (SH, (pm_up (pm_up h 57 j1 a0) 39 6 ((h 39 6) + (nI 1)))))) := by
  have hM : pm_mt 145 = some mt_145 := rfl
  refine e_call (L := [some (.ref 40), some (.int a0)]) hM rfl rfl ?_
  refine e_aload_n (pc2 := 1) hM rfl rfl rfl ?_
  refine e_getfi (pc2 := 4) (k := 39) (v := (h 39 6)) hM rfl rfl rfl rfl rfl rfl ?_
  refine e_bipush (pc2 := 6) (v := nI 24) hM rfl rfl rfl rfl ?_
  refine e_icmp_ne (pc2 := 9) (tgt := 15) hM rfl rfl rfl ?_ ?_
  · refine e_aload_n (pc2 := 16) hM rfl rfl rfl ?_
    refine e_getfr (pc2 := 19) (k := 39) (b := 58) hM rfl rfl rfl rfl rfl ?_
    refine e_aload_n (pc2 := 20) hM rfl rfl rfl ?_
    refine e_getfi (pc2 := 23) (k := 39) (v := (h 39 6)) hM rfl rfl rfl rfl rfl rfl ?_
    refine e_iload_n (pc2 := 24) hM rfl rfl rfl ?_
    refine e_iast (pc2 := 25) (k := 57) hM rfl rfl rfl (fun j1 => ?_)
    refine e_aload_n (pc2 := 26) hM rfl rfl rfl ?_
    refine e_dup (pc2 := 27) hM rfl rfl rfl ?_
    refine e_getfi (pc2 := 30) (k := 39) (v := (h 39 6)) hM rfl rfl rfl rfl rfl rfl ?_
    refine e_iconst (pc2 := 31) (v := nI 1) hM rfl rfl rfl ?_
    refine e_iadd (pc2 := 32) hM rfl rfl ?_
    refine e_putf (pc2 := 35) (k := 39) hM rfl rfl rfl rfl rfl rfl ?_
    refine e_aload_n (pc2 := 36) hM rfl rfl rfl ?_
    refine e_getfi (pc2 := 39) (k := 39) (v := ((h 39 6) + (nI 1))) hM rfl rfl rfl rfl rfl rfl ?_
    exact e_iret hM rfl rfl
  · refine e_aload_n (pc2 := 10) hM rfl rfl rfl ?_
    refine e_iconst (pc2 := 11) (v := nI 4) hM rfl rfl rfl ?_
    refine e_cvi (pc2 := 14) (k := 39) (As := [.ref 40, .int (nI 4)]) (rest := []) hM rfl rfl rfl rfl rfl rfl rfl (fun x3 h2 => ?_)
    exact e_iret hM rfl rfl
theorem qX8_check_0 {sl : Nat} {xs : Nat → Int32} {d : Nat} {h : pmH} : pm_cf (pm_Ev sl xs) (d + 2) 146 [.ref 40] (SH, h) = pm_ri (pm_cf (pm_Ev sl xs) (d + 1) 119 [.ref 40] (SH, (pm_up h 39 6 (nI 0)))) SH fun x2 h1 => if 0 ≤ x2 then (pm_Ev sl xs (d + 1) 146 30 [some (.ref 40), some (.int (h 39 6)), some (.int x2), some (.int (nI 0)), some (.int (nI 0))] [] (SH, h1)) else (pm_ri (pm_cf (pm_Ev sl xs) (d + 1) 96 [.ref 40, .int (nI 2)] (SH, h1)) SH fun x4 h3 => some (some (.int x4), (SH, h3))) := by
  have hM : pm_mt 146 = some mt_146 := rfl
  refine e_call (L := [some (.ref 40), none, none, none, none]) hM rfl rfl ?_
  refine e_aload_n (pc2 := 1) hM rfl rfl rfl ?_
  refine e_getfi (pc2 := 4) (k := 39) (v := (h 39 6)) hM rfl rfl rfl rfl rfl rfl ?_
  refine e_istore_n (pc2 := 5) (L2 := [some (.ref 40), some (.int (h 39 6)), none, none, none]) hM rfl rfl rfl rfl ?_
  refine e_aload_n (pc2 := 6) hM rfl rfl rfl ?_
  refine e_iconst (pc2 := 7) (v := nI 0) hM rfl rfl rfl ?_
  refine e_putf (pc2 := 10) (k := 39) hM rfl rfl rfl rfl rfl rfl ?_
  refine e_aload_n (pc2 := 11) hM rfl rfl rfl ?_
  refine e_cvi (pc2 := 14) (k := 39) (As := [.ref 40]) (rest := []) hM rfl rfl rfl rfl rfl rfl rfl (fun x2 h1 => ?_)
  refine e_istore_n (pc2 := 15) (L2 := [some (.ref 40), some (.int (h 39 6)), some (.int x2), none, none]) hM rfl rfl rfl rfl ?_
  refine e_iload_n (pc2 := 16) hM rfl rfl rfl ?_
  refine e_if_ge (pc2 := 19) (tgt := 25) hM rfl rfl rfl ?_ ?_
  · refine e_iconst (pc2 := 26) (v := nI 0) hM rfl rfl rfl ?_
    refine e_istore_n (pc2 := 27) (L2 := [some (.ref 40), some (.int (h 39 6)), some (.int x2), some (.int (nI 0)), none]) hM rfl rfl rfl rfl ?_
    refine e_iconst (pc2 := 28) (v := nI 0) hM rfl rfl rfl ?_
    refine e_istore (pc2 := 30) (L2 := [some (.ref 40), some (.int (h 39 6)), some (.int x2), some (.int (nI 0)), some (.int (nI 0))]) hM rfl rfl rfl rfl ?_
    exact rfl
  · refine e_aload_n (pc2 := 20) hM rfl rfl rfl ?_
    refine e_iconst (pc2 := 21) (v := nI 2) hM rfl rfl rfl ?_
    refine e_cvi (pc2 := 24) (k := 39) (As := [.ref 40, .int (nI 2)]) (rest := []) hM rfl rfl rfl rfl rfl rfl rfl (fun x4 h3 => ?_)
    exact e_iret hM rfl rfl
theorem qX8_check_30 {sl : Nat} {xs : Nat → Int32} {d : Nat} {b1 b2 b3 b4 : Int32} {h : pmH} : pm_Ev sl xs (d + 1) 146 30 [some (.ref 40), some (.int b1), some (.int b2), some (.int b3), some (.int b4)] [] (SH, h) = if (h 39 1) ≤ b4 then (if b1 ≤ b3 then (some (some (.int (nI 0)), (SH, h))) else (some (some (.int (nI 99)), (SH, h)))) else (pm_ri (pm_cf (pm_Ev sl xs) (d + 1) 98 [.int b2, .int b4] (SH, h)) SH fun x2 h1 => if x2 = 0 then (pm_Ev sl xs (d + 1) 146 30 [some (.ref 40), some (.int b1), some (.int b2), some (.int b3), some (.int (b4 + (nI 1)))] [] (SH, h1)) else (if b1 ≤ b3 then (some (some (.int ((nI 1) + b3)), (SH, h1))) else (pm_ix none b3 24 fun j3 => if (h1 57 j3) = b4 then (pm_Ev sl xs (d + 1) 146 30 [some (.ref 40), some (.int b1), some (.int b2), some (.int (b3 + (nI 1))), some (.int (b4 + (nI 1)))] [] (SH, h1)) else (some (some (.int ((nI 1) + b3)), (SH, h1)))))) := by
  have hM : pm_mt 146 = some mt_146 := rfl
  refine e_iload (pc2 := 32) hM rfl rfl rfl ?_
  refine e_aload_n (pc2 := 33) hM rfl rfl rfl ?_
  refine e_getfi (pc2 := 36) (k := 39) (v := (h 39 1)) hM rfl rfl rfl rfl rfl rfl ?_
  refine e_icmp_ge (pc2 := 39) (tgt := 80) hM rfl rfl rfl ?_ ?_
  · refine e_iload_n (pc2 := 81) hM rfl rfl rfl ?_
    refine e_iload_n (pc2 := 82) hM rfl rfl rfl ?_
    refine e_icmp_le (pc2 := 85) (tgt := 90) hM rfl rfl rfl ?_ ?_
    · refine e_iconst (pc2 := 91) (v := nI 0) hM rfl rfl rfl ?_
      exact e_iret hM rfl rfl
    · refine e_bipush (pc2 := 87) (v := nI 99) hM rfl rfl rfl rfl ?_
      refine e_goto (tgt := 91) hM rfl rfl ?_
      exact e_iret hM rfl rfl
  · refine e_iload_n (pc2 := 40) hM rfl rfl rfl ?_
    refine e_iload (pc2 := 42) hM rfl rfl rfl ?_
    refine e_csi (pc2 := 45) (As := [.int b2, .int b4]) (rest := []) hM rfl rfl rfl rfl rfl rfl rfl (fun x2 h1 => ?_)
    refine e_if_ne (pc2 := 48) (tgt := 51) hM rfl rfl rfl ?_ ?_
    · refine e_iload_n (pc2 := 52) hM rfl rfl rfl ?_
      refine e_iload_n (pc2 := 53) hM rfl rfl rfl ?_
      refine e_icmp_ge (pc2 := 56) (tgt := 67) hM rfl rfl rfl ?_ ?_
      · refine e_iconst (pc2 := 68) (v := nI 1) hM rfl rfl rfl ?_
        refine e_iload_n (pc2 := 69) hM rfl rfl rfl ?_
        refine e_iadd (pc2 := 70) hM rfl rfl ?_
        exact e_iret hM rfl rfl
      · refine e_aload_n (pc2 := 57) hM rfl rfl rfl ?_
        refine e_getfr (pc2 := 60) (k := 39) (b := 58) hM rfl rfl rfl rfl rfl ?_
        refine e_iload_n (pc2 := 61) hM rfl rfl rfl ?_
        refine e_iald (pc2 := 62) (k := 57) (V := fun j3 => (h1 57 j3)) hM rfl rfl rfl (fun _ => rfl) (fun j3 => ?_)
        refine e_iload (pc2 := 64) hM rfl rfl rfl ?_
        refine e_icmp_eq (pc2 := 67) (tgt := 71) hM rfl rfl rfl ?_ ?_
        · refine e_iinc (pc2 := 74) (v := nI 1) (L2 := [some (.ref 40), some (.int b1), some (.int b2), some (.int (b3 + (nI 1))), some (.int b4)]) hM rfl rfl rfl rfl rfl ?_
          refine e_iinc (pc2 := 77) (v := nI 1) (L2 := [some (.ref 40), some (.int b1), some (.int b2), some (.int (b3 + (nI 1))), some (.int (b4 + (nI 1)))]) hM rfl rfl rfl rfl rfl ?_
          refine e_goto (tgt := 30) hM rfl rfl ?_
          exact rfl
        · refine e_iconst (pc2 := 68) (v := nI 1) hM rfl rfl rfl ?_
          refine e_iload_n (pc2 := 69) hM rfl rfl rfl ?_
          refine e_iadd (pc2 := 70) hM rfl rfl ?_
          exact e_iret hM rfl rfl
    · refine e_goto (tgt := 74) hM rfl rfl ?_
      refine e_iinc (pc2 := 77) (v := nI 1) (L2 := [some (.ref 40), some (.int b1), some (.int b2), some (.int b3), some (.int (b4 + (nI 1)))]) hM rfl rfl rfl rfl rfl ?_
      refine e_goto (tgt := 30) hM rfl rfl ?_
      exact rfl
theorem qX8_count_0 {sl : Nat} {xs : Nat → Int32} {d : Nat} {a0 : Int32} {h : pmH} : pm_cf (pm_Ev sl xs) (d + 2) 147 [.ref 40, .int a0] (SH, h) = if a0 = nI 0 then (some (some (.int (h 39 1)), (SH, h))) else (if a0 = nI 1 then (some (some (.int (h 39 0)), (SH, h))) else (if a0 = nI 2 then (pm_Ev sl xs (d + 1) 147 52 [some (.ref 40), some (.int a0), some (.int (nI 0)), some (.int (nI 0))] [] (SH, h)) else (if a0 = nI 3 then (pm_Ev sl xs (d + 1) 147 87 [some (.ref 40), some (.int a0), some (.int (nI 0)), some (.int (nI 0))] [] (SH, h)) else (if a0 = nI 4 then (some (some (.int (h 39 6)), (SH, h))) else (if a0 = nI 5 then (pm_ri (pm_cf (pm_Ev sl xs) (d + 1) 100 [.ref 40] (SH, h)) SH fun x4 h3 => some (some (.int x4), (SH, h3))) else (pm_ri (pm_cf (pm_Ev sl xs) (d + 1) 96 [.ref 40, .int (nI 1)] (SH, h)) SH fun x2 h1 => some (some (.int x2), (SH, h1)))))))) := by
  have hM : pm_mt 147 = some mt_147 := rfl
  refine e_call (L := [some (.ref 40), some (.int a0), none, none]) hM rfl rfl ?_
  refine e_iconst (pc2 := 1) (v := nI 0) hM rfl rfl rfl ?_
  refine e_istore_n (pc2 := 2) (L2 := [some (.ref 40), some (.int a0), some (.int (nI 0)), none]) hM rfl rfl rfl rfl ?_
  refine e_iload_n (pc2 := 3) hM rfl rfl rfl ?_
  refine e_switch hM rfl rfl ?_
  refine s_cons (tgt := 40) rfl ?_ ?_
  · refine e_aload_n (pc2 := 41) hM rfl rfl rfl ?_
    refine e_getfi (pc2 := 44) (k := 39) (v := (h 39 1)) hM rfl rfl rfl rfl rfl rfl ?_
    exact e_iret hM rfl rfl
  refine s_cons (tgt := 45) rfl ?_ ?_
  · refine e_aload_n (pc2 := 46) hM rfl rfl rfl ?_
    refine e_getfi (pc2 := 49) (k := 39) (v := (h 39 0)) hM rfl rfl rfl rfl rfl rfl ?_
    exact e_iret hM rfl rfl
  refine s_cons (tgt := 50) rfl ?_ ?_
  · refine e_iconst (pc2 := 51) (v := nI 0) hM rfl rfl rfl ?_
    refine e_istore_n (pc2 := 52) (L2 := [some (.ref 40), some (.int a0), some (.int (nI 0)), some (.int (nI 0))]) hM rfl rfl rfl rfl ?_
    exact rfl
  refine s_cons (tgt := 85) rfl ?_ ?_
  · refine e_iconst (pc2 := 86) (v := nI 0) hM rfl rfl rfl ?_
    refine e_istore_n (pc2 := 87) (L2 := [some (.ref 40), some (.int a0), some (.int (nI 0)), some (.int (nI 0))]) hM rfl rfl rfl rfl ?_
    exact rfl
  refine s_cons (tgt := 119) rfl ?_ ?_
  · refine e_aload_n (pc2 := 120) hM rfl rfl rfl ?_
    refine e_getfi (pc2 := 123) (k := 39) (v := (h 39 6)) hM rfl rfl rfl rfl rfl rfl ?_
    exact e_iret hM rfl rfl
  refine s_cons (tgt := 124) rfl ?_ ?_
  · refine e_aload_n (pc2 := 125) hM rfl rfl rfl ?_
    refine e_cvi (pc2 := 128) (k := 39) (As := [.ref 40]) (rest := []) hM rfl rfl rfl rfl rfl rfl rfl (fun x4 h3 => ?_)
    exact e_iret hM rfl rfl
  refine s_nil (tgt := 129) rfl ?_
  refine e_aload_n (pc2 := 130) hM rfl rfl rfl ?_
  refine e_iconst (pc2 := 131) (v := nI 1) hM rfl rfl rfl ?_
  refine e_cvi (pc2 := 134) (k := 39) (As := [.ref 40, .int (nI 1)]) (rest := []) hM rfl rfl rfl rfl rfl rfl rfl (fun x2 h1 => ?_)
  exact e_iret hM rfl rfl
theorem qX8_count_52 {sl : Nat} {xs : Nat → Int32} {d : Nat} {b1 b2 b3 : Int32} {h : pmH} : pm_Ev sl xs (d + 1) 147 52 [some (.ref 40), some (.int b1), some (.int b2), some (.int b3)] [] (SH, h) = if (h 39 1) ≤ b3 then (some (some (.int b2), (SH, h))) else (pm_ix none b3 24 fun j1 => if (h 53 j1) = 0 then (pm_Ev sl xs (d + 1) 147 52 [some (.ref 40), some (.int b1), some (.int (b2 + (nI 0))), some (.int (b3 + (nI 1)))] [] (SH, h)) else (pm_Ev sl xs (d + 1) 147 52 [some (.ref 40), some (.int b1), some (.int (b2 + (nI 1))), some (.int (b3 + (nI 1)))] [] (SH, h))) := by
  have hM : pm_mt 147 = some mt_147 := rfl
  refine e_iload_n (pc2 := 53) hM rfl rfl rfl ?_
  refine e_aload_n (pc2 := 54) hM rfl rfl rfl ?_
  refine e_getfi (pc2 := 57) (k := 39) (v := (h 39 1)) hM rfl rfl rfl rfl rfl rfl ?_
  refine e_icmp_ge (pc2 := 60) (tgt := 83) hM rfl rfl rfl ?_ ?_
  · refine e_iload_n (pc2 := 84) hM rfl rfl rfl ?_
    exact e_iret hM rfl rfl
  · refine e_iload_n (pc2 := 61) hM rfl rfl rfl ?_
    refine e_aload_n (pc2 := 62) hM rfl rfl rfl ?_
    refine e_getfr (pc2 := 65) (k := 39) (b := 54) hM rfl rfl rfl rfl rfl ?_
    refine e_iload_n (pc2 := 66) hM rfl rfl rfl ?_
    refine e_bald (pc2 := 67) (k := 53) (V := fun j1 => (h 53 j1)) hM rfl rfl rfl (fun _ => rfl) (fun j1 => ?_)
    refine e_if_eq (pc2 := 70) (tgt := 74) hM rfl rfl rfl ?_ ?_
    · refine e_iconst (pc2 := 75) (v := nI 0) hM rfl rfl rfl ?_
      refine e_iadd (pc2 := 76) hM rfl rfl ?_
      refine e_istore_n (pc2 := 77) (L2 := [some (.ref 40), some (.int b1), some (.int (b2 + (nI 0))), some (.int b3)]) hM rfl rfl rfl rfl ?_
      refine e_iinc (pc2 := 80) (v := nI 1) (L2 := [some (.ref 40), some (.int b1), some (.int (b2 + (nI 0))), some (.int (b3 + (nI 1)))]) hM rfl rfl rfl rfl rfl ?_
      refine e_goto (tgt := 52) hM rfl rfl ?_
      exact rfl
    · refine e_iconst (pc2 := 71) (v := nI 1) hM rfl rfl rfl ?_
      refine e_goto (tgt := 75) hM rfl rfl ?_
      refine e_iadd (pc2 := 76) hM rfl rfl ?_
      refine e_istore_n (pc2 := 77) (L2 := [some (.ref 40), some (.int b1), some (.int (b2 + (nI 1))), some (.int b3)]) hM rfl rfl rfl rfl ?_
      refine e_iinc (pc2 := 80) (v := nI 1) (L2 := [some (.ref 40), some (.int b1), some (.int (b2 + (nI 1))), some (.int (b3 + (nI 1)))]) hM rfl rfl rfl rfl rfl ?_
      refine e_goto (tgt := 52) hM rfl rfl ?_
      exact rfl
theorem qX8_count_87 {sl : Nat} {xs : Nat → Int32} {d : Nat} {b1 b2 b3 : Int32} {h : pmH} : pm_Ev sl xs (d + 1) 147 87 [some (.ref 40), some (.int b1), some (.int b2), some (.int b3)] [] (SH, h) = if (h 39 1) ≤ b3 then (some (some (.int b2), (SH, h))) else (pm_ri (pm_cf (pm_Ev sl xs) (d + 1) 106 [.ref 40, .int b3] (SH, h)) SH fun x2 h1 => if x2 = 0 then (pm_Ev sl xs (d + 1) 147 87 [some (.ref 40), some (.int b1), some (.int (b2 + (nI 0))), some (.int (b3 + (nI 1)))] [] (SH, h1)) else (pm_Ev sl xs (d + 1) 147 87 [some (.ref 40), some (.int b1), some (.int (b2 + (nI 1))), some (.int (b3 + (nI 1)))] [] (SH, h1))) := by
  have hM : pm_mt 147 = some mt_147 := rfl
  refine e_iload_n (pc2 := 88) hM rfl rfl rfl ?_
  refine e_aload_n (pc2 := 89) hM rfl rfl rfl ?_
  refine e_getfi (pc2 := 92) (k := 39) (v := (h 39 1)) hM rfl rfl rfl rfl rfl rfl ?_
  refine e_icmp_ge (pc2 := 95) (tgt := 117) hM rfl rfl rfl ?_ ?_
  · refine e_iload_n (pc2 := 118) hM rfl rfl rfl ?_
    exact e_iret hM rfl rfl
  · refine e_iload_n (pc2 := 96) hM rfl rfl rfl ?_
    refine e_aload_n (pc2 := 97) hM rfl rfl rfl ?_
    refine e_iload_n (pc2 := 98) hM rfl rfl rfl ?_
    refine e_cvi (pc2 := 101) (k := 39) (As := [.ref 40, .int b3]) (rest := [.int b2]) hM rfl rfl rfl rfl rfl rfl rfl (fun x2 h1 => ?_)
    refine e_if_eq (pc2 := 104) (tgt := 108) hM rfl rfl rfl ?_ ?_
    · refine e_iconst (pc2 := 109) (v := nI 0) hM rfl rfl rfl ?_
      refine e_iadd (pc2 := 110) hM rfl rfl ?_
      refine e_istore_n (pc2 := 111) (L2 := [some (.ref 40), some (.int b1), some (.int (b2 + (nI 0))), some (.int b3)]) hM rfl rfl rfl rfl ?_
      refine e_iinc (pc2 := 114) (v := nI 1) (L2 := [some (.ref 40), some (.int b1), some (.int (b2 + (nI 0))), some (.int (b3 + (nI 1)))]) hM rfl rfl rfl rfl rfl ?_
      refine e_goto (tgt := 87) hM rfl rfl ?_
      exact rfl
    · refine e_iconst (pc2 := 105) (v := nI 1) hM rfl rfl rfl ?_
      refine e_goto (tgt := 109) hM rfl rfl ?_
      refine e_iadd (pc2 := 110) hM rfl rfl ?_
      refine e_istore_n (pc2 := 111) (L2 := [some (.ref 40), some (.int b1), some (.int (b2 + (nI 1))), some (.int b3)]) hM rfl rfl rfl rfl ?_
      refine e_iinc (pc2 := 114) (v := nI 1) (L2 := [some (.ref 40), some (.int b1), some (.int (b2 + (nI 1))), some (.int (b3 + (nI 1)))]) hM rfl rfl rfl rfl rfl ?_
      refine e_goto (tgt := 87) hM rfl rfl ?_
      exact rfl
theorem qX8_found_0 {sl : Nat} {xs : Nat → Int32} {d : Nat} {a0 : Int32} {h : pmH} : pm_cf (pm_Ev sl xs) (d + 2) 148 [.ref 40, .int a0] (SH, h) = pm_ri (pm_cf (pm_Ev sl xs) (d + 1) 95 [.int a0, .int (nI 1), .int (nI 5)] (SH, h)) SH fun x2 h1 => if x2 = 0 then (pm_ri (pm_cf (pm_Ev sl xs) (d + 1) 96 [.ref 40, .int (nI 1)] (SH, h1)) SH fun x4 h3 => some (some (.int x4), (SH, h3))) else (pm_ix none a0 6 fun j5 => some (some (.int (h1 58 j5)), (SH, h1))) := by
  have hM : pm_mt 148 = some mt_148 := rfl
  refine e_call (L := [some (.ref 40), some (.int a0)]) hM rfl rfl ?_
  refine e_iload_n (pc2 := 1) hM rfl rfl rfl ?_
  refine e_iconst (pc2 := 2) (v := nI 1) hM rfl rfl rfl ?_
  refine e_iconst (pc2 := 3) (v := nI 5) hM rfl rfl rfl ?_
  refine e_csi (pc2 := 6) (As := [.int a0, .int (nI 1), .int (nI 5)]) (rest := []) hM rfl rfl rfl rfl rfl rfl rfl (fun x2 h1 => ?_)
  refine e_if_eq (pc2 := 9) (tgt := 18) hM rfl rfl rfl ?_ ?_
  · refine e_aload_n (pc2 := 19) hM rfl rfl rfl ?_
    refine e_iconst (pc2 := 20) (v := nI 1) hM rfl rfl rfl ?_
    refine e_cvi (pc2 := 23) (k := 39) (As := [.ref 40, .int (nI 1)]) (rest := []) hM rfl rfl rfl rfl rfl rfl rfl (fun x4 h3 => ?_)
    exact e_iret hM rfl rfl
  · refine e_aload_n (pc2 := 10) hM rfl rfl rfl ?_
    refine e_getfr (pc2 := 13) (k := 39) (b := 59) hM rfl rfl rfl rfl rfl ?_
    refine e_iload_n (pc2 := 14) hM rfl rfl rfl ?_
    refine e_iald (pc2 := 15) (k := 58) (V := fun j5 => (h1 58 j5)) hM rfl rfl rfl (fun _ => rfl) (fun j5 => ?_)
    refine e_goto (tgt := 23) hM rfl rfl ?_
    exact e_iret hM rfl rfl
