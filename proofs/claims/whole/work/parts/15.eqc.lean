def SH : List pmS := [(2, 7, [some (some 2), some (some 3), some (some 8), some (some 21), some (some 27), some (some 29), some (some 36), some (some 38)]), (0, 6, []), (2, 2, [none, some (some 4), some (some 5), some (some 6), some (some 7)]), (0, 12, []), (0, 12, []), (0, 12, []), (0, 12, []), (2, 5, [none, some (some 9), some (some 10), some (some 11), some (some 12), some (some 13), some (some 14), some (some 15), some (some 16), some (some 17), some (some 18), some (some 19), some (some 20)]), (0, 24, []), (0, 24, []), (0, 24, []), (0, 24, []), (0, 24, []), (0, 24, []), (0, 24, []), (0, 24, []), (1, 24, []), (0, 24, []), (0, 24, []), (0, 1440, []), (2, 1, [some (some 8), none, some (some 22), some (some 23), some (some 24), some (some 25), some (some 26)]), (1, 24, []), (0, 24, []), (0, 24, []), (0, 24, []), (0, 24, []), (2, 3, [some (some 8), some (some 21), some (some 28), none]), (0, 576, []), (2, 4, [some (some 8), none, none, some (some 30), some (some 31), some (some 32), some (some 33), some (some 34), some (some 35), none]), (0, 8, []), (0, 24, []), (0, 24, []), (0, 24, []), (0, 180, []), (0, 6, []), (2, 0, [some (some 37), none]), (0, 8, []), (2, 6, [none, some (some 39)]), (0, 24, []), (2, 8, [none, none, none, none, none, none, none, some (some 41), some (some 42), some (some 43), some (some 44), some (some 45), some (some 46), some (some 47), some (some 48), some (some 49), some (some 50), some (some 51), some (some 52), some (some 53), some (some 54), some (some 55), some (some 56), some (some 57), some (some 58), some (some 59), some (some 60), some (some 61), some (some 62), some (some 63), some (some 64), none, some (some 65), some (some 66), some (some 67), some (some 68), some (some 69)]), (0, 12, []), (0, 12, []), (0, 12, []), (0, 24, []), (0, 24, []), (0, 24, []), (0, 24, []), (0, 24, []), (0, 24, []), (0, 24, []), (0, 24, []), (0, 24, []), (0, 24, []), (1, 24, []), (0, 1440, []), (0, 8, []), (0, 8, []), (0, 24, []), (0, 6, []), (0, 24, []), (0, 24, []), (0, 24, []), (0, 24, []), (0, 600, []), (0, 24, []), (0, 24, []), (0, 24, []), (0, 180, []), (0, 24, [])]
/-! equations of the component: blocks of its methods -/
theorem qX0_allFronts_0 {sl : Nat} {xs : Nat → Int32} {d : Nat} {h : pmH} : pm_cf (pm_Ev sl xs) (d + 1) 1 [.ref 36] (SH, h) = pm_Ev sl xs d 1 4 [some (.ref 36), some (.int (nI 0)), some (.int (nI 0))] [] (SH, h) := by
  have hM : pm_mt 1 = some mt_1 := rfl
  refine e_call (L := [some (.ref 36), none, none]) hM rfl rfl ?_
  refine e_iconst (pc2 := 1) (v := nI 0) hM rfl rfl rfl ?_
  refine e_istore_n (pc2 := 2) (L2 := [some (.ref 36), some (.int (nI 0)), none]) hM rfl rfl rfl rfl ?_
  refine e_iconst (pc2 := 3) (v := nI 0) hM rfl rfl rfl ?_
  refine e_istore_n (pc2 := 4) (L2 := [some (.ref 36), some (.int (nI 0)), some (.int (nI 0))]) hM rfl rfl rfl rfl ?_
  exact rfl
theorem qX0_allFronts_4 {sl : Nat} {xs : Nat → Int32} {d : Nat} {b1 b2 : Int32} {h : pmH} : pm_Ev sl xs d 1 4 [some (.ref 36), some (.int b1), some (.int b2)] [] (SH, h) = if (nI 8) ≤ b2 then (some (some (.int b1), (SH, h))) else (pm_ix none b2 8 fun j1 => pm_Ev sl xs d 1 4 [some (.ref 36), some (.int (b1 + (h 36 j1))), some (.int (b2 + (nI 1)))] [] (SH, h)) := by
  have hM : pm_mt 1 = some mt_1 := rfl
  refine e_iload_n (pc2 := 5) hM rfl rfl rfl ?_
  refine e_bipush (pc2 := 7) (v := nI 8) hM rfl rfl rfl rfl ?_
  refine e_icmp_ge (pc2 := 10) (tgt := 25) hM rfl rfl rfl ?_ ?_
  · refine e_iload_n (pc2 := 26) hM rfl rfl rfl ?_
    exact e_iret hM rfl rfl
  · refine e_iload_n (pc2 := 11) hM rfl rfl rfl ?_
    refine e_aload_n (pc2 := 12) hM rfl rfl rfl ?_
    refine e_getfr (pc2 := 15) (k := 35) (b := 37) hM rfl rfl rfl rfl rfl ?_
    refine e_iload_n (pc2 := 16) hM rfl rfl rfl ?_
    refine e_iald (pc2 := 17) (k := 36) (V := fun j1 => (h 36 j1)) hM rfl rfl rfl (fun _ => rfl) (fun j1 => ?_)
    refine e_iadd (pc2 := 18) hM rfl rfl ?_
    refine e_istore_n (pc2 := 19) (L2 := [some (.ref 36), some (.int (b1 + (h 36 j1))), some (.int b2)]) hM rfl rfl rfl rfl ?_
    refine e_iinc (pc2 := 22) (v := nI 1) (L2 := [some (.ref 36), some (.int (b1 + (h 36 j1))), some (.int (b2 + (nI 1)))]) hM rfl rfl rfl rfl rfl ?_
    refine e_goto (tgt := 4) hM rfl rfl ?_
    exact rfl
theorem qX0_townPays_0 {sl : Nat} {xs : Nat → Int32} {d : Nat} {a0 : Int32} {h : pmH} : pm_cf (pm_Ev sl xs) (d + 2) 2 [.ref 36, .int a0] (SH, h) = pm_ri (pm_cf (pm_Ev sl xs) (d + 1) 1 [.ref 36] (SH, h)) SH fun x2 h1 => if x2 = 0 then (some (some (.int a0), (SH, h1))) else (if nI 100 = 0 then none else (some (some (.int ((a0 * (h1 35 1)) / (nI 100))), (SH, h1)))) := by
  have hM : pm_mt 2 = some mt_2 := rfl
  refine e_call (L := [some (.ref 36), some (.int a0)]) hM rfl rfl ?_
  refine e_aload_n (pc2 := 1) hM rfl rfl rfl ?_
  refine e_cvi (pc2 := 4) (k := 35) (As := [.ref 36]) (rest := []) hM rfl rfl rfl rfl rfl rfl rfl (fun x2 h1 => ?_)
  refine e_if_ne (pc2 := 7) (tgt := 11) hM rfl rfl rfl ?_ ?_
  · refine e_iload_n (pc2 := 12) hM rfl rfl rfl ?_
    refine e_aload_n (pc2 := 13) hM rfl rfl rfl ?_
    refine e_getfi (pc2 := 16) (k := 35) (v := (h1 35 1)) hM rfl rfl rfl rfl rfl rfl ?_
    refine e_imul (pc2 := 17) hM rfl rfl ?_
    refine e_bipush (pc2 := 19) (v := nI 100) hM rfl rfl rfl rfl ?_
    refine e_idiv (pc2 := 20) hM rfl rfl ?_
    exact e_iret hM rfl rfl
  · refine e_iload_n (pc2 := 8) hM rfl rfl rfl ?_
    refine e_goto (tgt := 20) hM rfl rfl ?_
    exact e_iret hM rfl rfl
theorem qX0_shopPays_0 {sl : Nat} {xs : Nat → Int32} {d : Nat} {a0 a1 : Int32} {h : pmH} : pm_cf (pm_Ev sl xs) (d + 2) 3 [.ref 36, .int a0, .int a1] (SH, h) = pm_ri (pm_cf (pm_Ev sl xs) (d + 1) 1 [.ref 36] (SH, h)) SH fun x2 h1 => if x2 = 0 then (some (some (.int (nI 0)), (SH, h1))) else (pm_ri (pm_cf (pm_Ev sl xs) (d + 1) 2 [.ref 36, .int a1] (SH, h1)) SH fun x4 h3 => pm_ix none a0 8 fun j5 => if x2 = 0 then none else (pm_Ev sl xs (d + 1) 3 43 [some (.ref 36), some (.int a0), some (.int a1), some (.int x2), some (.int (a1 - x4)), some (.int (a1 - x4)), some (.int (nI 0)), some (.int (((a1 - x4) * (h3 36 j5)) - ((a1 - x4) * (h3 36 j5)) / x2 * x2)), some (.int (nI 0)), none] [] (SH, h3))) := by
  have hM : pm_mt 3 = some mt_3 := rfl
  refine e_call (L := [some (.ref 36), some (.int a0), some (.int a1), none, none, none, none, none, none, none]) hM rfl rfl ?_
  refine e_aload_n (pc2 := 1) hM rfl rfl rfl ?_
  refine e_cvi (pc2 := 4) (k := 35) (As := [.ref 36]) (rest := []) hM rfl rfl rfl rfl rfl rfl rfl (fun x2 h1 => ?_)
  refine e_istore_n (pc2 := 5) (L2 := [some (.ref 36), some (.int a0), some (.int a1), some (.int x2), none, none, none, none, none, none]) hM rfl rfl rfl rfl ?_
  refine e_iload_n (pc2 := 6) hM rfl rfl rfl ?_
  refine e_if_ne (pc2 := 9) (tgt := 11) hM rfl rfl rfl ?_ ?_
  · refine e_iload_n (pc2 := 12) hM rfl rfl rfl ?_
    refine e_aload_n (pc2 := 13) hM rfl rfl rfl ?_
    refine e_iload_n (pc2 := 14) hM rfl rfl rfl ?_
    refine e_cvi (pc2 := 17) (k := 35) (As := [.ref 36, .int a1]) (rest := [.int a1]) hM rfl rfl rfl rfl rfl rfl rfl (fun x4 h3 => ?_)
    refine e_isub (pc2 := 18) hM rfl rfl ?_
    refine e_istore (pc2 := 20) (L2 := [some (.ref 36), some (.int a0), some (.int a1), some (.int x2), some (.int (a1 - x4)), none, none, none, none, none]) hM rfl rfl rfl rfl ?_
    refine e_iload (pc2 := 22) hM rfl rfl rfl ?_
    refine e_istore (pc2 := 24) (L2 := [some (.ref 36), some (.int a0), some (.int a1), some (.int x2), some (.int (a1 - x4)), some (.int (a1 - x4)), none, none, none, none]) hM rfl rfl rfl rfl ?_
    refine e_iconst (pc2 := 25) (v := nI 0) hM rfl rfl rfl ?_
    refine e_istore (pc2 := 27) (L2 := [some (.ref 36), some (.int a0), some (.int a1), some (.int x2), some (.int (a1 - x4)), some (.int (a1 - x4)), some (.int (nI 0)), none, none, none]) hM rfl rfl rfl rfl ?_
    refine e_iload (pc2 := 29) hM rfl rfl rfl ?_
    refine e_aload_n (pc2 := 30) hM rfl rfl rfl ?_
    refine e_getfr (pc2 := 33) (k := 35) (b := 37) hM rfl rfl rfl rfl rfl ?_
    refine e_iload_n (pc2 := 34) hM rfl rfl rfl ?_
    refine e_iald (pc2 := 35) (k := 36) (V := fun j5 => (h3 36 j5)) hM rfl rfl rfl (fun _ => rfl) (fun j5 => ?_)
    refine e_imul (pc2 := 36) hM rfl rfl ?_
    refine e_iload_n (pc2 := 37) hM rfl rfl rfl ?_
    refine e_irem (pc2 := 38) hM rfl rfl ?_
    refine e_istore (pc2 := 40) (L2 := [some (.ref 36), some (.int a0), some (.int a1), some (.int x2), some (.int (a1 - x4)), some (.int (a1 - x4)), some (.int (nI 0)), some (.int (((a1 - x4) * (h3 36 j5)) - ((a1 - x4) * (h3 36 j5)) / x2 * x2)), none, none]) hM rfl rfl rfl rfl ?_
    refine e_iconst (pc2 := 41) (v := nI 0) hM rfl rfl rfl ?_
    refine e_istore (pc2 := 43) (L2 := [some (.ref 36), some (.int a0), some (.int a1), some (.int x2), some (.int (a1 - x4)), some (.int (a1 - x4)), some (.int (nI 0)), some (.int (((a1 - x4) * (h3 36 j5)) - ((a1 - x4) * (h3 36 j5)) / x2 * x2)), some (.int (nI 0)), none]) hM rfl rfl rfl rfl ?_
    exact rfl
  · refine e_iconst (pc2 := 10) (v := nI 0) hM rfl rfl rfl ?_
    exact e_iret hM rfl rfl
theorem qX0_shopPays_43 {sl : Nat} {xs : Nat → Int32} {d : Nat} {b1 b3 b4 b5 b6 b7 b8 : Int32} {o2 o9 : Option Value} {h : pmH} : pm_Ev sl xs (d + 1) 3 43 [some (.ref 36), some (.int b1), o2, some (.int b3), some (.int b4), some (.int b5), some (.int b6), some (.int b7), some (.int b8), o9] [] (SH, h) = if (nI 8) ≤ b8 then (pm_ix none b1 8 fun j1 => if b3 = 0 then none else (if b5 ≤ b6 then (some (some (.int ((b4 * (h 36 j1)) / b3)), (SH, h))) else (some (some (.int (((b4 * (h 36 j1)) / b3) + (nI 1))), (SH, h))))) else (pm_ix none b8 8 fun j2 => if b3 = 0 then none else (pm_ix none b8 8 fun j3 => if b3 = 0 then none else (if b7 < ((b4 * (h 36 j3)) - (b4 * (h 36 j3)) / b3 * b3) then (pm_Ev sl xs (d + 1) 3 43 [some (.ref 36), some (.int b1), o2, some (.int b3), some (.int b4), some (.int (b5 - ((b4 * (h 36 j2)) / b3))), some (.int (b6 + (nI 1))), some (.int b7), some (.int (b8 + (nI 1))), some (.int ((b4 * (h 36 j3)) - (b4 * (h 36 j3)) / b3 * b3))] [] (SH, h)) else (if ((b4 * (h 36 j3)) - (b4 * (h 36 j3)) / b3 * b3) = b7 then (if b1 ≤ b8 then (pm_Ev sl xs (d + 1) 3 43 [some (.ref 36), some (.int b1), o2, some (.int b3), some (.int b4), some (.int (b5 - ((b4 * (h 36 j2)) / b3))), some (.int b6), some (.int b7), some (.int (b8 + (nI 1))), some (.int ((b4 * (h 36 j3)) - (b4 * (h 36 j3)) / b3 * b3))] [] (SH, h)) else (pm_Ev sl xs (d + 1) 3 43 [some (.ref 36), some (.int b1), o2, some (.int b3), some (.int b4), some (.int (b5 - ((b4 * (h 36 j2)) / b3))), some (.int (b6 + (nI 1))), some (.int b7), some (.int (b8 + (nI 1))), some (.int ((b4 * (h 36 j3)) - (b4 * (h 36 j3)) / b3 * b3))] [] (SH, h))) else (pm_Ev sl xs (d + 1) 3 43 [some (.ref 36), some (.int b1), o2, some (.int b3), some (.int b4), some (.int (b5 - ((b4 * (h 36 j2)) / b3))), some (.int b6), some (.int b7), some (.int (b8 + (nI 1))), some (.int ((b4 * (h 36 j3)) - (b4 * (h 36 j3)) / b3 * b3))] [] (SH, h)))))) := by
  have hM : pm_mt 3 = some mt_3 := rfl
  refine e_iload (pc2 := 45) hM rfl rfl rfl ?_
  refine e_bipush (pc2 := 47) (v := nI 8) hM rfl rfl rfl rfl ?_
  refine e_icmp_ge (pc2 := 50) (tgt := 110) hM rfl rfl rfl ?_ ?_
  · refine e_iload (pc2 := 112) hM rfl rfl rfl ?_
    refine e_aload_n (pc2 := 113) hM rfl rfl rfl ?_
    refine e_getfr (pc2 := 116) (k := 35) (b := 37) hM rfl rfl rfl rfl rfl ?_
    refine e_iload_n (pc2 := 117) hM rfl rfl rfl ?_
    refine e_iald (pc2 := 118) (k := 36) (V := fun j1 => (h 36 j1)) hM rfl rfl rfl (fun _ => rfl) (fun j1 => ?_)
    refine e_imul (pc2 := 119) hM rfl rfl ?_
    refine e_iload_n (pc2 := 120) hM rfl rfl rfl ?_
    refine e_idiv (pc2 := 121) hM rfl rfl ?_
    refine e_istore (pc2 := 123) (L2 := [some (.ref 36), some (.int b1), o2, some (.int b3), some (.int b4), some (.int b5), some (.int b6), some (.int b7), some (.int ((b4 * (h 36 j1)) / b3)), o9]) hM rfl rfl rfl rfl ?_
    refine e_iload (pc2 := 125) hM rfl rfl rfl ?_
    refine e_iload (pc2 := 127) hM rfl rfl rfl ?_
    refine e_icmp_ge (pc2 := 130) (tgt := 137) hM rfl rfl rfl ?_ ?_
    · refine e_iload (pc2 := 139) hM rfl rfl rfl ?_
      exact e_iret hM rfl rfl
    · refine e_iload (pc2 := 132) hM rfl rfl rfl ?_
      refine e_iconst (pc2 := 133) (v := nI 1) hM rfl rfl rfl ?_
      refine e_iadd (pc2 := 134) hM rfl rfl ?_
      refine e_goto (tgt := 139) hM rfl rfl ?_
      exact e_iret hM rfl rfl
  · refine e_iload (pc2 := 52) hM rfl rfl rfl ?_
    refine e_iload (pc2 := 54) hM rfl rfl rfl ?_
    refine e_aload_n (pc2 := 55) hM rfl rfl rfl ?_
    refine e_getfr (pc2 := 58) (k := 35) (b := 37) hM rfl rfl rfl rfl rfl ?_
    refine e_iload (pc2 := 60) hM rfl rfl rfl ?_
    refine e_iald (pc2 := 61) (k := 36) (V := fun j2 => (h 36 j2)) hM rfl rfl rfl (fun _ => rfl) (fun j2 => ?_)
    refine e_imul (pc2 := 62) hM rfl rfl ?_
    refine e_iload_n (pc2 := 63) hM rfl rfl rfl ?_
    refine e_idiv (pc2 := 64) hM rfl rfl ?_
    refine e_isub (pc2 := 65) hM rfl rfl ?_
    refine e_istore (pc2 := 67) (L2 := [some (.ref 36), some (.int b1), o2, some (.int b3), some (.int b4), some (.int (b5 - ((b4 * (h 36 j2)) / b3))), some (.int b6), some (.int b7), some (.int b8), o9]) hM rfl rfl rfl rfl ?_
    refine e_iload (pc2 := 69) hM rfl rfl rfl ?_
    refine e_aload_n (pc2 := 70) hM rfl rfl rfl ?_
    refine e_getfr (pc2 := 73) (k := 35) (b := 37) hM rfl rfl rfl rfl rfl ?_
    refine e_iload (pc2 := 75) hM rfl rfl rfl ?_
    refine e_iald (pc2 := 76) (k := 36) (V := fun j3 => (h 36 j3)) hM rfl rfl rfl (fun _ => rfl) (fun j3 => ?_)
    refine e_imul (pc2 := 77) hM rfl rfl ?_
    refine e_iload_n (pc2 := 78) hM rfl rfl rfl ?_
    refine e_irem (pc2 := 79) hM rfl rfl ?_
    refine e_istore (pc2 := 81) (L2 := [some (.ref 36), some (.int b1), o2, some (.int b3), some (.int b4), some (.int (b5 - ((b4 * (h 36 j2)) / b3))), some (.int b6), some (.int b7), some (.int b8), some (.int ((b4 * (h 36 j3)) - (b4 * (h 36 j3)) / b3 * b3))]) hM rfl rfl rfl rfl ?_
    refine e_iload (pc2 := 83) hM rfl rfl rfl ?_
    refine e_iload (pc2 := 85) hM rfl rfl rfl ?_
    refine e_icmp_gt (pc2 := 88) (tgt := 101) hM rfl rfl rfl ?_ ?_
    · refine e_iinc (pc2 := 104) (v := nI 1) (L2 := [some (.ref 36), some (.int b1), o2, some (.int b3), some (.int b4), some (.int (b5 - ((b4 * (h 36 j2)) / b3))), some (.int (b6 + (nI 1))), some (.int b7), some (.int b8), some (.int ((b4 * (h 36 j3)) - (b4 * (h 36 j3)) / b3 * b3))]) hM rfl rfl rfl rfl rfl ?_
      refine e_iinc (pc2 := 107) (v := nI 1) (L2 := [some (.ref 36), some (.int b1), o2, some (.int b3), some (.int b4), some (.int (b5 - ((b4 * (h 36 j2)) / b3))), some (.int (b6 + (nI 1))), some (.int b7), some (.int (b8 + (nI 1))), some (.int ((b4 * (h 36 j3)) - (b4 * (h 36 j3)) / b3 * b3))]) hM rfl rfl rfl rfl rfl ?_
      refine e_goto (tgt := 43) hM rfl rfl ?_
      exact rfl
    · refine e_iload (pc2 := 90) hM rfl rfl rfl ?_
      refine e_iload (pc2 := 92) hM rfl rfl rfl ?_
      refine e_icmp_ne (pc2 := 95) (tgt := 104) hM rfl rfl rfl ?_ ?_
      · refine e_iinc (pc2 := 107) (v := nI 1) (L2 := [some (.ref 36), some (.int b1), o2, some (.int b3), some (.int b4), some (.int (b5 - ((b4 * (h 36 j2)) / b3))), some (.int b6), some (.int b7), some (.int (b8 + (nI 1))), some (.int ((b4 * (h 36 j3)) - (b4 * (h 36 j3)) / b3 * b3))]) hM rfl rfl rfl rfl rfl ?_
        refine e_goto (tgt := 43) hM rfl rfl ?_
        exact rfl
      · refine e_iload (pc2 := 97) hM rfl rfl rfl ?_
        refine e_iload_n (pc2 := 98) hM rfl rfl rfl ?_
        refine e_icmp_ge (pc2 := 101) (tgt := 104) hM rfl rfl rfl ?_ ?_
        · refine e_iinc (pc2 := 107) (v := nI 1) (L2 := [some (.ref 36), some (.int b1), o2, some (.int b3), some (.int b4), some (.int (b5 - ((b4 * (h 36 j2)) / b3))), some (.int b6), some (.int b7), some (.int (b8 + (nI 1))), some (.int ((b4 * (h 36 j3)) - (b4 * (h 36 j3)) / b3 * b3))]) hM rfl rfl rfl rfl rfl ?_
          refine e_goto (tgt := 43) hM rfl rfl ?_
          exact rfl
        · refine e_iinc (pc2 := 104) (v := nI 1) (L2 := [some (.ref 36), some (.int b1), o2, some (.int b3), some (.int b4), some (.int (b5 - ((b4 * (h 36 j2)) / b3))), some (.int (b6 + (nI 1))), some (.int b7), some (.int b8), some (.int ((b4 * (h 36 j3)) - (b4 * (h 36 j3)) / b3 * b3))]) hM rfl rfl rfl rfl rfl ?_
          refine e_iinc (pc2 := 107) (v := nI 1) (L2 := [some (.ref 36), some (.int b1), o2, some (.int b3), some (.int b4), some (.int (b5 - ((b4 * (h 36 j2)) / b3))), some (.int (b6 + (nI 1))), some (.int b7), some (.int (b8 + (nI 1))), some (.int ((b4 * (h 36 j3)) - (b4 * (h 36 j3)) / b3 * b3))]) hM rfl rfl rfl rfl rfl ?_
          refine e_goto (tgt := 43) hM rfl rfl ?_
          exact rfl
theorem qX1_survey_0 {sl : Nat} {xs : Nat → Int32} {d : Nat} {h : pmH} : pm_cf (pm_Ev sl xs) (d + 2) 5 [.ref 21] (SH, h) = pm_rv (pm_cf (pm_Ev sl xs) (d + 1) 6 [.ref 21] (SH, h)) SH fun h1 => pm_rv (pm_cf (pm_Ev sl xs) (d + 1) 7 [.ref 21] (SH, h1)) SH fun h2 => pm_rv (pm_cf (pm_Ev sl xs) (d + 1) 8 [.ref 21] (SH, h2)) SH fun h3 => some (none, (SH, h3)) := by
  have hM : pm_mt 5 = some mt_5 := rfl
  refine e_call (L := [some (.ref 21)]) hM rfl rfl ?_
  refine e_aload_n (pc2 := 1) hM rfl rfl rfl ?_
  refine e_cvv (pc2 := 4) (k := 20) (As := [.ref 21]) (rest := []) hM rfl rfl rfl rfl rfl rfl rfl (fun h1 => ?_)
  refine e_aload_n (pc2 := 5) hM rfl rfl rfl ?_
  refine e_cvv (pc2 := 8) (k := 20) (As := [.ref 21]) (rest := []) hM rfl rfl rfl rfl rfl rfl rfl (fun h2 => ?_)
  refine e_aload_n (pc2 := 9) hM rfl rfl rfl ?_
  refine e_cvv (pc2 := 12) (k := 20) (As := [.ref 21]) (rest := []) hM rfl rfl rfl rfl rfl rfl rfl (fun h3 => ?_)
  exact e_ret hM rfl rfl
theorem qX1_surveyDark_0 {sl : Nat} {xs : Nat → Int32} {d : Nat} {h : pmH} : pm_cf (pm_Ev sl xs) (d + 1) 6 [.ref 21] (SH, h) = pm_Ev sl xs d 6 2 [some (.ref 21), some (.int (nI 0)), none] [] (SH, h) := by
  have hM : pm_mt 6 = some mt_6 := rfl
  refine e_call (L := [some (.ref 21), none, none]) hM rfl rfl ?_
  refine e_iconst (pc2 := 1) (v := nI 0) hM rfl rfl rfl ?_
  refine e_istore_n (pc2 := 2) (L2 := [some (.ref 21), some (.int (nI 0)), none]) hM rfl rfl rfl rfl ?_
  exact rfl
theorem qX1_surveyDark_2 {sl : Nat} {xs : Nat → Int32} {d : Nat} {b1 : Int32} {o2 : Option Value} {h : pmH} : pm_Ev sl xs d 6 2 [some (.ref 21), some (.int b1), o2] [] (SH, h) = if (h 7 0) ≤ b1 then (some (none, (SH, h))) else (pm_ix none b1 24 fun j1 => pm_ix none b1 24 fun j2 => if (h 16 j2) = 0 then (if (h 9 j1) < 0 then (pm_ix none b1 24 fun j4 => pm_Ev sl xs d 6 2 [some (.ref 21), some (.int (b1 + (nI 1))), some (.int (h 9 j1))] [] (SH, (pm_up h 21 j4 (nI 0)))) else (pm_ix none (h 9 j1) 24 fun j5 => if (h 21 j5) = 0 then (pm_ix none b1 24 fun j6 => pm_Ev sl xs d 6 2 [some (.ref 21), some (.int (b1 + (nI 1))), some (.int (h 9 j1))] [] (SH, (pm_up h 21 j6 (nI 0)))) else (pm_ix none b1 24 fun j7 => pm_Ev sl xs d 6 2 [some (.ref 21), some (.int (b1 + (nI 1))), some (.int (h 9 j1))] [] (SH, (pm_up h 21 j7 (nI 1)))))) else (pm_ix none b1 24 fun j3 => pm_Ev sl xs d 6 2 [some (.ref 21), some (.int (b1 + (nI 1))), some (.int (h 9 j1))] [] (SH, (pm_up h 21 j3 (nI 1))))) := by
  have hM : pm_mt 6 = some mt_6 := rfl
  refine e_iload_n (pc2 := 3) hM rfl rfl rfl ?_
  refine e_aload_n (pc2 := 4) hM rfl rfl rfl ?_
  refine e_getfr (pc2 := 7) (k := 20) (b := 8) hM rfl rfl rfl rfl rfl ?_
  refine e_getfi (pc2 := 10) (k := 7) (v := (h 7 0)) hM rfl rfl rfl rfl rfl rfl ?_
  refine e_icmp_ge (pc2 := 13) (tgt := 65) hM rfl rfl rfl ?_ ?_
  · exact e_ret hM rfl rfl
  · refine e_aload_n (pc2 := 14) hM rfl rfl rfl ?_
    refine e_getfr (pc2 := 17) (k := 20) (b := 8) hM rfl rfl rfl rfl rfl ?_
    refine e_getfr (pc2 := 20) (k := 7) (b := 10) hM rfl rfl rfl rfl rfl ?_
    refine e_iload_n (pc2 := 21) hM rfl rfl rfl ?_
    refine e_iald (pc2 := 22) (k := 9) (V := fun j1 => (h 9 j1)) hM rfl rfl rfl (fun _ => rfl) (fun j1 => ?_)
    refine e_istore_n (pc2 := 23) (L2 := [some (.ref 21), some (.int b1), some (.int (h 9 j1))]) hM rfl rfl rfl rfl ?_
    refine e_aload_n (pc2 := 24) hM rfl rfl rfl ?_
    refine e_getfr (pc2 := 27) (k := 20) (b := 22) hM rfl rfl rfl rfl rfl ?_
    refine e_iload_n (pc2 := 28) hM rfl rfl rfl ?_
    refine e_aload_n (pc2 := 29) hM rfl rfl rfl ?_
    refine e_getfr (pc2 := 32) (k := 20) (b := 8) hM rfl rfl rfl rfl rfl ?_
    refine e_getfr (pc2 := 35) (k := 7) (b := 17) hM rfl rfl rfl rfl rfl ?_
    refine e_iload_n (pc2 := 36) hM rfl rfl rfl ?_
    refine e_bald (pc2 := 37) (k := 16) (V := fun j2 => (h 16 j2)) hM rfl rfl rfl (fun _ => rfl) (fun j2 => ?_)
    refine e_if_ne (pc2 := 40) (tgt := 53) hM rfl rfl rfl ?_ ?_
    · refine e_iconst (pc2 := 54) (v := nI 1) hM rfl rfl rfl ?_
      refine e_goto (tgt := 58) hM rfl rfl ?_
      refine e_bast (pc2 := 59) (k := 21) hM rfl rfl rfl pm_01b (fun j3 => ?_)
      refine e_iinc (pc2 := 62) (v := nI 1) (L2 := [some (.ref 21), some (.int (b1 + (nI 1))), some (.int (h 9 j1))]) hM rfl rfl rfl rfl rfl ?_
      refine e_goto (tgt := 2) hM rfl rfl ?_
      exact rfl
    · refine e_iload_n (pc2 := 41) hM rfl rfl rfl ?_
      refine e_if_lt (pc2 := 44) (tgt := 57) hM rfl rfl rfl ?_ ?_
      · refine e_iconst (pc2 := 58) (v := nI 0) hM rfl rfl rfl ?_
        refine e_bast (pc2 := 59) (k := 21) hM rfl rfl rfl pm_01a (fun j4 => ?_)
        refine e_iinc (pc2 := 62) (v := nI 1) (L2 := [some (.ref 21), some (.int (b1 + (nI 1))), some (.int (h 9 j1))]) hM rfl rfl rfl rfl rfl ?_
        refine e_goto (tgt := 2) hM rfl rfl ?_
        exact rfl
      · refine e_aload_n (pc2 := 45) hM rfl rfl rfl ?_
        refine e_getfr (pc2 := 48) (k := 20) (b := 22) hM rfl rfl rfl rfl rfl ?_
        refine e_iload_n (pc2 := 49) hM rfl rfl rfl ?_
        refine e_bald (pc2 := 50) (k := 21) (V := fun j5 => (h 21 j5)) hM rfl rfl rfl (fun _ => rfl) (fun j5 => ?_)
        refine e_if_eq (pc2 := 53) (tgt := 57) hM rfl rfl rfl ?_ ?_
        · refine e_iconst (pc2 := 58) (v := nI 0) hM rfl rfl rfl ?_
          refine e_bast (pc2 := 59) (k := 21) hM rfl rfl rfl pm_01a (fun j6 => ?_)
          refine e_iinc (pc2 := 62) (v := nI 1) (L2 := [some (.ref 21), some (.int (b1 + (nI 1))), some (.int (h 9 j1))]) hM rfl rfl rfl rfl rfl ?_
          refine e_goto (tgt := 2) hM rfl rfl ?_
          exact rfl
        · refine e_iconst (pc2 := 54) (v := nI 1) hM rfl rfl rfl ?_
          refine e_goto (tgt := 58) hM rfl rfl ?_
          refine e_bast (pc2 := 59) (k := 21) hM rfl rfl rfl pm_01b (fun j7 => ?_)
          refine e_iinc (pc2 := 62) (v := nI 1) (L2 := [some (.ref 21), some (.int (b1 + (nI 1))), some (.int (h 9 j1))]) hM rfl rfl rfl rfl rfl ?_
          refine e_goto (tgt := 2) hM rfl rfl ?_
          exact rfl
theorem qX1_surveyLoads_0 {sl : Nat} {xs : Nat → Int32} {d : Nat} {h : pmH} : pm_cf (pm_Ev sl xs) (d + 2) 7 [.ref 21] (SH, h) = pm_Ev sl xs (d + 1) 7 2 [some (.ref 21), some (.int (nI 0)), none] [] (SH, h) := by
  have hM : pm_mt 7 = some mt_7 := rfl
  refine e_call (L := [some (.ref 21), none, none]) hM rfl rfl ?_
  refine e_iconst (pc2 := 1) (v := nI 0) hM rfl rfl rfl ?_
  refine e_istore_n (pc2 := 2) (L2 := [some (.ref 21), some (.int (nI 0)), none]) hM rfl rfl rfl rfl ?_
  exact rfl
theorem qX1_surveyLoads_2 {sl : Nat} {xs : Nat → Int32} {d : Nat} {b1 : Int32} {o2 : Option Value} {h : pmH} : pm_Ev sl xs (d + 1) 7 2 [some (.ref 21), some (.int b1), o2] [] (SH, h) = if (h 7 0) ≤ b1 then (pm_Ev sl xs (d + 1) 7 70 [some (.ref 21), some (.int ((h 7 0) - (nI 1))), o2] [] (SH, h)) else (pm_ri (pm_cf (pm_Ev sl xs) (d + 1) 46 [.ref 8, .int b1] (SH, h)) SH fun x2 h1 => pm_ix none b1 24 fun j3 => pm_ix none b1 24 fun j4 => if (h1 21 j4) = 0 then (pm_ri (pm_cf (pm_Ev sl xs) (d + 1) 46 [.ref 8, .int b1] (SH, (pm_up h1 23 j3 x2))) SH fun x6 h5 => pm_ix none b1 24 fun j7 => pm_Ev sl xs (d + 1) 7 2 [some (.ref 21), some (.int (b1 + (nI 1))), o2] [] (SH, (pm_up h5 22 j7 x6))) else (pm_ix none b1 24 fun j8 => pm_Ev sl xs (d + 1) 7 2 [some (.ref 21), some (.int (b1 + (nI 1))), o2] [] (SH, (pm_up (pm_up h1 23 j3 x2) 22 j8 (nI 0))))) := by
  have hM : pm_mt 7 = some mt_7 := rfl
  refine e_iload_n (pc2 := 3) hM rfl rfl rfl ?_
  refine e_aload_n (pc2 := 4) hM rfl rfl rfl ?_
  refine e_getfr (pc2 := 7) (k := 20) (b := 8) hM rfl rfl rfl rfl rfl ?_
  refine e_getfi (pc2 := 10) (k := 7) (v := (h 7 0)) hM rfl rfl rfl rfl rfl rfl ?_
  refine e_icmp_ge (pc2 := 13) (tgt := 60) hM rfl rfl rfl ?_ ?_
  · refine e_aload_n (pc2 := 61) hM rfl rfl rfl ?_
    refine e_getfr (pc2 := 64) (k := 20) (b := 8) hM rfl rfl rfl rfl rfl ?_
    refine e_getfi (pc2 := 67) (k := 7) (v := (h 7 0)) hM rfl rfl rfl rfl rfl rfl ?_
    refine e_iconst (pc2 := 68) (v := nI 1) hM rfl rfl rfl ?_
    refine e_isub (pc2 := 69) hM rfl rfl ?_
    refine e_istore_n (pc2 := 70) (L2 := [some (.ref 21), some (.int ((h 7 0) - (nI 1))), o2]) hM rfl rfl rfl rfl ?_
    exact rfl
  · refine e_aload_n (pc2 := 14) hM rfl rfl rfl ?_
    refine e_getfr (pc2 := 17) (k := 20) (b := 24) hM rfl rfl rfl rfl rfl ?_
    refine e_iload_n (pc2 := 18) hM rfl rfl rfl ?_
    refine e_aload_n (pc2 := 19) hM rfl rfl rfl ?_
    refine e_getfr (pc2 := 22) (k := 20) (b := 8) hM rfl rfl rfl rfl rfl ?_
    refine e_iload_n (pc2 := 23) hM rfl rfl rfl ?_
    refine e_cvi (pc2 := 26) (k := 7) (As := [.ref 8, .int b1]) (rest := [.int b1, .ref 24]) hM rfl rfl rfl rfl rfl rfl rfl (fun x2 h1 => ?_)
    refine e_iast (pc2 := 27) (k := 23) hM rfl rfl rfl (fun j3 => ?_)
    refine e_aload_n (pc2 := 28) hM rfl rfl rfl ?_
    refine e_getfr (pc2 := 31) (k := 20) (b := 23) hM rfl rfl rfl rfl rfl ?_
    refine e_iload_n (pc2 := 32) hM rfl rfl rfl ?_
    refine e_aload_n (pc2 := 33) hM rfl rfl rfl ?_
    refine e_getfr (pc2 := 36) (k := 20) (b := 22) hM rfl rfl rfl rfl rfl ?_
    refine e_iload_n (pc2 := 37) hM rfl rfl rfl ?_
    refine e_bald (pc2 := 38) (k := 21) (V := fun j4 => (h1 21 j4)) hM rfl rfl rfl (fun _ => rfl) (fun j4 => ?_)
    refine e_if_eq (pc2 := 41) (tgt := 45) hM rfl rfl rfl ?_ ?_
    · refine e_aload_n (pc2 := 46) hM rfl rfl rfl ?_
      refine e_getfr (pc2 := 49) (k := 20) (b := 8) hM rfl rfl rfl rfl rfl ?_
      refine e_iload_n (pc2 := 50) hM rfl rfl rfl ?_
      refine e_cvi (pc2 := 53) (k := 7) (As := [.ref 8, .int b1]) (rest := [.int b1, .ref 23]) hM rfl rfl rfl rfl rfl rfl rfl (fun x6 h5 => ?_)
      refine e_iast (pc2 := 54) (k := 22) hM rfl rfl rfl (fun j7 => ?_)
      refine e_iinc (pc2 := 57) (v := nI 1) (L2 := [some (.ref 21), some (.int (b1 + (nI 1))), o2]) hM rfl rfl rfl rfl rfl ?_
      refine e_goto (tgt := 2) hM rfl rfl ?_
      exact rfl
    · refine e_iconst (pc2 := 42) (v := nI 0) hM rfl rfl rfl ?_
      refine e_goto (tgt := 53) hM rfl rfl ?_
      refine e_iast (pc2 := 54) (k := 22) hM rfl rfl rfl (fun j8 => ?_)
      refine e_iinc (pc2 := 57) (v := nI 1) (L2 := [some (.ref 21), some (.int (b1 + (nI 1))), o2]) hM rfl rfl rfl rfl rfl ?_
      refine e_goto (tgt := 2) hM rfl rfl ?_
      exact rfl
theorem qX1_surveyLoads_70 {sl : Nat} {xs : Nat → Int32} {d : Nat} {b1 : Int32} {o2 : Option Value} {h : pmH} : pm_Ev sl xs (d + 1) 7 70 [some (.ref 21), some (.int b1), o2] [] (SH, h) = if b1 < 0 then (some (none, (SH, h))) else (pm_ix none b1 24 fun j1 => if (h 9 j1) < 0 then (pm_Ev sl xs (d + 1) 7 70 [some (.ref 21), some (.int (b1 + (-nI 1))), some (.int (h 9 j1))] [] (SH, h)) else (pm_ix none (h 9 j1) 24 fun j2 => pm_ix none b1 24 fun j3 => pm_ix none (h 9 j1) 24 fun j4 => pm_ix none (h 9 j1) 24 fun j5 => pm_ix none b1 24 fun j6 => pm_ix none (h 9 j1) 24 fun j7 => pm_Ev sl xs (d + 1) 7 70 [some (.ref 21), some (.int (b1 + (-nI 1))), some (.int (h 9 j1))] [] (SH, (pm_up (pm_up h 23 j4 ((h 23 j2) + (h 23 j3))) 22 j7 ((h 22 j5) + (h 22 j6)))))) := by
  have hM : pm_mt 7 = some mt_7 := rfl
  refine e_iload_n (pc2 := 71) hM rfl rfl rfl ?_
  refine e_if_lt (pc2 := 74) (tgt := 124) hM rfl rfl rfl ?_ ?_
  · exact e_ret hM rfl rfl
  · refine e_aload_n (pc2 := 75) hM rfl rfl rfl ?_
    refine e_getfr (pc2 := 78) (k := 20) (b := 8) hM rfl rfl rfl rfl rfl ?_
    refine e_getfr (pc2 := 81) (k := 7) (b := 10) hM rfl rfl rfl rfl rfl ?_
    refine e_iload_n (pc2 := 82) hM rfl rfl rfl ?_
    refine e_iald (pc2 := 83) (k := 9) (V := fun j1 => (h 9 j1)) hM rfl rfl rfl (fun _ => rfl) (fun j1 => ?_)
    refine e_istore_n (pc2 := 84) (L2 := [some (.ref 21), some (.int b1), some (.int (h 9 j1))]) hM rfl rfl rfl rfl ?_
    refine e_iload_n (pc2 := 85) hM rfl rfl rfl ?_
    refine e_if_lt (pc2 := 88) (tgt := 118) hM rfl rfl rfl ?_ ?_
    · refine e_iinc (pc2 := 121) (v := -nI 1) (L2 := [some (.ref 21), some (.int (b1 + (-nI 1))), some (.int (h 9 j1))]) hM rfl rfl rfl rfl rfl ?_
      refine e_goto (tgt := 70) hM rfl rfl ?_
      exact rfl
    · refine e_aload_n (pc2 := 89) hM rfl rfl rfl ?_
      refine e_getfr (pc2 := 92) (k := 20) (b := 24) hM rfl rfl rfl rfl rfl ?_
      refine e_iload_n (pc2 := 93) hM rfl rfl rfl ?_
      refine e_dup2 (pc2 := 94) hM rfl rfl rfl rfl ?_
      refine e_iald (pc2 := 95) (k := 23) (V := fun j2 => (h 23 j2)) hM rfl rfl rfl (fun _ => rfl) (fun j2 => ?_)
      refine e_aload_n (pc2 := 96) hM rfl rfl rfl ?_
      refine e_getfr (pc2 := 99) (k := 20) (b := 24) hM rfl rfl rfl rfl rfl ?_
      refine e_iload_n (pc2 := 100) hM rfl rfl rfl ?_
      refine e_iald (pc2 := 101) (k := 23) (V := fun j3 => (h 23 j3)) hM rfl rfl rfl (fun _ => rfl) (fun j3 => ?_)
      refine e_iadd (pc2 := 102) hM rfl rfl ?_
      refine e_iast (pc2 := 103) (k := 23) hM rfl rfl rfl (fun j4 => ?_)
      refine e_aload_n (pc2 := 104) hM rfl rfl rfl ?_
      refine e_getfr (pc2 := 107) (k := 20) (b := 23) hM rfl rfl rfl rfl rfl ?_
      refine e_iload_n (pc2 := 108) hM rfl rfl rfl ?_
      refine e_dup2 (pc2 := 109) hM rfl rfl rfl rfl ?_
      refine e_iald (pc2 := 110) (k := 22) (V := fun j5 => (h 22 j5)) hM rfl rfl rfl (fun _ => rfl) (fun j5 => ?_)
      refine e_aload_n (pc2 := 111) hM rfl rfl rfl ?_
      refine e_getfr (pc2 := 114) (k := 20) (b := 23) hM rfl rfl rfl rfl rfl ?_
      refine e_iload_n (pc2 := 115) hM rfl rfl rfl ?_
      refine e_iald (pc2 := 116) (k := 22) (V := fun j6 => (h 22 j6)) hM rfl rfl rfl (fun _ => rfl) (fun j6 => ?_)
      refine e_iadd (pc2 := 117) hM rfl rfl ?_
      refine e_iast (pc2 := 118) (k := 22) hM rfl rfl rfl (fun j7 => ?_)
      refine e_iinc (pc2 := 121) (v := -nI 1) (L2 := [some (.ref 21), some (.int (b1 + (-nI 1))), some (.int (h 9 j1))]) hM rfl rfl rfl rfl rfl ?_
      refine e_goto (tgt := 70) hM rfl rfl ?_
      exact rfl
theorem qX1_surveyFalls_0 {sl : Nat} {xs : Nat → Int32} {d : Nat} {h : pmH} : pm_cf (pm_Ev sl xs) (d + 2) 8 [.ref 21] (SH, h) = pm_Ev sl xs (d + 1) 8 2 [some (.ref 21), some (.int (nI 0)), none, none, none] [] (SH, h) := by
  have hM : pm_mt 8 = some mt_8 := rfl
  refine e_call (L := [some (.ref 21), none, none, none, none]) hM rfl rfl ?_
  refine e_iconst (pc2 := 1) (v := nI 0) hM rfl rfl rfl ?_
  refine e_istore_n (pc2 := 2) (L2 := [some (.ref 21), some (.int (nI 0)), none, none, none]) hM rfl rfl rfl rfl ?_
  exact rfl
theorem qX1_surveyFalls_2 {sl : Nat} {xs : Nat → Int32} {d : Nat} {b1 : Int32} {o2 o3 o4 : Option Value} {h : pmH} : pm_Ev sl xs (d + 1) 8 2 [some (.ref 21), some (.int b1), o2, o3, o4] [] (SH, h) = if (h 7 0) ≤ b1 then (some (none, (SH, h))) else (pm_ix none b1 24 fun j1 => pm_ix none b1 24 fun j2 => pm_ix none b1 24 fun j3 => pm_ix none b1 24 fun j4 => if (if (nI 1) < ((nI 10) * (h 12 j4)) then ((nI 10) * (h 12 j4)) else (nI 1)) = 0 then none else (if (h 9 j1) < 0 then (pm_ix none b1 24 fun j5 => if (h 9 j1) < 0 then (pm_ix none b1 24 fun j6 => if (h 15 j6) ≤ 0 then (pm_ix none b1 24 fun j7 => pm_Ev sl xs (d + 1) 8 2 [some (.ref 21), some (.int (b1 + (nI 1))), some (.int (h 9 j1)), some (.int (((h 11 j2) * (h 23 j3)) / (if (nI 1) < ((nI 10) * (h 12 j4)) then ((nI 10) * (h 12 j4)) else (nI 1)))), some (.int (nI 0))] [] (SH, (pm_up (pm_up h 24 j5 (((h 11 j2) * (h 23 j3)) / (if (nI 1) < ((nI 10) * (h 12 j4)) then ((nI 10) * (h 12 j4)) else (nI 1)))) 25 j7 (nI 0)))) else (pm_ix none b1 24 fun j8 => pm_ix none b1 24 fun j9 => pm_Ev sl xs (d + 1) 8 2 [some (.ref 21), some (.int (b1 + (nI 1))), some (.int (h 9 j1)), some (.int (((h 11 j2) * (h 23 j3)) / (if (nI 1) < ((nI 10) * (h 12 j4)) then ((nI 10) * (h 12 j4)) else (nI 1)))), some (.int (nI 0))] [] (SH, (pm_up (pm_up h 24 j5 (((h 11 j2) * (h 23 j3)) / (if (nI 1) < ((nI 10) * (h 12 j4)) then ((nI 10) * (h 12 j4)) else (nI 1)))) 25 j9 (h 15 j8))))) else (pm_ix none (h 9 j1) 24 fun j10 => pm_ix none b1 24 fun j11 => if (h 15 j11) ≤ 0 then (pm_ix none b1 24 fun j12 => pm_Ev sl xs (d + 1) 8 2 [some (.ref 21), some (.int (b1 + (nI 1))), some (.int (h 9 j1)), some (.int (((h 11 j2) * (h 23 j3)) / (if (nI 1) < ((nI 10) * (h 12 j4)) then ((nI 10) * (h 12 j4)) else (nI 1)))), some (.int (h 25 j10))] [] (SH, (pm_up (pm_up h 24 j5 (((h 11 j2) * (h 23 j3)) / (if (nI 1) < ((nI 10) * (h 12 j4)) then ((nI 10) * (h 12 j4)) else (nI 1)))) 25 j12 (h 25 j10)))) else (pm_ix none b1 24 fun j13 => pm_ix none b1 24 fun j14 => pm_Ev sl xs (d + 1) 8 2 [some (.ref 21), some (.int (b1 + (nI 1))), some (.int (h 9 j1)), some (.int (((h 11 j2) * (h 23 j3)) / (if (nI 1) < ((nI 10) * (h 12 j4)) then ((nI 10) * (h 12 j4)) else (nI 1)))), some (.int (h 25 j10))] [] (SH, (pm_up (pm_up h 24 j5 (((h 11 j2) * (h 23 j3)) / (if (nI 1) < ((nI 10) * (h 12 j4)) then ((nI 10) * (h 12 j4)) else (nI 1)))) 25 j14 (h 15 j13)))))) else (pm_ix none (h 9 j1) 24 fun j15 => pm_ix none b1 24 fun j16 => if (h 9 j1) < 0 then (pm_ix none b1 24 fun j17 => if (h 15 j17) ≤ 0 then (pm_ix none b1 24 fun j18 => pm_Ev sl xs (d + 1) 8 2 [some (.ref 21), some (.int (b1 + (nI 1))), some (.int (h 9 j1)), some (.int (((h 11 j2) * (h 23 j3)) / (if (nI 1) < ((nI 10) * (h 12 j4)) then ((nI 10) * (h 12 j4)) else (nI 1)))), some (.int (nI 0))] [] (SH, (pm_up (pm_up h 24 j16 ((h 24 j15) + (((h 11 j2) * (h 23 j3)) / (if (nI 1) < ((nI 10) * (h 12 j4)) then ((nI 10) * (h 12 j4)) else (nI 1))))) 25 j18 (nI 0)))) else (pm_ix none b1 24 fun j19 => pm_ix none b1 24 fun j20 => pm_Ev sl xs (d + 1) 8 2 [some (.ref 21), some (.int (b1 + (nI 1))), some (.int (h 9 j1)), some (.int (((h 11 j2) * (h 23 j3)) / (if (nI 1) < ((nI 10) * (h 12 j4)) then ((nI 10) * (h 12 j4)) else (nI 1)))), some (.int (nI 0))] [] (SH, (pm_up (pm_up h 24 j16 ((h 24 j15) + (((h 11 j2) * (h 23 j3)) / (if (nI 1) < ((nI 10) * (h 12 j4)) then ((nI 10) * (h 12 j4)) else (nI 1))))) 25 j20 (h 15 j19))))) else (pm_ix none (h 9 j1) 24 fun j21 => pm_ix none b1 24 fun j22 => if (h 15 j22) ≤ 0 then (pm_ix none b1 24 fun j23 => pm_Ev sl xs (d + 1) 8 2 [some (.ref 21), some (.int (b1 + (nI 1))), some (.int (h 9 j1)), some (.int (((h 11 j2) * (h 23 j3)) / (if (nI 1) < ((nI 10) * (h 12 j4)) then ((nI 10) * (h 12 j4)) else (nI 1)))), some (.int (h 25 j21))] [] (SH, (pm_up (pm_up h 24 j16 ((h 24 j15) + (((h 11 j2) * (h 23 j3)) / (if (nI 1) < ((nI 10) * (h 12 j4)) then ((nI 10) * (h 12 j4)) else (nI 1))))) 25 j23 (h 25 j21)))) else (pm_ix none b1 24 fun j24 => pm_ix none b1 24 fun j25 => pm_Ev sl xs (d + 1) 8 2 [some (.ref 21), some (.int (b1 + (nI 1))), some (.int (h 9 j1)), some (.int (((h 11 j2) * (h 23 j3)) / (if (nI 1) < ((nI 10) * (h 12 j4)) then ((nI 10) * (h 12 j4)) else (nI 1)))), some (.int (h 25 j21))] [] (SH, (pm_up (pm_up h 24 j16 ((h 24 j15) + (((h 11 j2) * (h 23 j3)) / (if (nI 1) < ((nI 10) * (h 12 j4)) then ((nI 10) * (h 12 j4)) else (nI 1))))) 25 j25 (h 15 j24)))))))) := by
  have hM : pm_mt 8 = some mt_8 := rfl
  refine e_iload_n (pc2 := 3) hM rfl rfl rfl ?_
  refine e_aload_n (pc2 := 4) hM rfl rfl rfl ?_
  refine e_getfr (pc2 := 7) (k := 20) (b := 8) hM rfl rfl rfl rfl rfl ?_
  refine e_getfi (pc2 := 10) (k := 7) (v := (h 7 0)) hM rfl rfl rfl rfl rfl rfl ?_
  refine e_icmp_ge (pc2 := 13) (tgt := 133) hM rfl rfl rfl ?_ ?_
  · exact e_ret hM rfl rfl
  · refine e_aload_n (pc2 := 14) hM rfl rfl rfl ?_
    refine e_getfr (pc2 := 17) (k := 20) (b := 8) hM rfl rfl rfl rfl rfl ?_
    refine e_getfr (pc2 := 20) (k := 7) (b := 10) hM rfl rfl rfl rfl rfl ?_
    refine e_iload_n (pc2 := 21) hM rfl rfl rfl ?_
    refine e_iald (pc2 := 22) (k := 9) (V := fun j1 => (h 9 j1)) hM rfl rfl rfl (fun _ => rfl) (fun j1 => ?_)
    refine e_istore_n (pc2 := 23) (L2 := [some (.ref 21), some (.int b1), some (.int (h 9 j1)), o3, o4]) hM rfl rfl rfl rfl ?_
    refine e_aload_n (pc2 := 24) hM rfl rfl rfl ?_
    refine e_getfr (pc2 := 27) (k := 20) (b := 8) hM rfl rfl rfl rfl rfl ?_
    refine e_getfr (pc2 := 30) (k := 7) (b := 12) hM rfl rfl rfl rfl rfl ?_
    refine e_iload_n (pc2 := 31) hM rfl rfl rfl ?_
    refine e_iald (pc2 := 32) (k := 11) (V := fun j2 => (h 11 j2)) hM rfl rfl rfl (fun _ => rfl) (fun j2 => ?_)
    refine e_aload_n (pc2 := 33) hM rfl rfl rfl ?_
    refine e_getfr (pc2 := 36) (k := 20) (b := 24) hM rfl rfl rfl rfl rfl ?_
    refine e_iload_n (pc2 := 37) hM rfl rfl rfl ?_
    refine e_iald (pc2 := 38) (k := 23) (V := fun j3 => (h 23 j3)) hM rfl rfl rfl (fun _ => rfl) (fun j3 => ?_)
    refine e_imul (pc2 := 39) hM rfl rfl ?_
    refine e_iconst (pc2 := 40) (v := nI 1) hM rfl rfl rfl ?_
    refine e_bipush (pc2 := 42) (v := nI 10) hM rfl rfl rfl rfl ?_
    refine e_aload_n (pc2 := 43) hM rfl rfl rfl ?_
    refine e_getfr (pc2 := 46) (k := 20) (b := 8) hM rfl rfl rfl rfl rfl ?_
    refine e_getfr (pc2 := 49) (k := 7) (b := 13) hM rfl rfl rfl rfl rfl ?_
    refine e_iload_n (pc2 := 50) hM rfl rfl rfl ?_
    refine e_iald (pc2 := 51) (k := 12) (V := fun j4 => (h 12 j4)) hM rfl rfl rfl (fun _ => rfl) (fun j4 => ?_)
    refine e_imul (pc2 := 52) hM rfl rfl ?_
    refine e_max (pc2 := 55) hM rfl rfl rfl rfl ?_
    refine e_idiv (pc2 := 56) hM rfl rfl ?_
    refine e_istore_n (pc2 := 57) (L2 := [some (.ref 21), some (.int b1), some (.int (h 9 j1)), some (.int (((h 11 j2) * (h 23 j3)) / (if (nI 1) < ((nI 10) * (h 12 j4)) then ((nI 10) * (h 12 j4)) else (nI 1)))), o4]) hM rfl rfl rfl rfl ?_
    refine e_aload_n (pc2 := 58) hM rfl rfl rfl ?_
    refine e_getfr (pc2 := 61) (k := 20) (b := 25) hM rfl rfl rfl rfl rfl ?_
    refine e_iload_n (pc2 := 62) hM rfl rfl rfl ?_
    refine e_iload_n (pc2 := 63) hM rfl rfl rfl ?_
    refine e_if_lt (pc2 := 66) (tgt := 77) hM rfl rfl rfl ?_ ?_
    · refine e_iload_n (pc2 := 78) hM rfl rfl rfl ?_
      refine e_iast (pc2 := 79) (k := 24) hM rfl rfl rfl (fun j5 => ?_)
      refine e_iload_n (pc2 := 80) hM rfl rfl rfl ?_
      refine e_if_lt (pc2 := 83) (tgt := 92) hM rfl rfl rfl ?_ ?_
      · refine e_iconst (pc2 := 93) (v := nI 0) hM rfl rfl rfl ?_
        refine e_istore (pc2 := 95) (L2 := [some (.ref 21), some (.int b1), some (.int (h 9 j1)), some (.int (((h 11 j2) * (h 23 j3)) / (if (nI 1) < ((nI 10) * (h 12 j4)) then ((nI 10) * (h 12 j4)) else (nI 1)))), some (.int (nI 0))]) hM rfl rfl rfl rfl ?_
        refine e_aload_n (pc2 := 96) hM rfl rfl rfl ?_
        refine e_getfr (pc2 := 99) (k := 20) (b := 26) hM rfl rfl rfl rfl rfl ?_
        refine e_iload_n (pc2 := 100) hM rfl rfl rfl ?_
        refine e_aload_n (pc2 := 101) hM rfl rfl rfl ?_
        refine e_getfr (pc2 := 104) (k := 20) (b := 8) hM rfl rfl rfl rfl rfl ?_
        refine e_getfr (pc2 := 107) (k := 7) (b := 16) hM rfl rfl rfl rfl rfl ?_
        refine e_iload_n (pc2 := 108) hM rfl rfl rfl ?_
        refine e_iald (pc2 := 109) (k := 15) (V := fun j6 => (h 15 j6)) hM rfl rfl rfl (fun _ => rfl) (fun j6 => ?_)
        refine e_if_le (pc2 := 112) (tgt := 124) hM rfl rfl rfl ?_ ?_
        · refine e_iload (pc2 := 126) hM rfl rfl rfl ?_
          refine e_iast (pc2 := 127) (k := 25) hM rfl rfl rfl (fun j7 => ?_)
          refine e_iinc (pc2 := 130) (v := nI 1) (L2 := [some (.ref 21), some (.int (b1 + (nI 1))), some (.int (h 9 j1)), some (.int (((h 11 j2) * (h 23 j3)) / (if (nI 1) < ((nI 10) * (h 12 j4)) then ((nI 10) * (h 12 j4)) else (nI 1)))), some (.int (nI 0))]) hM rfl rfl rfl rfl rfl ?_
          refine e_goto (tgt := 2) hM rfl rfl ?_
          exact rfl
        · refine e_aload_n (pc2 := 113) hM rfl rfl rfl ?_
          refine e_getfr (pc2 := 116) (k := 20) (b := 8) hM rfl rfl rfl rfl rfl ?_
          refine e_getfr (pc2 := 119) (k := 7) (b := 16) hM rfl rfl rfl rfl rfl ?_
          refine e_iload_n (pc2 := 120) hM rfl rfl rfl ?_
          refine e_iald (pc2 := 121) (k := 15) (V := fun j8 => (h 15 j8)) hM rfl rfl rfl (fun _ => rfl) (fun j8 => ?_)
          refine e_goto (tgt := 126) hM rfl rfl ?_
          refine e_iast (pc2 := 127) (k := 25) hM rfl rfl rfl (fun j9 => ?_)
          refine e_iinc (pc2 := 130) (v := nI 1) (L2 := [some (.ref 21), some (.int (b1 + (nI 1))), some (.int (h 9 j1)), some (.int (((h 11 j2) * (h 23 j3)) / (if (nI 1) < ((nI 10) * (h 12 j4)) then ((nI 10) * (h 12 j4)) else (nI 1)))), some (.int (nI 0))]) hM rfl rfl rfl rfl rfl ?_
          refine e_goto (tgt := 2) hM rfl rfl ?_
          exact rfl
      · refine e_aload_n (pc2 := 84) hM rfl rfl rfl ?_
        refine e_getfr (pc2 := 87) (k := 20) (b := 26) hM rfl rfl rfl rfl rfl ?_
        refine e_iload_n (pc2 := 88) hM rfl rfl rfl ?_
        refine e_iald (pc2 := 89) (k := 25) (V := fun j10 => (h 25 j10)) hM rfl rfl rfl (fun _ => rfl) (fun j10 => ?_)
        refine e_goto (tgt := 93) hM rfl rfl ?_
        refine e_istore (pc2 := 95) (L2 := [some (.ref 21), some (.int b1), some (.int (h 9 j1)), some (.int (((h 11 j2) * (h 23 j3)) / (if (nI 1) < ((nI 10) * (h 12 j4)) then ((nI 10) * (h 12 j4)) else (nI 1)))), some (.int (h 25 j10))]) hM rfl rfl rfl rfl ?_
        refine e_aload_n (pc2 := 96) hM rfl rfl rfl ?_
        refine e_getfr (pc2 := 99) (k := 20) (b := 26) hM rfl rfl rfl rfl rfl ?_
        refine e_iload_n (pc2 := 100) hM rfl rfl rfl ?_
        refine e_aload_n (pc2 := 101) hM rfl rfl rfl ?_
        refine e_getfr (pc2 := 104) (k := 20) (b := 8) hM rfl rfl rfl rfl rfl ?_
        refine e_getfr (pc2 := 107) (k := 7) (b := 16) hM rfl rfl rfl rfl rfl ?_
        refine e_iload_n (pc2 := 108) hM rfl rfl rfl ?_
        refine e_iald (pc2 := 109) (k := 15) (V := fun j11 => (h 15 j11)) hM rfl rfl rfl (fun _ => rfl) (fun j11 => ?_)
        refine e_if_le (pc2 := 112) (tgt := 124) hM rfl rfl rfl ?_ ?_
        · refine e_iload (pc2 := 126) hM rfl rfl rfl ?_
          refine e_iast (pc2 := 127) (k := 25) hM rfl rfl rfl (fun j12 => ?_)
          refine e_iinc (pc2 := 130) (v := nI 1) (L2 := [some (.ref 21), some (.int (b1 + (nI 1))), some (.int (h 9 j1)), some (.int (((h 11 j2) * (h 23 j3)) / (if (nI 1) < ((nI 10) * (h 12 j4)) then ((nI 10) * (h 12 j4)) else (nI 1)))), some (.int (h 25 j10))]) hM rfl rfl rfl rfl rfl ?_
          refine e_goto (tgt := 2) hM rfl rfl ?_
          exact rfl
        · refine e_aload_n (pc2 := 113) hM rfl rfl rfl ?_
          refine e_getfr (pc2 := 116) (k := 20) (b := 8) hM rfl rfl rfl rfl rfl ?_
          refine e_getfr (pc2 := 119) (k := 7) (b := 16) hM rfl rfl rfl rfl rfl ?_
          refine e_iload_n (pc2 := 120) hM rfl rfl rfl ?_
          refine e_iald (pc2 := 121) (k := 15) (V := fun j13 => (h 15 j13)) hM rfl rfl rfl (fun _ => rfl) (fun j13 => ?_)
          refine e_goto (tgt := 126) hM rfl rfl ?_
          refine e_iast (pc2 := 127) (k := 25) hM rfl rfl rfl (fun j14 => ?_)
          refine e_iinc (pc2 := 130) (v := nI 1) (L2 := [some (.ref 21), some (.int (b1 + (nI 1))), some (.int (h 9 j1)), some (.int (((h 11 j2) * (h 23 j3)) / (if (nI 1) < ((nI 10) * (h 12 j4)) then ((nI 10) * (h 12 j4)) else (nI 1)))), some (.int (h 25 j10))]) hM rfl rfl rfl rfl rfl ?_
          refine e_goto (tgt := 2) hM rfl rfl ?_
          exact rfl
    · refine e_aload_n (pc2 := 67) hM rfl rfl rfl ?_
      refine e_getfr (pc2 := 70) (k := 20) (b := 25) hM rfl rfl rfl rfl rfl ?_
      refine e_iload_n (pc2 := 71) hM rfl rfl rfl ?_
      refine e_iald (pc2 := 72) (k := 24) (V := fun j15 => (h 24 j15)) hM rfl rfl rfl (fun _ => rfl) (fun j15 => ?_)
      refine e_iload_n (pc2 := 73) hM rfl rfl rfl ?_
      refine e_iadd (pc2 := 74) hM rfl rfl ?_
      refine e_goto (tgt := 78) hM rfl rfl ?_
      refine e_iast (pc2 := 79) (k := 24) hM rfl rfl rfl (fun j16 => ?_)
      refine e_iload_n (pc2 := 80) hM rfl rfl rfl ?_
      refine e_if_lt (pc2 := 83) (tgt := 92) hM rfl rfl rfl ?_ ?_
      · refine e_iconst (pc2 := 93) (v := nI 0) hM rfl rfl rfl ?_
        refine e_istore (pc2 := 95) (L2 := [some (.ref 21), some (.int b1), some (.int (h 9 j1)), some (.int (((h 11 j2) * (h 23 j3)) / (if (nI 1) < ((nI 10) * (h 12 j4)) then ((nI 10) * (h 12 j4)) else (nI 1)))), some (.int (nI 0))]) hM rfl rfl rfl rfl ?_
        refine e_aload_n (pc2 := 96) hM rfl rfl rfl ?_
        refine e_getfr (pc2 := 99) (k := 20) (b := 26) hM rfl rfl rfl rfl rfl ?_
        refine e_iload_n (pc2 := 100) hM rfl rfl rfl ?_
        refine e_aload_n (pc2 := 101) hM rfl rfl rfl ?_
        refine e_getfr (pc2 := 104) (k := 20) (b := 8) hM rfl rfl rfl rfl rfl ?_
        refine e_getfr (pc2 := 107) (k := 7) (b := 16) hM rfl rfl rfl rfl rfl ?_
        refine e_iload_n (pc2 := 108) hM rfl rfl rfl ?_
        refine e_iald (pc2 := 109) (k := 15) (V := fun j17 => (h 15 j17)) hM rfl rfl rfl (fun _ => rfl) (fun j17 => ?_)
        refine e_if_le (pc2 := 112) (tgt := 124) hM rfl rfl rfl ?_ ?_
        · refine e_iload (pc2 := 126) hM rfl rfl rfl ?_
          refine e_iast (pc2 := 127) (k := 25) hM rfl rfl rfl (fun j18 => ?_)
          refine e_iinc (pc2 := 130) (v := nI 1) (L2 := [some (.ref 21), some (.int (b1 + (nI 1))), some (.int (h 9 j1)), some (.int (((h 11 j2) * (h 23 j3)) / (if (nI 1) < ((nI 10) * (h 12 j4)) then ((nI 10) * (h 12 j4)) else (nI 1)))), some (.int (nI 0))]) hM rfl rfl rfl rfl rfl ?_
          refine e_goto (tgt := 2) hM rfl rfl ?_
          exact rfl
        · refine e_aload_n (pc2 := 113) hM rfl rfl rfl ?_
          refine e_getfr (pc2 := 116) (k := 20) (b := 8) hM rfl rfl rfl rfl rfl ?_
          refine e_getfr (pc2 := 119) (k := 7) (b := 16) hM rfl rfl rfl rfl rfl ?_
          refine e_iload_n (pc2 := 120) hM rfl rfl rfl ?_
          refine e_iald (pc2 := 121) (k := 15) (V := fun j19 => (h 15 j19)) hM rfl rfl rfl (fun _ => rfl) (fun j19 => ?_)
          refine e_goto (tgt := 126) hM rfl rfl ?_
          refine e_iast (pc2 := 127) (k := 25) hM rfl rfl rfl (fun j20 => ?_)
          refine e_iinc (pc2 := 130) (v := nI 1) (L2 := [some (.ref 21), some (.int (b1 + (nI 1))), some (.int (h 9 j1)), some (.int (((h 11 j2) * (h 23 j3)) / (if (nI 1) < ((nI 10) * (h 12 j4)) then ((nI 10) * (h 12 j4)) else (nI 1)))), some (.int (nI 0))]) hM rfl rfl rfl rfl rfl ?_
          refine e_goto (tgt := 2) hM rfl rfl ?_
          exact rfl
      · refine e_aload_n (pc2 := 84) hM rfl rfl rfl ?_
        refine e_getfr (pc2 := 87) (k := 20) (b := 26) hM rfl rfl rfl rfl rfl ?_
        refine e_iload_n (pc2 := 88) hM rfl rfl rfl ?_
        refine e_iald (pc2 := 89) (k := 25) (V := fun j21 => (h 25 j21)) hM rfl rfl rfl (fun _ => rfl) (fun j21 => ?_)
        refine e_goto (tgt := 93) hM rfl rfl ?_
        refine e_istore (pc2 := 95) (L2 := [some (.ref 21), some (.int b1), some (.int (h 9 j1)), some (.int (((h 11 j2) * (h 23 j3)) / (if (nI 1) < ((nI 10) * (h 12 j4)) then ((nI 10) * (h 12 j4)) else (nI 1)))), some (.int (h 25 j21))]) hM rfl rfl rfl rfl ?_
        refine e_aload_n (pc2 := 96) hM rfl rfl rfl ?_
        refine e_getfr (pc2 := 99) (k := 20) (b := 26) hM rfl rfl rfl rfl rfl ?_
        refine e_iload_n (pc2 := 100) hM rfl rfl rfl ?_
        refine e_aload_n (pc2 := 101) hM rfl rfl rfl ?_
        refine e_getfr (pc2 := 104) (k := 20) (b := 8) hM rfl rfl rfl rfl rfl ?_
        refine e_getfr (pc2 := 107) (k := 7) (b := 16) hM rfl rfl rfl rfl rfl ?_
        refine e_iload_n (pc2 := 108) hM rfl rfl rfl ?_
        refine e_iald (pc2 := 109) (k := 15) (V := fun j22 => (h 15 j22)) hM rfl rfl rfl (fun _ => rfl) (fun j22 => ?_)
        refine e_if_le (pc2 := 112) (tgt := 124) hM rfl rfl rfl ?_ ?_
        · refine e_iload (pc2 := 126) hM rfl rfl rfl ?_
          refine e_iast (pc2 := 127) (k := 25) hM rfl rfl rfl (fun j23 => ?_)
          refine e_iinc (pc2 := 130) (v := nI 1) (L2 := [some (.ref 21), some (.int (b1 + (nI 1))), some (.int (h 9 j1)), some (.int (((h 11 j2) * (h 23 j3)) / (if (nI 1) < ((nI 10) * (h 12 j4)) then ((nI 10) * (h 12 j4)) else (nI 1)))), some (.int (h 25 j21))]) hM rfl rfl rfl rfl rfl ?_
          refine e_goto (tgt := 2) hM rfl rfl ?_
          exact rfl
        · refine e_aload_n (pc2 := 113) hM rfl rfl rfl ?_
          refine e_getfr (pc2 := 116) (k := 20) (b := 8) hM rfl rfl rfl rfl rfl ?_
          refine e_getfr (pc2 := 119) (k := 7) (b := 16) hM rfl rfl rfl rfl rfl ?_
          refine e_iload_n (pc2 := 120) hM rfl rfl rfl ?_
          refine e_iald (pc2 := 121) (k := 15) (V := fun j24 => (h 15 j24)) hM rfl rfl rfl (fun _ => rfl) (fun j24 => ?_)
          refine e_goto (tgt := 126) hM rfl rfl ?_
          refine e_iast (pc2 := 127) (k := 25) hM rfl rfl rfl (fun j25 => ?_)
          refine e_iinc (pc2 := 130) (v := nI 1) (L2 := [some (.ref 21), some (.int (b1 + (nI 1))), some (.int (h 9 j1)), some (.int (((h 11 j2) * (h 23 j3)) / (if (nI 1) < ((nI 10) * (h 12 j4)) then ((nI 10) * (h 12 j4)) else (nI 1)))), some (.int (h 25 j21))]) hM rfl rfl rfl rfl rfl ?_
          refine e_goto (tgt := 2) hM rfl rfl ?_
          exact rfl
theorem qX1_wrong_0 {sl : Nat} {xs : Nat → Int32} {d : Nat} {a0 : Int32} {h : pmH} : pm_cf (pm_Ev sl xs) (d + 2) 9 [.ref 21, .int a0] (SH, h) = pm_ix none a0 24 fun j1 => if (h 15 j1) ≤ 0 then (pm_ix none a0 24 fun j2 => if (h 8 j2) = (nI 1) then (if (h 15 j1) = 0 then (some (some (.int (nI 2)), (SH, h))) else (if (h 15 j1) ≤ (nI 500) then (pm_ix none a0 24 fun j10 => if (h 24 j10) ≤ (h 20 1) then (pm_ri (pm_cf (pm_Ev sl xs) (d + 1) 47 [.ref 8, .int a0] (SH, h)) SH fun x12 h11 => if (h 15 j1) ≤ x12 then (pm_ix none a0 24 fun j13 => if (h11 25 j13) = 0 then (some (some (.int (nI 5)), (SH, h11))) else (pm_ix none a0 24 fun j14 => pm_ri (pm_cf (pm_Ev sl xs) (d + 1) 47 [.ref 8, .int a0] (SH, h11)) SH fun x16 h15 => if (h11 25 j14) ≤ x16 then (some (some (.int (nI 0)), (SH, h15))) else (some (some (.int (nI 6)), (SH, h15))))) else (some (some (.int (nI 4)), (SH, h11)))) else (some (some (.int (nI 3)), (SH, h)))) else (some (some (.int (nI 2)), (SH, h))))) else (pm_ix none a0 24 fun j3 => if (h 24 j3) ≤ (h 20 1) then (pm_ri (pm_cf (pm_Ev sl xs) (d + 1) 47 [.ref 8, .int a0] (SH, h)) SH fun x5 h4 => if (h 15 j1) ≤ x5 then (pm_ix none a0 24 fun j6 => if (h4 25 j6) = 0 then (some (some (.int (nI 5)), (SH, h4))) else (pm_ix none a0 24 fun j7 => pm_ri (pm_cf (pm_Ev sl xs) (d + 1) 47 [.ref 8, .int a0] (SH, h4)) SH fun x9 h8 => if (h4 25 j7) ≤ x9 then (some (some (.int (nI 0)), (SH, h8))) else (some (some (.int (nI 6)), (SH, h8))))) else (some (some (.int (nI 4)), (SH, h4)))) else (some (some (.int (nI 3)), (SH, h))))) else (pm_ix none a0 24 fun j17 => if (h 23 j17) ≤ (h 15 j1) then (pm_ix none a0 24 fun j18 => if (h 8 j18) = (nI 1) then (if (h 15 j1) = 0 then (some (some (.int (nI 2)), (SH, h))) else (if (h 15 j1) ≤ (nI 500) then (pm_ix none a0 24 fun j26 => if (h 24 j26) ≤ (h 20 1) then (pm_ri (pm_cf (pm_Ev sl xs) (d + 1) 47 [.ref 8, .int a0] (SH, h)) SH fun x28 h27 => if (h 15 j1) ≤ x28 then (pm_ix none a0 24 fun j29 => if (h27 25 j29) = 0 then (some (some (.int (nI 5)), (SH, h27))) else (pm_ix none a0 24 fun j30 => pm_ri (pm_cf (pm_Ev sl xs) (d + 1) 47 [.ref 8, .int a0] (SH, h27)) SH fun x32 h31 => if (h27 25 j30) ≤ x32 then (some (some (.int (nI 0)), (SH, h31))) else (some (some (.int (nI 6)), (SH, h31))))) else (some (some (.int (nI 4)), (SH, h27)))) else (some (some (.int (nI 3)), (SH, h)))) else (some (some (.int (nI 2)), (SH, h))))) else (pm_ix none a0 24 fun j19 => if (h 24 j19) ≤ (h 20 1) then (pm_ri (pm_cf (pm_Ev sl xs) (d + 1) 47 [.ref 8, .int a0] (SH, h)) SH fun x21 h20 => if (h 15 j1) ≤ x21 then (pm_ix none a0 24 fun j22 => if (h20 25 j22) = 0 then (some (some (.int (nI 5)), (SH, h20))) else (pm_ix none a0 24 fun j23 => pm_ri (pm_cf (pm_Ev sl xs) (d + 1) 47 [.ref 8, .int a0] (SH, h20)) SH fun x25 h24 => if (h20 25 j23) ≤ x25 then (some (some (.int (nI 0)), (SH, h24))) else (some (some (.int (nI 6)), (SH, h24))))) else (some (some (.int (nI 4)), (SH, h20)))) else (some (some (.int (nI 3)), (SH, h))))) else (some (some (.int (nI 1)), (SH, h)))) := by
  have hM : pm_mt 9 = some mt_9 := rfl
  refine e_call (L := [some (.ref 21), some (.int a0), none]) hM rfl rfl ?_
  refine e_aload_n (pc2 := 1) hM rfl rfl rfl ?_
  refine e_getfr (pc2 := 4) (k := 20) (b := 8) hM rfl rfl rfl rfl rfl ?_
  refine e_getfr (pc2 := 7) (k := 7) (b := 16) hM rfl rfl rfl rfl rfl ?_
  refine e_iload_n (pc2 := 8) hM rfl rfl rfl ?_
  refine e_iald (pc2 := 9) (k := 15) (V := fun j1 => (h 15 j1)) hM rfl rfl rfl (fun _ => rfl) (fun j1 => ?_)
  refine e_istore_n (pc2 := 10) (L2 := [some (.ref 21), some (.int a0), some (.int (h 15 j1))]) hM rfl rfl rfl rfl ?_
  refine e_iload_n (pc2 := 11) hM rfl rfl rfl ?_
  refine e_if_le (pc2 := 14) (tgt := 26) hM rfl rfl rfl ?_ ?_
  · refine e_aload_n (pc2 := 27) hM rfl rfl rfl ?_
    refine e_getfr (pc2 := 30) (k := 20) (b := 8) hM rfl rfl rfl rfl rfl ?_
    refine e_getfr (pc2 := 33) (k := 7) (b := 9) hM rfl rfl rfl rfl rfl ?_
    refine e_iload_n (pc2 := 34) hM rfl rfl rfl ?_
    refine e_iald (pc2 := 35) (k := 8) (V := fun j2 => (h 8 j2)) hM rfl rfl rfl (fun _ => rfl) (fun j2 => ?_)
    refine e_iconst (pc2 := 36) (v := nI 1) hM rfl rfl rfl ?_
    refine e_icmp_ne (pc2 := 39) (tgt := 52) hM rfl rfl rfl ?_ ?_
    · refine e_aload_n (pc2 := 53) hM rfl rfl rfl ?_
      refine e_getfr (pc2 := 56) (k := 20) (b := 25) hM rfl rfl rfl rfl rfl ?_
      refine e_iload_n (pc2 := 57) hM rfl rfl rfl ?_
      refine e_iald (pc2 := 58) (k := 24) (V := fun j3 => (h 24 j3)) hM rfl rfl rfl (fun _ => rfl) (fun j3 => ?_)
      refine e_aload_n (pc2 := 59) hM rfl rfl rfl ?_
      refine e_getfi (pc2 := 62) (k := 20) (v := (h 20 1)) hM rfl rfl rfl rfl rfl rfl ?_
      refine e_icmp_le (pc2 := 65) (tgt := 67) hM rfl rfl rfl ?_ ?_
      · refine e_iload_n (pc2 := 68) hM rfl rfl rfl ?_
        refine e_aload_n (pc2 := 69) hM rfl rfl rfl ?_
        refine e_getfr (pc2 := 72) (k := 20) (b := 8) hM rfl rfl rfl rfl rfl ?_
        refine e_iload_n (pc2 := 73) hM rfl rfl rfl ?_
        refine e_cvi (pc2 := 76) (k := 7) (As := [.ref 8, .int a0]) (rest := [.int (h 15 j1)]) hM rfl rfl rfl rfl rfl rfl rfl (fun x5 h4 => ?_)
        refine e_icmp_le (pc2 := 79) (tgt := 81) hM rfl rfl rfl ?_ ?_
        · refine e_aload_n (pc2 := 82) hM rfl rfl rfl ?_
          refine e_getfr (pc2 := 85) (k := 20) (b := 26) hM rfl rfl rfl rfl rfl ?_
          refine e_iload_n (pc2 := 86) hM rfl rfl rfl ?_
          refine e_iald (pc2 := 87) (k := 25) (V := fun j6 => (h4 25 j6)) hM rfl rfl rfl (fun _ => rfl) (fun j6 => ?_)
          refine e_if_ne (pc2 := 90) (tgt := 92) hM rfl rfl rfl ?_ ?_
          · refine e_aload_n (pc2 := 93) hM rfl rfl rfl ?_
            refine e_getfr (pc2 := 96) (k := 20) (b := 26) hM rfl rfl rfl rfl rfl ?_
            refine e_iload_n (pc2 := 97) hM rfl rfl rfl ?_
            refine e_iald (pc2 := 98) (k := 25) (V := fun j7 => (h4 25 j7)) hM rfl rfl rfl (fun _ => rfl) (fun j7 => ?_)
            refine e_aload_n (pc2 := 99) hM rfl rfl rfl ?_
            refine e_getfr (pc2 := 102) (k := 20) (b := 8) hM rfl rfl rfl rfl rfl ?_
            refine e_iload_n (pc2 := 103) hM rfl rfl rfl ?_
            refine e_cvi (pc2 := 106) (k := 7) (As := [.ref 8, .int a0]) (rest := [.int (h4 25 j7)]) hM rfl rfl rfl rfl rfl rfl rfl (fun x9 h8 => ?_)
            refine e_icmp_le (pc2 := 109) (tgt := 114) hM rfl rfl rfl ?_ ?_
            · refine e_iconst (pc2 := 115) (v := nI 0) hM rfl rfl rfl ?_
              exact e_iret hM rfl rfl
            · refine e_bipush (pc2 := 111) (v := nI 6) hM rfl rfl rfl rfl ?_
              refine e_goto (tgt := 115) hM rfl rfl ?_
              exact e_iret hM rfl rfl
          · refine e_iconst (pc2 := 91) (v := nI 5) hM rfl rfl rfl ?_
            exact e_iret hM rfl rfl
        · refine e_iconst (pc2 := 80) (v := nI 4) hM rfl rfl rfl ?_
          exact e_iret hM rfl rfl
      · refine e_iconst (pc2 := 66) (v := nI 3) hM rfl rfl rfl ?_
        exact e_iret hM rfl rfl
    · refine e_iload_n (pc2 := 40) hM rfl rfl rfl ?_
      refine e_if_eq (pc2 := 43) (tgt := 50) hM rfl rfl rfl ?_ ?_
      · refine e_iconst (pc2 := 51) (v := nI 2) hM rfl rfl rfl ?_
        exact e_iret hM rfl rfl
      · refine e_iload_n (pc2 := 44) hM rfl rfl rfl ?_
        refine e_sipush (pc2 := 47) (v := nI 500) hM rfl rfl rfl rfl ?_
        refine e_icmp_le (pc2 := 50) (tgt := 52) hM rfl rfl rfl ?_ ?_
        · refine e_aload_n (pc2 := 53) hM rfl rfl rfl ?_
          refine e_getfr (pc2 := 56) (k := 20) (b := 25) hM rfl rfl rfl rfl rfl ?_
          refine e_iload_n (pc2 := 57) hM rfl rfl rfl ?_
          refine e_iald (pc2 := 58) (k := 24) (V := fun j10 => (h 24 j10)) hM rfl rfl rfl (fun _ => rfl) (fun j10 => ?_)
          refine e_aload_n (pc2 := 59) hM rfl rfl rfl ?_
          refine e_getfi (pc2 := 62) (k := 20) (v := (h 20 1)) hM rfl rfl rfl rfl rfl rfl ?_
          refine e_icmp_le (pc2 := 65) (tgt := 67) hM rfl rfl rfl ?_ ?_
          · refine e_iload_n (pc2 := 68) hM rfl rfl rfl ?_
            refine e_aload_n (pc2 := 69) hM rfl rfl rfl ?_
            refine e_getfr (pc2 := 72) (k := 20) (b := 8) hM rfl rfl rfl rfl rfl ?_
            refine e_iload_n (pc2 := 73) hM rfl rfl rfl ?_
            refine e_cvi (pc2 := 76) (k := 7) (As := [.ref 8, .int a0]) (rest := [.int (h 15 j1)]) hM rfl rfl rfl rfl rfl rfl rfl (fun x12 h11 => ?_)
            refine e_icmp_le (pc2 := 79) (tgt := 81) hM rfl rfl rfl ?_ ?_
            · refine e_aload_n (pc2 := 82) hM rfl rfl rfl ?_
              refine e_getfr (pc2 := 85) (k := 20) (b := 26) hM rfl rfl rfl rfl rfl ?_
              refine e_iload_n (pc2 := 86) hM rfl rfl rfl ?_
              refine e_iald (pc2 := 87) (k := 25) (V := fun j13 => (h11 25 j13)) hM rfl rfl rfl (fun _ => rfl) (fun j13 => ?_)
              refine e_if_ne (pc2 := 90) (tgt := 92) hM rfl rfl rfl ?_ ?_
              · refine e_aload_n (pc2 := 93) hM rfl rfl rfl ?_
                refine e_getfr (pc2 := 96) (k := 20) (b := 26) hM rfl rfl rfl rfl rfl ?_
                refine e_iload_n (pc2 := 97) hM rfl rfl rfl ?_
                refine e_iald (pc2 := 98) (k := 25) (V := fun j14 => (h11 25 j14)) hM rfl rfl rfl (fun _ => rfl) (fun j14 => ?_)
                refine e_aload_n (pc2 := 99) hM rfl rfl rfl ?_
                refine e_getfr (pc2 := 102) (k := 20) (b := 8) hM rfl rfl rfl rfl rfl ?_
                refine e_iload_n (pc2 := 103) hM rfl rfl rfl ?_
                refine e_cvi (pc2 := 106) (k := 7) (As := [.ref 8, .int a0]) (rest := [.int (h11 25 j14)]) hM rfl rfl rfl rfl rfl rfl rfl (fun x16 h15 => ?_)
                refine e_icmp_le (pc2 := 109) (tgt := 114) hM rfl rfl rfl ?_ ?_
                · refine e_iconst (pc2 := 115) (v := nI 0) hM rfl rfl rfl ?_
                  exact e_iret hM rfl rfl
                · refine e_bipush (pc2 := 111) (v := nI 6) hM rfl rfl rfl rfl ?_
                  refine e_goto (tgt := 115) hM rfl rfl ?_
                  exact e_iret hM rfl rfl
              · refine e_iconst (pc2 := 91) (v := nI 5) hM rfl rfl rfl ?_
                exact e_iret hM rfl rfl
            · refine e_iconst (pc2 := 80) (v := nI 4) hM rfl rfl rfl ?_
              exact e_iret hM rfl rfl
          · refine e_iconst (pc2 := 66) (v := nI 3) hM rfl rfl rfl ?_
            exact e_iret hM rfl rfl
        · refine e_iconst (pc2 := 51) (v := nI 2) hM rfl rfl rfl ?_
          exact e_iret hM rfl rfl
  · refine e_aload_n (pc2 := 15) hM rfl rfl rfl ?_
    refine e_getfr (pc2 := 18) (k := 20) (b := 24) hM rfl rfl rfl rfl rfl ?_
    refine e_iload_n (pc2 := 19) hM rfl rfl rfl ?_
    refine e_iald (pc2 := 20) (k := 23) (V := fun j17 => (h 23 j17)) hM rfl rfl rfl (fun _ => rfl) (fun j17 => ?_)
    refine e_iload_n (pc2 := 21) hM rfl rfl rfl ?_
    refine e_icmp_le (pc2 := 24) (tgt := 26) hM rfl rfl rfl ?_ ?_
    · refine e_aload_n (pc2 := 27) hM rfl rfl rfl ?_
      refine e_getfr (pc2 := 30) (k := 20) (b := 8) hM rfl rfl rfl rfl rfl ?_
      refine e_getfr (pc2 := 33) (k := 7) (b := 9) hM rfl rfl rfl rfl rfl ?_
      refine e_iload_n (pc2 := 34) hM rfl rfl rfl ?_
      refine e_iald (pc2 := 35) (k := 8) (V := fun j18 => (h 8 j18)) hM rfl rfl rfl (fun _ => rfl) (fun j18 => ?_)
      refine e_iconst (pc2 := 36) (v := nI 1) hM rfl rfl rfl ?_
      refine e_icmp_ne (pc2 := 39) (tgt := 52) hM rfl rfl rfl ?_ ?_
      · refine e_aload_n (pc2 := 53) hM rfl rfl rfl ?_
        refine e_getfr (pc2 := 56) (k := 20) (b := 25) hM rfl rfl rfl rfl rfl ?_
        refine e_iload_n (pc2 := 57) hM rfl rfl rfl ?_
        refine e_iald (pc2 := 58) (k := 24) (V := fun j19 => (h 24 j19)) hM rfl rfl rfl (fun _ => rfl) (fun j19 => ?_)
        refine e_aload_n (pc2 := 59) hM rfl rfl rfl ?_
        refine e_getfi (pc2 := 62) (k := 20) (v := (h 20 1)) hM rfl rfl rfl rfl rfl rfl ?_
        refine e_icmp_le (pc2 := 65) (tgt := 67) hM rfl rfl rfl ?_ ?_
        · refine e_iload_n (pc2 := 68) hM rfl rfl rfl ?_
          refine e_aload_n (pc2 := 69) hM rfl rfl rfl ?_
          refine e_getfr (pc2 := 72) (k := 20) (b := 8) hM rfl rfl rfl rfl rfl ?_
          refine e_iload_n (pc2 := 73) hM rfl rfl rfl ?_
          refine e_cvi (pc2 := 76) (k := 7) (As := [.ref 8, .int a0]) (rest := [.int (h 15 j1)]) hM rfl rfl rfl rfl rfl rfl rfl (fun x21 h20 => ?_)
          refine e_icmp_le (pc2 := 79) (tgt := 81) hM rfl rfl rfl ?_ ?_
          · refine e_aload_n (pc2 := 82) hM rfl rfl rfl ?_
            refine e_getfr (pc2 := 85) (k := 20) (b := 26) hM rfl rfl rfl rfl rfl ?_
            refine e_iload_n (pc2 := 86) hM rfl rfl rfl ?_
            refine e_iald (pc2 := 87) (k := 25) (V := fun j22 => (h20 25 j22)) hM rfl rfl rfl (fun _ => rfl) (fun j22 => ?_)
            refine e_if_ne (pc2 := 90) (tgt := 92) hM rfl rfl rfl ?_ ?_
            · refine e_aload_n (pc2 := 93) hM rfl rfl rfl ?_
              refine e_getfr (pc2 := 96) (k := 20) (b := 26) hM rfl rfl rfl rfl rfl ?_
              refine e_iload_n (pc2 := 97) hM rfl rfl rfl ?_
              refine e_iald (pc2 := 98) (k := 25) (V := fun j23 => (h20 25 j23)) hM rfl rfl rfl (fun _ => rfl) (fun j23 => ?_)
              refine e_aload_n (pc2 := 99) hM rfl rfl rfl ?_
              refine e_getfr (pc2 := 102) (k := 20) (b := 8) hM rfl rfl rfl rfl rfl ?_
              refine e_iload_n (pc2 := 103) hM rfl rfl rfl ?_
              refine e_cvi (pc2 := 106) (k := 7) (As := [.ref 8, .int a0]) (rest := [.int (h20 25 j23)]) hM rfl rfl rfl rfl rfl rfl rfl (fun x25 h24 => ?_)
              refine e_icmp_le (pc2 := 109) (tgt := 114) hM rfl rfl rfl ?_ ?_
              · refine e_iconst (pc2 := 115) (v := nI 0) hM rfl rfl rfl ?_
                exact e_iret hM rfl rfl
              · refine e_bipush (pc2 := 111) (v := nI 6) hM rfl rfl rfl rfl ?_
                refine e_goto (tgt := 115) hM rfl rfl ?_
                exact e_iret hM rfl rfl
            · refine e_iconst (pc2 := 91) (v := nI 5) hM rfl rfl rfl ?_
              exact e_iret hM rfl rfl
          · refine e_iconst (pc2 := 80) (v := nI 4) hM rfl rfl rfl ?_
            exact e_iret hM rfl rfl
        · refine e_iconst (pc2 := 66) (v := nI 3) hM rfl rfl rfl ?_
          exact e_iret hM rfl rfl
      · refine e_iload_n (pc2 := 40) hM rfl rfl rfl ?_
        refine e_if_eq (pc2 := 43) (tgt := 50) hM rfl rfl rfl ?_ ?_
        · refine e_iconst (pc2 := 51) (v := nI 2) hM rfl rfl rfl ?_
          exact e_iret hM rfl rfl
        · refine e_iload_n (pc2 := 44) hM rfl rfl rfl ?_
          refine e_sipush (pc2 := 47) (v := nI 500) hM rfl rfl rfl rfl ?_
          refine e_icmp_le (pc2 := 50) (tgt := 52) hM rfl rfl rfl ?_ ?_
          · refine e_aload_n (pc2 := 53) hM rfl rfl rfl ?_
            refine e_getfr (pc2 := 56) (k := 20) (b := 25) hM rfl rfl rfl rfl rfl ?_
            refine e_iload_n (pc2 := 57) hM rfl rfl rfl ?_
            refine e_iald (pc2 := 58) (k := 24) (V := fun j26 => (h 24 j26)) hM rfl rfl rfl (fun _ => rfl) (fun j26 => ?_)
            refine e_aload_n (pc2 := 59) hM rfl rfl rfl ?_
            refine e_getfi (pc2 := 62) (k := 20) (v := (h 20 1)) hM rfl rfl rfl rfl rfl rfl ?_
            refine e_icmp_le (pc2 := 65) (tgt := 67) hM rfl rfl rfl ?_ ?_
            · refine e_iload_n (pc2 := 68) hM rfl rfl rfl ?_
              refine e_aload_n (pc2 := 69) hM rfl rfl rfl ?_
              refine e_getfr (pc2 := 72) (k := 20) (b := 8) hM rfl rfl rfl rfl rfl ?_
              refine e_iload_n (pc2 := 73) hM rfl rfl rfl ?_
              refine e_cvi (pc2 := 76) (k := 7) (As := [.ref 8, .int a0]) (rest := [.int (h 15 j1)]) hM rfl rfl rfl rfl rfl rfl rfl (fun x28 h27 => ?_)
              refine e_icmp_le (pc2 := 79) (tgt := 81) hM rfl rfl rfl ?_ ?_
              · refine e_aload_n (pc2 := 82) hM rfl rfl rfl ?_
                refine e_getfr (pc2 := 85) (k := 20) (b := 26) hM rfl rfl rfl rfl rfl ?_
                refine e_iload_n (pc2 := 86) hM rfl rfl rfl ?_
                refine e_iald (pc2 := 87) (k := 25) (V := fun j29 => (h27 25 j29)) hM rfl rfl rfl (fun _ => rfl) (fun j29 => ?_)
                refine e_if_ne (pc2 := 90) (tgt := 92) hM rfl rfl rfl ?_ ?_
                · refine e_aload_n (pc2 := 93) hM rfl rfl rfl ?_
                  refine e_getfr (pc2 := 96) (k := 20) (b := 26) hM rfl rfl rfl rfl rfl ?_
                  refine e_iload_n (pc2 := 97) hM rfl rfl rfl ?_
                  refine e_iald (pc2 := 98) (k := 25) (V := fun j30 => (h27 25 j30)) hM rfl rfl rfl (fun _ => rfl) (fun j30 => ?_)
                  refine e_aload_n (pc2 := 99) hM rfl rfl rfl ?_
                  refine e_getfr (pc2 := 102) (k := 20) (b := 8) hM rfl rfl rfl rfl rfl ?_
                  refine e_iload_n (pc2 := 103) hM rfl rfl rfl ?_
                  refine e_cvi (pc2 := 106) (k := 7) (As := [.ref 8, .int a0]) (rest := [.int (h27 25 j30)]) hM rfl rfl rfl rfl rfl rfl rfl (fun x32 h31 => ?_)
                  refine e_icmp_le (pc2 := 109) (tgt := 114) hM rfl rfl rfl ?_ ?_
                  · refine e_iconst (pc2 := 115) (v := nI 0) hM rfl rfl rfl ?_
                    exact e_iret hM rfl rfl
                  · refine e_bipush (pc2 := 111) (v := nI 6) hM rfl rfl rfl rfl ?_
                    refine e_goto (tgt := 115) hM rfl rfl ?_
                    exact e_iret hM rfl rfl
                · refine e_iconst (pc2 := 91) (v := nI 5) hM rfl rfl rfl ?_
                  exact e_iret hM rfl rfl
              · refine e_iconst (pc2 := 80) (v := nI 4) hM rfl rfl rfl ?_
                exact e_iret hM rfl rfl
            · refine e_iconst (pc2 := 66) (v := nI 3) hM rfl rfl rfl ?_
              exact e_iret hM rfl rfl
          · refine e_iconst (pc2 := 51) (v := nI 2) hM rfl rfl rfl ?_
            exact e_iret hM rfl rfl
    · refine e_iconst (pc2 := 25) (v := nI 1) hM rfl rfl rfl ?_
      exact e_iret hM rfl rfl
theorem qX1_blowFuses_0 {sl : Nat} {xs : Nat → Int32} {d : Nat} {h : pmH} : pm_cf (pm_Ev sl xs) (d + 2) 10 [.ref 21] (SH, h) = pm_Ev sl xs (d + 1) 10 4 [some (.ref 21), some (.int (nI 0)), some (.int (nI 0)), none] [] (SH, h) := by
  have hM : pm_mt 10 = some mt_10 := rfl
  refine e_call (L := [some (.ref 21), none, none, none]) hM rfl rfl ?_
  refine e_iconst (pc2 := 1) (v := nI 0) hM rfl rfl rfl ?_
  refine e_istore_n (pc2 := 2) (L2 := [some (.ref 21), some (.int (nI 0)), none, none]) hM rfl rfl rfl rfl ?_
  refine e_iconst (pc2 := 3) (v := nI 0) hM rfl rfl rfl ?_
  refine e_istore_n (pc2 := 4) (L2 := [some (.ref 21), some (.int (nI 0)), some (.int (nI 0)), none]) hM rfl rfl rfl rfl ?_
  exact rfl
theorem qX1_blowFuses_4 {sl : Nat} {xs : Nat → Int32} {d : Nat} {b1 b2 : Int32} {o3 : Option Value} {h : pmH} : pm_Ev sl xs (d + 1) 10 4 [some (.ref 21), some (.int b1), some (.int b2), o3] [] (SH, h) = if (nI 24) ≤ b2 then (some (some (.int b1), (SH, h))) else (pm_rv (pm_cf (pm_Ev sl xs) (d + 1) 5 [.ref 21] (SH, h)) SH fun h1 => pm_ri (pm_cf (pm_Ev sl xs) (d + 1) 11 [.ref 21] (SH, h1)) SH fun x3 h2 => if 0 ≤ x3 then (pm_rv (pm_cf (pm_Ev sl xs) (d + 1) 49 [.ref 8, .int x3] (SH, h2)) SH fun h4 => pm_Ev sl xs (d + 1) 10 4 [some (.ref 21), some (.int (b1 + (nI 1))), some (.int (b2 + (nI 1))), some (.int x3)] [] (SH, h4)) else (some (some (.int b1), (SH, h2)))) := by
  have hM : pm_mt 10 = some mt_10 := rfl
  refine e_iload_n (pc2 := 5) hM rfl rfl rfl ?_
  refine e_bipush (pc2 := 7) (v := nI 24) hM rfl rfl rfl rfl ?_
  refine e_icmp_ge (pc2 := 10) (tgt := 43) hM rfl rfl rfl ?_ ?_
  · refine e_iload_n (pc2 := 44) hM rfl rfl rfl ?_
    exact e_iret hM rfl rfl
  · refine e_aload_n (pc2 := 11) hM rfl rfl rfl ?_
    refine e_cvv (pc2 := 14) (k := 20) (As := [.ref 21]) (rest := []) hM rfl rfl rfl rfl rfl rfl rfl (fun h1 => ?_)
    refine e_aload_n (pc2 := 15) hM rfl rfl rfl ?_
    refine e_cvi (pc2 := 18) (k := 20) (As := [.ref 21]) (rest := []) hM rfl rfl rfl rfl rfl rfl rfl (fun x3 h2 => ?_)
    refine e_istore_n (pc2 := 19) (L2 := [some (.ref 21), some (.int b1), some (.int b2), some (.int x3)]) hM rfl rfl rfl rfl ?_
    refine e_iload_n (pc2 := 20) hM rfl rfl rfl ?_
    refine e_if_ge (pc2 := 23) (tgt := 26) hM rfl rfl rfl ?_ ?_
    · refine e_aload_n (pc2 := 27) hM rfl rfl rfl ?_
      refine e_getfr (pc2 := 30) (k := 20) (b := 8) hM rfl rfl rfl rfl rfl ?_
      refine e_iload_n (pc2 := 31) hM rfl rfl rfl ?_
      refine e_cvv (pc2 := 34) (k := 7) (As := [.ref 8, .int x3]) (rest := []) hM rfl rfl rfl rfl rfl rfl rfl (fun h4 => ?_)
      refine e_iinc (pc2 := 37) (v := nI 1) (L2 := [some (.ref 21), some (.int (b1 + (nI 1))), some (.int b2), some (.int x3)]) hM rfl rfl rfl rfl rfl ?_
      refine e_iinc (pc2 := 40) (v := nI 1) (L2 := [some (.ref 21), some (.int (b1 + (nI 1))), some (.int (b2 + (nI 1))), some (.int x3)]) hM rfl rfl rfl rfl rfl ?_
      refine e_goto (tgt := 4) hM rfl rfl ?_
      exact rfl
    · refine e_goto (tgt := 43) hM rfl rfl ?_
      refine e_iload_n (pc2 := 44) hM rfl rfl rfl ?_
      exact e_iret hM rfl rfl
theorem qX1_lastOverloaded_0 {sl : Nat} {xs : Nat → Int32} {d : Nat} {h : pmH} : pm_cf (pm_Ev sl xs) (d + 1) 11 [.ref 21] (SH, h) = pm_Ev sl xs d 11 10 [some (.ref 21), some (.int ((h 7 0) - (nI 1)))] [] (SH, h) := by
  have hM : pm_mt 11 = some mt_11 := rfl
  refine e_call (L := [some (.ref 21), none]) hM rfl rfl ?_
  refine e_aload_n (pc2 := 1) hM rfl rfl rfl ?_
  refine e_getfr (pc2 := 4) (k := 20) (b := 8) hM rfl rfl rfl rfl rfl ?_
  refine e_getfi (pc2 := 7) (k := 7) (v := (h 7 0)) hM rfl rfl rfl rfl rfl rfl ?_
  refine e_iconst (pc2 := 8) (v := nI 1) hM rfl rfl rfl ?_
  refine e_isub (pc2 := 9) hM rfl rfl ?_
  refine e_istore_n (pc2 := 10) (L2 := [some (.ref 21), some (.int ((h 7 0) - (nI 1)))]) hM rfl rfl rfl rfl ?_
  exact rfl
theorem qX1_lastOverloaded_10 {sl : Nat} {xs : Nat → Int32} {d : Nat} {b1 : Int32} {h : pmH} : pm_Ev sl xs d 11 10 [some (.ref 21), some (.int b1)] [] (SH, h) = if b1 < 0 then (some (some (.int (-nI 1)), (SH, h))) else (pm_ix none b1 24 fun j1 => if (h 15 j1) ≤ 0 then (pm_Ev sl xs d 11 10 [some (.ref 21), some (.int (b1 + (-nI 1)))] [] (SH, h)) else (pm_ix none b1 24 fun j2 => pm_ix none b1 24 fun j3 => if (h 22 j3) ≤ (h 15 j2) then (pm_Ev sl xs d 11 10 [some (.ref 21), some (.int (b1 + (-nI 1)))] [] (SH, h)) else (some (some (.int b1), (SH, h))))) := by
  have hM : pm_mt 11 = some mt_11 := rfl
  refine e_iload_n (pc2 := 11) hM rfl rfl rfl ?_
  refine e_if_lt (pc2 := 14) (tgt := 52) hM rfl rfl rfl ?_ ?_
  · refine e_iconst (pc2 := 53) (v := -nI 1) hM rfl rfl rfl ?_
    exact e_iret hM rfl rfl
  · refine e_aload_n (pc2 := 15) hM rfl rfl rfl ?_
    refine e_getfr (pc2 := 18) (k := 20) (b := 8) hM rfl rfl rfl rfl rfl ?_
    refine e_getfr (pc2 := 21) (k := 7) (b := 16) hM rfl rfl rfl rfl rfl ?_
    refine e_iload_n (pc2 := 22) hM rfl rfl rfl ?_
    refine e_iald (pc2 := 23) (k := 15) (V := fun j1 => (h 15 j1)) hM rfl rfl rfl (fun _ => rfl) (fun j1 => ?_)
    refine e_if_le (pc2 := 26) (tgt := 46) hM rfl rfl rfl ?_ ?_
    · refine e_iinc (pc2 := 49) (v := -nI 1) (L2 := [some (.ref 21), some (.int (b1 + (-nI 1)))]) hM rfl rfl rfl rfl rfl ?_
      refine e_goto (tgt := 10) hM rfl rfl ?_
      exact rfl
    · refine e_aload_n (pc2 := 27) hM rfl rfl rfl ?_
      refine e_getfr (pc2 := 30) (k := 20) (b := 8) hM rfl rfl rfl rfl rfl ?_
      refine e_getfr (pc2 := 33) (k := 7) (b := 16) hM rfl rfl rfl rfl rfl ?_
      refine e_iload_n (pc2 := 34) hM rfl rfl rfl ?_
      refine e_iald (pc2 := 35) (k := 15) (V := fun j2 => (h 15 j2)) hM rfl rfl rfl (fun _ => rfl) (fun j2 => ?_)
      refine e_aload_n (pc2 := 36) hM rfl rfl rfl ?_
      refine e_getfr (pc2 := 39) (k := 20) (b := 23) hM rfl rfl rfl rfl rfl ?_
      refine e_iload_n (pc2 := 40) hM rfl rfl rfl ?_
      refine e_iald (pc2 := 41) (k := 22) (V := fun j3 => (h 22 j3)) hM rfl rfl rfl (fun _ => rfl) (fun j3 => ?_)
      refine e_icmp_ge (pc2 := 44) (tgt := 46) hM rfl rfl rfl ?_ ?_
      · refine e_iinc (pc2 := 49) (v := -nI 1) (L2 := [some (.ref 21), some (.int (b1 + (-nI 1)))]) hM rfl rfl rfl rfl rfl ?_
        refine e_goto (tgt := 10) hM rfl rfl ?_
        exact rfl
      · refine e_iload_n (pc2 := 45) hM rfl rfl rfl ?_
        exact e_iret hM rfl rfl
theorem qX2_has_0 {sl : Nat} {xs : Nat → Int32} {d : Nat} {a0 : Int32} {h : pmH} : pm_cf (pm_Ev sl xs) (d + 1) 13 [.ref 3, .int a0] (SH, h) = if a0 < 0 then (some (some (.int (nI 0)), (SH, h))) else (if (h 2 0) ≤ a0 then (some (some (.int (nI 0)), (SH, h))) else (some (some (.int (nI 1)), (SH, h)))) := by
  have hM : pm_mt 13 = some mt_13 := rfl
  refine e_call (L := [some (.ref 3), some (.int a0)]) hM rfl rfl ?_
  refine e_iload_n (pc2 := 1) hM rfl rfl rfl ?_
  refine e_if_lt (pc2 := 4) (tgt := 16) hM rfl rfl rfl ?_ ?_
  · refine e_iconst (pc2 := 17) (v := nI 0) hM rfl rfl rfl ?_
    exact e_zret hM rfl rfl pm_01a
  · refine e_iload_n (pc2 := 5) hM rfl rfl rfl ?_
    refine e_aload_n (pc2 := 6) hM rfl rfl rfl ?_
    refine e_getfi (pc2 := 9) (k := 2) (v := (h 2 0)) hM rfl rfl rfl rfl rfl rfl ?_
    refine e_icmp_ge (pc2 := 12) (tgt := 16) hM rfl rfl rfl ?_ ?_
    · refine e_iconst (pc2 := 17) (v := nI 0) hM rfl rfl rfl ?_
      exact e_zret hM rfl rfl pm_01a
    · refine e_iconst (pc2 := 13) (v := nI 1) hM rfl rfl rfl ?_
      refine e_goto (tgt := 17) hM rfl rfl ?_
      exact e_zret hM rfl rfl pm_01b
theorem qX2_add_0 {sl : Nat} {xs : Nat → Int32} {d : Nat} {a0 : Int32} {h : pmH} : pm_cf (pm_Ev sl xs) (d + 1) 14 [.ref 3, .int a0] (SH, h) = pm_ix none (h 2 0) 12 fun j1 => pm_ix none (h 2 0) 12 fun j2 => some (some (.int (h 2 0)), (SH, (pm_up (pm_up (pm_up h 3 j1 a0) 4 j2 a0) 2 0 ((h 2 0) + (nI 1))))) := by
  have hM : pm_mt 14 = some mt_14 := rfl
  refine e_call (L := [some (.ref 3), some (.int a0), none]) hM rfl rfl ?_
  refine e_aload_n (pc2 := 1) hM rfl rfl rfl ?_
  refine e_getfi (pc2 := 4) (k := 2) (v := (h 2 0)) hM rfl rfl rfl rfl rfl rfl ?_
  refine e_istore_n (pc2 := 5) (L2 := [some (.ref 3), some (.int a0), some (.int (h 2 0))]) hM rfl rfl rfl rfl ?_
  refine e_aload_n (pc2 := 6) hM rfl rfl rfl ?_
  refine e_getfr (pc2 := 9) (k := 2) (b := 4) hM rfl rfl rfl rfl rfl ?_
  refine e_iload_n (pc2 := 10) hM rfl rfl rfl ?_
  refine e_iload_n (pc2 := 11) hM rfl rfl rfl ?_
  refine e_iast (pc2 := 12) (k := 3) hM rfl rfl rfl (fun j1 => ?_)
  refine e_aload_n (pc2 := 13) hM rfl rfl rfl ?_
  refine e_getfr (pc2 := 16) (k := 2) (b := 5) hM rfl rfl rfl rfl rfl ?_
  refine e_iload_n (pc2 := 17) hM rfl rfl rfl ?_
  refine e_iload_n (pc2 := 18) hM rfl rfl rfl ?_
  refine e_iast (pc2 := 19) (k := 4) hM rfl rfl rfl (fun j2 => ?_)
  refine e_aload_n (pc2 := 20) hM rfl rfl rfl ?_
  refine e_dup (pc2 := 21) hM rfl rfl rfl ?_
  refine e_getfi (pc2 := 24) (k := 2) (v := (h 2 0)) hM rfl rfl rfl rfl rfl rfl ?_
  refine e_iconst (pc2 := 25) (v := nI 1) hM rfl rfl rfl ?_
  refine e_iadd (pc2 := 26) hM rfl rfl ?_
  refine e_putf (pc2 := 29) (k := 2) hM rfl rfl rfl rfl rfl rfl ?_
  refine e_iload_n (pc2 := 30) hM rfl rfl rfl ?_
  exact e_iret hM rfl rfl
theorem qX2_allLeft_0 {sl : Nat} {xs : Nat → Int32} {d : Nat} {h : pmH} : pm_cf (pm_Ev sl xs) (d + 1) 15 [.ref 3] (SH, h) = pm_Ev sl xs d 15 4 [some (.ref 3), some (.int (nI 0)), some (.int (nI 0))] [] (SH, h) := by
  have hM : pm_mt 15 = some mt_15 := rfl
  refine e_call (L := [some (.ref 3), none, none]) hM rfl rfl ?_
  refine e_iconst (pc2 := 1) (v := nI 0) hM rfl rfl rfl ?_
  refine e_istore_n (pc2 := 2) (L2 := [some (.ref 3), some (.int (nI 0)), none]) hM rfl rfl rfl rfl ?_
  refine e_iconst (pc2 := 3) (v := nI 0) hM rfl rfl rfl ?_
  refine e_istore_n (pc2 := 4) (L2 := [some (.ref 3), some (.int (nI 0)), some (.int (nI 0))]) hM rfl rfl rfl rfl ?_
  exact rfl
theorem qX2_allLeft_4 {sl : Nat} {xs : Nat → Int32} {d : Nat} {b1 b2 : Int32} {h : pmH} : pm_Ev sl xs d 15 4 [some (.ref 3), some (.int b1), some (.int b2)] [] (SH, h) = if (h 2 0) ≤ b2 then (some (some (.int b1), (SH, h))) else (pm_ix none b2 12 fun j1 => pm_Ev sl xs d 15 4 [some (.ref 3), some (.int (b1 + (h 4 j1))), some (.int (b2 + (nI 1)))] [] (SH, h)) := by
  have hM : pm_mt 15 = some mt_15 := rfl
  refine e_iload_n (pc2 := 5) hM rfl rfl rfl ?_
  refine e_aload_n (pc2 := 6) hM rfl rfl rfl ?_
  refine e_getfi (pc2 := 9) (k := 2) (v := (h 2 0)) hM rfl rfl rfl rfl rfl rfl ?_
  refine e_icmp_ge (pc2 := 12) (tgt := 27) hM rfl rfl rfl ?_ ?_
  · refine e_iload_n (pc2 := 28) hM rfl rfl rfl ?_
    exact e_iret hM rfl rfl
  · refine e_iload_n (pc2 := 13) hM rfl rfl rfl ?_
    refine e_aload_n (pc2 := 14) hM rfl rfl rfl ?_
    refine e_getfr (pc2 := 17) (k := 2) (b := 5) hM rfl rfl rfl rfl rfl ?_
    refine e_iload_n (pc2 := 18) hM rfl rfl rfl ?_
    refine e_iald (pc2 := 19) (k := 4) (V := fun j1 => (h 4 j1)) hM rfl rfl rfl (fun _ => rfl) (fun j1 => ?_)
    refine e_iadd (pc2 := 20) hM rfl rfl ?_
    refine e_istore_n (pc2 := 21) (L2 := [some (.ref 3), some (.int (b1 + (h 4 j1))), some (.int b2)]) hM rfl rfl rfl rfl ?_
    refine e_iinc (pc2 := 24) (v := nI 1) (L2 := [some (.ref 3), some (.int (b1 + (h 4 j1))), some (.int (b2 + (nI 1)))]) hM rfl rfl rfl rfl rfl ?_
    refine e_goto (tgt := 4) hM rfl rfl ?_
    exact rfl
theorem qX2_take_0 {sl : Nat} {xs : Nat → Int32} {d : Nat} {h : pmH} : pm_cf (pm_Ev sl xs) (d + 1) 16 [.ref 3] (SH, h) = pm_Ev sl xs d 16 2 [some (.ref 3), some (.int (nI 0))] [] (SH, h) := by
  have hM : pm_mt 16 = some mt_16 := rfl
  refine e_call (L := [some (.ref 3), none]) hM rfl rfl ?_
  refine e_iconst (pc2 := 1) (v := nI 0) hM rfl rfl rfl ?_
  refine e_istore_n (pc2 := 2) (L2 := [some (.ref 3), some (.int (nI 0))]) hM rfl rfl rfl rfl ?_
  exact rfl
theorem qX2_take_2 {sl : Nat} {xs : Nat → Int32} {d : Nat} {b1 : Int32} {h : pmH} : pm_Ev sl xs d 16 2 [some (.ref 3), some (.int b1)] [] (SH, h) = if (h 2 0) ≤ b1 then (some (some (.int (-nI 1)), (SH, h))) else (pm_ix none b1 12 fun j1 => if (h 4 j1) ≤ 0 then (pm_Ev sl xs d 16 2 [some (.ref 3), some (.int (b1 + (nI 1)))] [] (SH, h)) else (pm_ix none b1 12 fun j2 => pm_ix none b1 12 fun j3 => pm_ix none b1 12 fun j4 => pm_ix none b1 12 fun j5 => some (some (.int b1), (SH, (pm_up (pm_up h 4 j3 ((h 4 j2) - (nI 1))) 6 j5 ((h 6 j4) + (nI 1))))))) := by
  have hM : pm_mt 16 = some mt_16 := rfl
  refine e_iload_n (pc2 := 3) hM rfl rfl rfl ?_
  refine e_aload_n (pc2 := 4) hM rfl rfl rfl ?_
  refine e_getfi (pc2 := 7) (k := 2) (v := (h 2 0)) hM rfl rfl rfl rfl rfl rfl ?_
  refine e_icmp_ge (pc2 := 10) (tgt := 47) hM rfl rfl rfl ?_ ?_
  · refine e_iconst (pc2 := 48) (v := -nI 1) hM rfl rfl rfl ?_
    exact e_iret hM rfl rfl
  · refine e_aload_n (pc2 := 11) hM rfl rfl rfl ?_
    refine e_getfr (pc2 := 14) (k := 2) (b := 5) hM rfl rfl rfl rfl rfl ?_
    refine e_iload_n (pc2 := 15) hM rfl rfl rfl ?_
    refine e_iald (pc2 := 16) (k := 4) (V := fun j1 => (h 4 j1)) hM rfl rfl rfl (fun _ => rfl) (fun j1 => ?_)
    refine e_if_le (pc2 := 19) (tgt := 41) hM rfl rfl rfl ?_ ?_
    · refine e_iinc (pc2 := 44) (v := nI 1) (L2 := [some (.ref 3), some (.int (b1 + (nI 1)))]) hM rfl rfl rfl rfl rfl ?_
      refine e_goto (tgt := 2) hM rfl rfl ?_
      exact rfl
    · refine e_aload_n (pc2 := 20) hM rfl rfl rfl ?_
      refine e_getfr (pc2 := 23) (k := 2) (b := 5) hM rfl rfl rfl rfl rfl ?_
      refine e_iload_n (pc2 := 24) hM rfl rfl rfl ?_
      refine e_dup2 (pc2 := 25) hM rfl rfl rfl rfl ?_
      refine e_iald (pc2 := 26) (k := 4) (V := fun j2 => (h 4 j2)) hM rfl rfl rfl (fun _ => rfl) (fun j2 => ?_)
      refine e_iconst (pc2 := 27) (v := nI 1) hM rfl rfl rfl ?_
      refine e_isub (pc2 := 28) hM rfl rfl ?_
      refine e_iast (pc2 := 29) (k := 4) hM rfl rfl rfl (fun j3 => ?_)
      refine e_aload_n (pc2 := 30) hM rfl rfl rfl ?_
      refine e_getfr (pc2 := 33) (k := 2) (b := 7) hM rfl rfl rfl rfl rfl ?_
      refine e_iload_n (pc2 := 34) hM rfl rfl rfl ?_
      refine e_dup2 (pc2 := 35) hM rfl rfl rfl rfl ?_
      refine e_iald (pc2 := 36) (k := 6) (V := fun j4 => (h 6 j4)) hM rfl rfl rfl (fun _ => rfl) (fun j4 => ?_)
      refine e_iconst (pc2 := 37) (v := nI 1) hM rfl rfl rfl ?_
      refine e_iadd (pc2 := 38) hM rfl rfl ?_
      refine e_iast (pc2 := 39) (k := 6) hM rfl rfl rfl (fun j5 => ?_)
      refine e_iload_n (pc2 := 40) hM rfl rfl rfl ?_
      exact e_iret hM rfl rfl
theorem qX2_spoil_0 {sl : Nat} {xs : Nat → Int32} {d : Nat} {a0 : Int32} {h : pmH} : pm_cf (pm_Ev sl xs) (d + 2) 17 [.ref 3, .int a0] (SH, h) = pm_ri (pm_cf (pm_Ev sl xs) (d + 1) 13 [.ref 3, .int a0] (SH, h)) SH fun x2 h1 => if x2 = 0 then (some (none, (SH, h1))) else (pm_ix none a0 12 fun j3 => pm_ix none a0 12 fun j4 => pm_ix none a0 12 fun j5 => pm_ix none a0 12 fun j6 => some (none, (SH, (pm_up (pm_up h1 6 j4 ((h1 6 j3) - (nI 1))) 5 j6 ((h1 5 j5) + (nI 1)))))) := by
  have hM : pm_mt 17 = some mt_17 := rfl
  refine e_call (L := [some (.ref 3), some (.int a0)]) hM rfl rfl ?_
  refine e_aload_n (pc2 := 1) hM rfl rfl rfl ?_
  refine e_iload_n (pc2 := 2) hM rfl rfl rfl ?_
  refine e_cvi (pc2 := 5) (k := 2) (As := [.ref 3, .int a0]) (rest := []) hM rfl rfl rfl rfl rfl rfl rfl (fun x2 h1 => ?_)
  refine e_if_eq (pc2 := 8) (tgt := 28) hM rfl rfl rfl ?_ ?_
  · exact e_ret hM rfl rfl
  · refine e_aload_n (pc2 := 9) hM rfl rfl rfl ?_
    refine e_getfr (pc2 := 12) (k := 2) (b := 7) hM rfl rfl rfl rfl rfl ?_
    refine e_iload_n (pc2 := 13) hM rfl rfl rfl ?_
    refine e_dup2 (pc2 := 14) hM rfl rfl rfl rfl ?_
    refine e_iald (pc2 := 15) (k := 6) (V := fun j3 => (h1 6 j3)) hM rfl rfl rfl (fun _ => rfl) (fun j3 => ?_)
    refine e_iconst (pc2 := 16) (v := nI 1) hM rfl rfl rfl ?_
    refine e_isub (pc2 := 17) hM rfl rfl ?_
    refine e_iast (pc2 := 18) (k := 6) hM rfl rfl rfl (fun j4 => ?_)
    refine e_aload_n (pc2 := 19) hM rfl rfl rfl ?_
    refine e_getfr (pc2 := 22) (k := 2) (b := 6) hM rfl rfl rfl rfl rfl ?_
    refine e_iload_n (pc2 := 23) hM rfl rfl rfl ?_
    refine e_dup2 (pc2 := 24) hM rfl rfl rfl rfl ?_
    refine e_iald (pc2 := 25) (k := 5) (V := fun j5 => (h1 5 j5)) hM rfl rfl rfl (fun _ => rfl) (fun j5 => ?_)
    refine e_iconst (pc2 := 26) (v := nI 1) hM rfl rfl rfl ?_
    refine e_iadd (pc2 := 27) hM rfl rfl ?_
    refine e_iast (pc2 := 28) (k := 5) hM rfl rfl rfl (fun j6 => ?_)
    exact e_ret hM rfl rfl
theorem qX3_search_0 {sl : Nat} {xs : Nat → Int32} {d : Nat} {h : pmH} : pm_cf (pm_Ev sl xs) (d + 2) 19 [.ref 27] (SH, h) = pm_rv (pm_cf (pm_Ev sl xs) (d + 1) 5 [.ref 21] (SH, h)) SH fun h1 => pm_rv (pm_cf (pm_Ev sl xs) (d + 1) 151 [.ref 28, .int (nI 0)] (SH, h1)) SH fun h2 => pm_Ev sl xs (d + 1) 19 30 [some (.ref 27), some (.int ((h2 7 0) - (nI 1))), none, none] [] (SH, (pm_up h2 26 3 (nI 0))) := by
  have hM : pm_mt 19 = some mt_19 := rfl
  refine e_call (L := [some (.ref 27), none, none, none]) hM rfl rfl ?_
  refine e_aload_n (pc2 := 1) hM rfl rfl rfl ?_
  refine e_getfr (pc2 := 4) (k := 26) (b := 21) hM rfl rfl rfl rfl rfl ?_
  refine e_cvv (pc2 := 7) (k := 20) (As := [.ref 21]) (rest := []) hM rfl rfl rfl rfl rfl rfl rfl (fun h1 => ?_)
  refine e_aload_n (pc2 := 8) hM rfl rfl rfl ?_
  refine e_getfr (pc2 := 11) (k := 26) (b := 28) hM rfl rfl rfl rfl rfl ?_
  refine e_iconst (pc2 := 12) (v := nI 0) hM rfl rfl rfl ?_
  refine e_csv (pc2 := 15) (As := [.ref 28, .int (nI 0)]) (rest := []) hM rfl rfl rfl rfl rfl rfl rfl (fun h2 => ?_)
  refine e_aload_n (pc2 := 16) hM rfl rfl rfl ?_
  refine e_iconst (pc2 := 17) (v := nI 0) hM rfl rfl rfl ?_
  refine e_putf (pc2 := 20) (k := 26) hM rfl rfl rfl rfl rfl rfl ?_
  refine e_aload_n (pc2 := 21) hM rfl rfl rfl ?_
  refine e_getfr (pc2 := 24) (k := 26) (b := 8) hM rfl rfl rfl rfl rfl ?_
  refine e_getfi (pc2 := 27) (k := 7) (v := (h2 7 0)) hM rfl rfl rfl rfl rfl rfl ?_
  refine e_iconst (pc2 := 28) (v := nI 1) hM rfl rfl rfl ?_
  refine e_isub (pc2 := 29) hM rfl rfl ?_
  refine e_istore_n (pc2 := 30) (L2 := [some (.ref 27), some (.int ((h2 7 0) - (nI 1))), none, none]) hM rfl rfl rfl rfl ?_
  exact rfl
theorem qX3_search_30 {sl : Nat} {xs : Nat → Int32} {d : Nat} {b1 : Int32} {o2 o3 : Option Value} {h : pmH} : pm_Ev sl xs (d + 1) 19 30 [some (.ref 27), some (.int b1), o2, o3] [] (SH, h) = if b1 < 0 then (if 536870912 ≤ (h 26 3) then (some (some (.int (nI 0)), (SH, h))) else (some (some (.int (nI 1)), (SH, h)))) else (pm_ix none b1 24 fun j1 => pm_ri (pm_cf (pm_Ev sl xs) (d + 1) 21 [.ref 27, .int b1] (SH, h)) SH fun x3 h2 => if 0 ≤ (h 9 j1) then (pm_rv (pm_cf (pm_Ev sl xs) (d + 1) 20 [.ref 27, .int b1, .int (h 9 j1), .int x3] (SH, h2)) SH fun h4 => pm_Ev sl xs (d + 1) 19 30 [some (.ref 27), some (.int (b1 + (-nI 1))), some (.int (h 9 j1)), some (.int x3)] [] (SH, h4)) else (pm_ri (pm_cf (pm_Ev sl xs) (d + 1) 23 [.int (h2 26 3), .int x3] (SH, h2)) SH fun x6 h5 => pm_Ev sl xs (d + 1) 19 30 [some (.ref 27), some (.int (b1 + (-nI 1))), some (.int (h 9 j1)), some (.int x3)] [] (SH, (pm_up h5 26 3 x6)))) := by
  have hM : pm_mt 19 = some mt_19 := rfl
  refine e_iload_n (pc2 := 31) hM rfl rfl rfl ?_
  refine e_if_lt (pc2 := 34) (tgt := 82) hM rfl rfl rfl ?_ ?_
  · refine e_aload_n (pc2 := 83) hM rfl rfl rfl ?_
    refine e_getfi (pc2 := 86) (k := 26) (v := (h 26 3)) hM rfl rfl rfl rfl rfl rfl ?_
    refine e_ldc (pc2 := 88) (v := 536870912) hM rfl rfl rfl ?_
    refine e_icmp_ge (pc2 := 91) (tgt := 95) hM rfl rfl rfl ?_ ?_
    · refine e_iconst (pc2 := 96) (v := nI 0) hM rfl rfl rfl ?_
      exact e_zret hM rfl rfl pm_01a
    · refine e_iconst (pc2 := 92) (v := nI 1) hM rfl rfl rfl ?_
      refine e_goto (tgt := 96) hM rfl rfl ?_
      exact e_zret hM rfl rfl pm_01b
  · refine e_aload_n (pc2 := 35) hM rfl rfl rfl ?_
    refine e_getfr (pc2 := 38) (k := 26) (b := 8) hM rfl rfl rfl rfl rfl ?_
    refine e_getfr (pc2 := 41) (k := 7) (b := 10) hM rfl rfl rfl rfl rfl ?_
    refine e_iload_n (pc2 := 42) hM rfl rfl rfl ?_
    refine e_iald (pc2 := 43) (k := 9) (V := fun j1 => (h 9 j1)) hM rfl rfl rfl (fun _ => rfl) (fun j1 => ?_)
    refine e_istore_n (pc2 := 44) (L2 := [some (.ref 27), some (.int b1), some (.int (h 9 j1)), o3]) hM rfl rfl rfl rfl ?_
    refine e_aload_n (pc2 := 45) hM rfl rfl rfl ?_
    refine e_iload_n (pc2 := 46) hM rfl rfl rfl ?_
    refine e_cvi (pc2 := 49) (k := 26) (As := [.ref 27, .int b1]) (rest := []) hM rfl rfl rfl rfl rfl rfl rfl (fun x3 h2 => ?_)
    refine e_istore_n (pc2 := 50) (L2 := [some (.ref 27), some (.int b1), some (.int (h 9 j1)), some (.int x3)]) hM rfl rfl rfl rfl ?_
    refine e_iload_n (pc2 := 51) hM rfl rfl rfl ?_
    refine e_if_ge (pc2 := 54) (tgt := 69) hM rfl rfl rfl ?_ ?_
    · refine e_aload_n (pc2 := 70) hM rfl rfl rfl ?_
      refine e_iload_n (pc2 := 71) hM rfl rfl rfl ?_
      refine e_iload_n (pc2 := 72) hM rfl rfl rfl ?_
      refine e_iload_n (pc2 := 73) hM rfl rfl rfl ?_
      refine e_cvv (pc2 := 76) (k := 26) (As := [.ref 27, .int b1, .int (h 9 j1), .int x3]) (rest := []) hM rfl rfl rfl rfl rfl rfl rfl (fun h4 => ?_)
      refine e_iinc (pc2 := 79) (v := -nI 1) (L2 := [some (.ref 27), some (.int (b1 + (-nI 1))), some (.int (h 9 j1)), some (.int x3)]) hM rfl rfl rfl rfl rfl ?_
      refine e_goto (tgt := 30) hM rfl rfl ?_
      exact rfl
    · refine e_aload_n (pc2 := 55) hM rfl rfl rfl ?_
      refine e_aload_n (pc2 := 56) hM rfl rfl rfl ?_
      refine e_getfi (pc2 := 59) (k := 26) (v := (h2 26 3)) hM rfl rfl rfl rfl rfl rfl ?_
      refine e_iload_n (pc2 := 60) hM rfl rfl rfl ?_
      refine e_csi (pc2 := 63) (As := [.int (h2 26 3), .int x3]) (rest := [.ref 27]) hM rfl rfl rfl rfl rfl rfl rfl (fun x6 h5 => ?_)
      refine e_putf (pc2 := 66) (k := 26) hM rfl rfl rfl rfl rfl rfl ?_
      refine e_goto (tgt := 76) hM rfl rfl ?_
      refine e_iinc (pc2 := 79) (v := -nI 1) (L2 := [some (.ref 27), some (.int (b1 + (-nI 1))), some (.int (h 9 j1)), some (.int x3)]) hM rfl rfl rfl rfl rfl ?_
      refine e_goto (tgt := 30) hM rfl rfl ?_
      exact rfl
theorem qX3_joinToUp_0 {sl : Nat} {xs : Nat → Int32} {d : Nat} {a0 a1 a2 : Int32} {h : pmH} : pm_cf (pm_Ev sl xs) (d + 2) 20 [.ref 27, .int a0, .int a1, .int a2] (SH, h) = pm_Ev sl xs (d + 1) 20 3 [some (.ref 27), some (.int a0), some (.int a1), some (.int a2), some (.int (nI 0)), none] [] (SH, h) := by
  have hM : pm_mt 20 = some mt_20 := rfl
  refine e_call (L := [some (.ref 27), some (.int a0), some (.int a1), some (.int a2), none, none]) hM rfl rfl ?_
  refine e_iconst (pc2 := 1) (v := nI 0) hM rfl rfl rfl ?_
  refine e_istore (pc2 := 3) (L2 := [some (.ref 27), some (.int a0), some (.int a1), some (.int a2), some (.int (nI 0)), none]) hM rfl rfl rfl rfl ?_
  exact rfl
theorem qX3_joinToUp_3 {sl : Nat} {xs : Nat → Int32} {d : Nat} {b1 b2 b3 b4 : Int32} {o5 : Option Value} {h : pmH} : pm_Ev sl xs (d + 1) 20 3 [some (.ref 27), some (.int b1), some (.int b2), some (.int b3), some (.int b4), o5] [] (SH, h) = if b2 < b4 then (some (none, (SH, h))) else (pm_ix none ((b2 * (nI 24)) + b4) 576 fun j1 => pm_ri (pm_cf (pm_Ev sl xs) (d + 1) 22 [.ref 27, .int b1, .int b4] (SH, h)) SH fun x3 h2 => pm_ri (pm_cf (pm_Ev sl xs) (d + 1) 23 [.int (h 27 j1), .int (if x3 < b3 then x3 else b3)] (SH, h2)) SH fun x5 h4 => pm_ix none ((b2 * (nI 24)) + b4) 576 fun j6 => pm_Ev sl xs (d + 1) 20 3 [some (.ref 27), some (.int b1), some (.int b2), some (.int b3), some (.int (b4 + (nI 1))), some (.int ((b2 * (nI 24)) + b4))] [] (SH, (pm_up h4 27 j6 x5))) := by
  have hM : pm_mt 20 = some mt_20 := rfl
  refine e_iload (pc2 := 5) hM rfl rfl rfl ?_
  refine e_iload_n (pc2 := 6) hM rfl rfl rfl ?_
  refine e_icmp_gt (pc2 := 9) (tgt := 52) hM rfl rfl rfl ?_ ?_
  · exact e_ret hM rfl rfl
  · refine e_iload_n (pc2 := 10) hM rfl rfl rfl ?_
    refine e_bipush (pc2 := 12) (v := nI 24) hM rfl rfl rfl rfl ?_
    refine e_imul (pc2 := 13) hM rfl rfl ?_
    refine e_iload (pc2 := 15) hM rfl rfl rfl ?_
    refine e_iadd (pc2 := 16) hM rfl rfl ?_
    refine e_istore (pc2 := 18) (L2 := [some (.ref 27), some (.int b1), some (.int b2), some (.int b3), some (.int b4), some (.int ((b2 * (nI 24)) + b4))]) hM rfl rfl rfl rfl ?_
    refine e_aload_n (pc2 := 19) hM rfl rfl rfl ?_
    refine e_getfr (pc2 := 22) (k := 26) (b := 28) hM rfl rfl rfl rfl rfl ?_
    refine e_iload (pc2 := 24) hM rfl rfl rfl ?_
    refine e_aload_n (pc2 := 25) hM rfl rfl rfl ?_
    refine e_getfr (pc2 := 28) (k := 26) (b := 28) hM rfl rfl rfl rfl rfl ?_
    refine e_iload (pc2 := 30) hM rfl rfl rfl ?_
    refine e_iald (pc2 := 31) (k := 27) (V := fun j1 => (h 27 j1)) hM rfl rfl rfl (fun _ => rfl) (fun j1 => ?_)
    refine e_iload_n (pc2 := 32) hM rfl rfl rfl ?_
    refine e_aload_n (pc2 := 33) hM rfl rfl rfl ?_
    refine e_iload_n (pc2 := 34) hM rfl rfl rfl ?_
    refine e_iload (pc2 := 36) hM rfl rfl rfl ?_
    refine e_cvi (pc2 := 39) (k := 26) (As := [.ref 27, .int b1, .int b4]) (rest := [.int b3, .int (h 27 j1), .int ((b2 * (nI 24)) + b4), .ref 28]) hM rfl rfl rfl rfl rfl rfl rfl (fun x3 h2 => ?_)
    refine e_min (pc2 := 42) hM rfl rfl rfl rfl ?_
    refine e_csi (pc2 := 45) (As := [.int (h 27 j1), .int (if x3 < b3 then x3 else b3)]) (rest := [.int ((b2 * (nI 24)) + b4), .ref 28]) hM rfl rfl rfl rfl rfl rfl rfl (fun x5 h4 => ?_)
    refine e_iast (pc2 := 46) (k := 27) hM rfl rfl rfl (fun j6 => ?_)
    refine e_iinc (pc2 := 49) (v := nI 1) (L2 := [some (.ref 27), some (.int b1), some (.int b2), some (.int b3), some (.int (b4 + (nI 1))), some (.int ((b2 * (nI 24)) + b4))]) hM rfl rfl rfl rfl rfl ?_
    refine e_goto (tgt := 3) hM rfl rfl ?_
    exact rfl
theorem qX3_costWithFuse_0 {sl : Nat} {xs : Nat → Int32} {d : Nat} {a0 : Int32} {h : pmH} : pm_cf (pm_Ev sl xs) (d + 2) 21 [.ref 27, .int a0] (SH, h) = pm_ix none a0 24 fun j1 => pm_ri (pm_cf (pm_Ev sl xs) (d + 1) 47 [.ref 8, .int a0] (SH, h)) SH fun x3 h2 => if x3 < (h 23 j1) then (if (nI 1) = 0 then (pm_ix none ((a0 * (nI 24)) + a0) 576 fun j4 => pm_ri (pm_cf (pm_Ev sl xs) (d + 1) 23 [.int (16777216 + ((nI 1) <<< (a0 &&& 31))), .int (h2 27 j4)] (SH, h2)) SH fun x6 h5 => some (some (.int x6), (SH, h5))) else (some (some (.int 536870912), (SH, h2)))) else (pm_ix none a0 24 fun j7 => if (h2 8 j7) = (nI 1) then (if (h 23 j1) ≤ (nI 500) then (if (nI 0) = 0 then (pm_ix none ((a0 * (nI 24)) + a0) 576 fun j11 => pm_ri (pm_cf (pm_Ev sl xs) (d + 1) 23 [.int (16777216 + ((nI 1) <<< (a0 &&& 31))), .int (h2 27 j11)] (SH, h2)) SH fun x13 h12 => some (some (.int x13), (SH, h12))) else (some (some (.int 536870912), (SH, h2)))) else (if (nI 1) = 0 then (pm_ix none ((a0 * (nI 24)) + a0) 576 fun j14 => pm_ri (pm_cf (pm_Ev sl xs) (d + 1) 23 [.int (16777216 + ((nI 1) <<< (a0 &&& 31))), .int (h2 27 j14)] (SH, h2)) SH fun x16 h15 => some (some (.int x16), (SH, h15))) else (some (some (.int 536870912), (SH, h2))))) else (if (nI 0) = 0 then (pm_ix none ((a0 * (nI 24)) + a0) 576 fun j8 => pm_ri (pm_cf (pm_Ev sl xs) (d + 1) 23 [.int (16777216 + ((nI 1) <<< (a0 &&& 31))), .int (h2 27 j8)] (SH, h2)) SH fun x10 h9 => some (some (.int x10), (SH, h9))) else (some (some (.int 536870912), (SH, h2))))) := by
  have hM : pm_mt 21 = some mt_21 := rfl
  refine e_call (L := [some (.ref 27), some (.int a0), none, none]) hM rfl rfl ?_
  refine e_aload_n (pc2 := 1) hM rfl rfl rfl ?_
  refine e_getfr (pc2 := 4) (k := 26) (b := 21) hM rfl rfl rfl rfl rfl ?_
  refine e_getfr (pc2 := 7) (k := 20) (b := 24) hM rfl rfl rfl rfl rfl ?_
  refine e_iload_n (pc2 := 8) hM rfl rfl rfl ?_
  refine e_iald (pc2 := 9) (k := 23) (V := fun j1 => (h 23 j1)) hM rfl rfl rfl (fun _ => rfl) (fun j1 => ?_)
  refine e_istore_n (pc2 := 10) (L2 := [some (.ref 27), some (.int a0), some (.int (h 23 j1)), none]) hM rfl rfl rfl rfl ?_
  refine e_iload_n (pc2 := 11) hM rfl rfl rfl ?_
  refine e_aload_n (pc2 := 12) hM rfl rfl rfl ?_
  refine e_getfr (pc2 := 15) (k := 26) (b := 8) hM rfl rfl rfl rfl rfl ?_
  refine e_iload_n (pc2 := 16) hM rfl rfl rfl ?_
  refine e_cvi (pc2 := 19) (k := 7) (As := [.ref 8, .int a0]) (rest := [.int (h 23 j1)]) hM rfl rfl rfl rfl rfl rfl rfl (fun x3 h2 => ?_)
  refine e_icmp_gt (pc2 := 22) (tgt := 42) hM rfl rfl rfl ?_ ?_
  · refine e_iconst (pc2 := 43) (v := nI 1) hM rfl rfl rfl ?_
    refine e_goto (tgt := 47) hM rfl rfl ?_
    refine e_istore_n (pc2 := 48) (L2 := [some (.ref 27), some (.int a0), some (.int (h 23 j1)), some (.int (nI 1))]) hM rfl rfl rfl rfl ?_
    refine e_iload_n (pc2 := 49) hM rfl rfl rfl ?_
    refine e_if_eq (pc2 := 52) (tgt := 57) hM rfl rfl rfl ?_ ?_
    · refine e_ldc (pc2 := 59) (v := 16777216) hM rfl rfl rfl ?_
      refine e_iconst (pc2 := 60) (v := nI 1) hM rfl rfl rfl ?_
      refine e_iload_n (pc2 := 61) hM rfl rfl rfl ?_
      refine e_ishl (pc2 := 62) hM rfl rfl ?_
      refine e_iadd (pc2 := 63) hM rfl rfl ?_
      refine e_aload_n (pc2 := 64) hM rfl rfl rfl ?_
      refine e_getfr (pc2 := 67) (k := 26) (b := 28) hM rfl rfl rfl rfl rfl ?_
      refine e_iload_n (pc2 := 68) hM rfl rfl rfl ?_
      refine e_bipush (pc2 := 70) (v := nI 24) hM rfl rfl rfl rfl ?_
      refine e_imul (pc2 := 71) hM rfl rfl ?_
      refine e_iload_n (pc2 := 72) hM rfl rfl rfl ?_
      refine e_iadd (pc2 := 73) hM rfl rfl ?_
      refine e_iald (pc2 := 74) (k := 27) (V := fun j4 => (h2 27 j4)) hM rfl rfl rfl (fun _ => rfl) (fun j4 => ?_)
      refine e_csi (pc2 := 77) (As := [.int (16777216 + ((nI 1) <<< (a0 &&& 31))), .int (h2 27 j4)]) (rest := []) hM rfl rfl rfl rfl rfl rfl rfl (fun x6 h5 => ?_)
      exact e_iret hM rfl rfl
    · refine e_ldc (pc2 := 54) (v := 536870912) hM rfl rfl rfl ?_
      refine e_goto (tgt := 77) hM rfl rfl ?_
      exact e_iret hM rfl rfl
  · refine e_aload_n (pc2 := 23) hM rfl rfl rfl ?_
    refine e_getfr (pc2 := 26) (k := 26) (b := 8) hM rfl rfl rfl rfl rfl ?_
    refine e_getfr (pc2 := 29) (k := 7) (b := 9) hM rfl rfl rfl rfl rfl ?_
    refine e_iload_n (pc2 := 30) hM rfl rfl rfl ?_
    refine e_iald (pc2 := 31) (k := 8) (V := fun j7 => (h2 8 j7)) hM rfl rfl rfl (fun _ => rfl) (fun j7 => ?_)
    refine e_iconst (pc2 := 32) (v := nI 1) hM rfl rfl rfl ?_
    refine e_icmp_ne (pc2 := 35) (tgt := 46) hM rfl rfl rfl ?_ ?_
    · refine e_iconst (pc2 := 47) (v := nI 0) hM rfl rfl rfl ?_
      refine e_istore_n (pc2 := 48) (L2 := [some (.ref 27), some (.int a0), some (.int (h 23 j1)), some (.int (nI 0))]) hM rfl rfl rfl rfl ?_
      refine e_iload_n (pc2 := 49) hM rfl rfl rfl ?_
      refine e_if_eq (pc2 := 52) (tgt := 57) hM rfl rfl rfl ?_ ?_
      · refine e_ldc (pc2 := 59) (v := 16777216) hM rfl rfl rfl ?_
        refine e_iconst (pc2 := 60) (v := nI 1) hM rfl rfl rfl ?_
        refine e_iload_n (pc2 := 61) hM rfl rfl rfl ?_
        refine e_ishl (pc2 := 62) hM rfl rfl ?_
        refine e_iadd (pc2 := 63) hM rfl rfl ?_
        refine e_aload_n (pc2 := 64) hM rfl rfl rfl ?_
        refine e_getfr (pc2 := 67) (k := 26) (b := 28) hM rfl rfl rfl rfl rfl ?_
        refine e_iload_n (pc2 := 68) hM rfl rfl rfl ?_
        refine e_bipush (pc2 := 70) (v := nI 24) hM rfl rfl rfl rfl ?_
        refine e_imul (pc2 := 71) hM rfl rfl ?_
        refine e_iload_n (pc2 := 72) hM rfl rfl rfl ?_
        refine e_iadd (pc2 := 73) hM rfl rfl ?_
        refine e_iald (pc2 := 74) (k := 27) (V := fun j8 => (h2 27 j8)) hM rfl rfl rfl (fun _ => rfl) (fun j8 => ?_)
        refine e_csi (pc2 := 77) (As := [.int (16777216 + ((nI 1) <<< (a0 &&& 31))), .int (h2 27 j8)]) (rest := []) hM rfl rfl rfl rfl rfl rfl rfl (fun x10 h9 => ?_)
        exact e_iret hM rfl rfl
      · refine e_ldc (pc2 := 54) (v := 536870912) hM rfl rfl rfl ?_
        refine e_goto (tgt := 77) hM rfl rfl ?_
        exact e_iret hM rfl rfl
    · refine e_iload_n (pc2 := 36) hM rfl rfl rfl ?_
      refine e_sipush (pc2 := 39) (v := nI 500) hM rfl rfl rfl rfl ?_
      refine e_icmp_le (pc2 := 42) (tgt := 46) hM rfl rfl rfl ?_ ?_
      · refine e_iconst (pc2 := 47) (v := nI 0) hM rfl rfl rfl ?_
        refine e_istore_n (pc2 := 48) (L2 := [some (.ref 27), some (.int a0), some (.int (h 23 j1)), some (.int (nI 0))]) hM rfl rfl rfl rfl ?_
        refine e_iload_n (pc2 := 49) hM rfl rfl rfl ?_
        refine e_if_eq (pc2 := 52) (tgt := 57) hM rfl rfl rfl ?_ ?_
        · refine e_ldc (pc2 := 59) (v := 16777216) hM rfl rfl rfl ?_
          refine e_iconst (pc2 := 60) (v := nI 1) hM rfl rfl rfl ?_
          refine e_iload_n (pc2 := 61) hM rfl rfl rfl ?_
          refine e_ishl (pc2 := 62) hM rfl rfl ?_
          refine e_iadd (pc2 := 63) hM rfl rfl ?_
          refine e_aload_n (pc2 := 64) hM rfl rfl rfl ?_
          refine e_getfr (pc2 := 67) (k := 26) (b := 28) hM rfl rfl rfl rfl rfl ?_
          refine e_iload_n (pc2 := 68) hM rfl rfl rfl ?_
          refine e_bipush (pc2 := 70) (v := nI 24) hM rfl rfl rfl rfl ?_
          refine e_imul (pc2 := 71) hM rfl rfl ?_
          refine e_iload_n (pc2 := 72) hM rfl rfl rfl ?_
          refine e_iadd (pc2 := 73) hM rfl rfl ?_
          refine e_iald (pc2 := 74) (k := 27) (V := fun j11 => (h2 27 j11)) hM rfl rfl rfl (fun _ => rfl) (fun j11 => ?_)
          refine e_csi (pc2 := 77) (As := [.int (16777216 + ((nI 1) <<< (a0 &&& 31))), .int (h2 27 j11)]) (rest := []) hM rfl rfl rfl rfl rfl rfl rfl (fun x13 h12 => ?_)
          exact e_iret hM rfl rfl
        · refine e_ldc (pc2 := 54) (v := 536870912) hM rfl rfl rfl ?_
          refine e_goto (tgt := 77) hM rfl rfl ?_
          exact e_iret hM rfl rfl
      · refine e_iconst (pc2 := 43) (v := nI 1) hM rfl rfl rfl ?_
        refine e_goto (tgt := 47) hM rfl rfl ?_
        refine e_istore_n (pc2 := 48) (L2 := [some (.ref 27), some (.int a0), some (.int (h 23 j1)), some (.int (nI 1))]) hM rfl rfl rfl rfl ?_
        refine e_iload_n (pc2 := 49) hM rfl rfl rfl ?_
        refine e_if_eq (pc2 := 52) (tgt := 57) hM rfl rfl rfl ?_ ?_
        · refine e_ldc (pc2 := 59) (v := 16777216) hM rfl rfl rfl ?_
          refine e_iconst (pc2 := 60) (v := nI 1) hM rfl rfl rfl ?_
          refine e_iload_n (pc2 := 61) hM rfl rfl rfl ?_
          refine e_ishl (pc2 := 62) hM rfl rfl ?_
          refine e_iadd (pc2 := 63) hM rfl rfl ?_
          refine e_aload_n (pc2 := 64) hM rfl rfl rfl ?_
          refine e_getfr (pc2 := 67) (k := 26) (b := 28) hM rfl rfl rfl rfl rfl ?_
          refine e_iload_n (pc2 := 68) hM rfl rfl rfl ?_
          refine e_bipush (pc2 := 70) (v := nI 24) hM rfl rfl rfl rfl ?_
          refine e_imul (pc2 := 71) hM rfl rfl ?_
          refine e_iload_n (pc2 := 72) hM rfl rfl rfl ?_
          refine e_iadd (pc2 := 73) hM rfl rfl ?_
          refine e_iald (pc2 := 74) (k := 27) (V := fun j14 => (h2 27 j14)) hM rfl rfl rfl (fun _ => rfl) (fun j14 => ?_)
          refine e_csi (pc2 := 77) (As := [.int (16777216 + ((nI 1) <<< (a0 &&& 31))), .int (h2 27 j14)]) (rest := []) hM rfl rfl rfl rfl rfl rfl rfl (fun x16 h15 => ?_)
          exact e_iret hM rfl rfl
        · refine e_ldc (pc2 := 54) (v := 536870912) hM rfl rfl rfl ?_
          refine e_goto (tgt := 77) hM rfl rfl ?_
          exact e_iret hM rfl rfl
theorem qX3_costWithout_0 {sl : Nat} {xs : Nat → Int32} {d : Nat} {a0 a1 : Int32} {h : pmH} : pm_cf (pm_Ev sl xs) (d + 2) 22 [.ref 27, .int a0, .int a1] (SH, h) = pm_ix none a0 24 fun j1 => if (h 8 j1) = (nI 1) then (if (nI 1) = 0 then (pm_ix none ((a0 * (nI 24)) + a1) 576 fun j2 => some (some (.int (h 27 j2)), (SH, h))) else (some (some (.int 536870912), (SH, h)))) else (pm_ix none a1 24 fun j3 => pm_ri (pm_cf (pm_Ev sl xs) (d + 1) 47 [.ref 8, .int a0] (SH, h)) SH fun x5 h4 => if (h 23 j3) ≤ x5 then (if (nI 0) = 0 then (pm_ix none ((a0 * (nI 24)) + a1) 576 fun j6 => some (some (.int (h4 27 j6)), (SH, h4))) else (some (some (.int 536870912), (SH, h4)))) else (if (nI 1) = 0 then (pm_ix none ((a0 * (nI 24)) + a1) 576 fun j7 => some (some (.int (h4 27 j7)), (SH, h4))) else (some (some (.int 536870912), (SH, h4))))) := by
  have hM : pm_mt 22 = some mt_22 := rfl
  refine e_call (L := [some (.ref 27), some (.int a0), some (.int a1), none]) hM rfl rfl ?_
  refine e_aload_n (pc2 := 1) hM rfl rfl rfl ?_
  refine e_getfr (pc2 := 4) (k := 26) (b := 8) hM rfl rfl rfl rfl rfl ?_
  refine e_getfr (pc2 := 7) (k := 7) (b := 9) hM rfl rfl rfl rfl rfl ?_
  refine e_iload_n (pc2 := 8) hM rfl rfl rfl ?_
  refine e_iald (pc2 := 9) (k := 8) (V := fun j1 => (h 8 j1)) hM rfl rfl rfl (fun _ => rfl) (fun j1 => ?_)
  refine e_iconst (pc2 := 10) (v := nI 1) hM rfl rfl rfl ?_
  refine e_icmp_eq (pc2 := 13) (tgt := 33) hM rfl rfl rfl ?_ ?_
  · refine e_iconst (pc2 := 34) (v := nI 1) hM rfl rfl rfl ?_
    refine e_goto (tgt := 38) hM rfl rfl ?_
    refine e_istore_n (pc2 := 39) (L2 := [some (.ref 27), some (.int a0), some (.int a1), some (.int (nI 1))]) hM rfl rfl rfl rfl ?_
    refine e_iload_n (pc2 := 40) hM rfl rfl rfl ?_
    refine e_if_eq (pc2 := 43) (tgt := 48) hM rfl rfl rfl ?_ ?_
    · refine e_aload_n (pc2 := 49) hM rfl rfl rfl ?_
      refine e_getfr (pc2 := 52) (k := 26) (b := 28) hM rfl rfl rfl rfl rfl ?_
      refine e_iload_n (pc2 := 53) hM rfl rfl rfl ?_
      refine e_bipush (pc2 := 55) (v := nI 24) hM rfl rfl rfl rfl ?_
      refine e_imul (pc2 := 56) hM rfl rfl ?_
      refine e_iload_n (pc2 := 57) hM rfl rfl rfl ?_
      refine e_iadd (pc2 := 58) hM rfl rfl ?_
      refine e_iald (pc2 := 59) (k := 27) (V := fun j2 => (h 27 j2)) hM rfl rfl rfl (fun _ => rfl) (fun j2 => ?_)
      exact e_iret hM rfl rfl
    · refine e_ldc (pc2 := 45) (v := 536870912) hM rfl rfl rfl ?_
      refine e_goto (tgt := 59) hM rfl rfl ?_
      exact e_iret hM rfl rfl
  · refine e_aload_n (pc2 := 14) hM rfl rfl rfl ?_
    refine e_getfr (pc2 := 17) (k := 26) (b := 21) hM rfl rfl rfl rfl rfl ?_
    refine e_getfr (pc2 := 20) (k := 20) (b := 24) hM rfl rfl rfl rfl rfl ?_
    refine e_iload_n (pc2 := 21) hM rfl rfl rfl ?_
    refine e_iald (pc2 := 22) (k := 23) (V := fun j3 => (h 23 j3)) hM rfl rfl rfl (fun _ => rfl) (fun j3 => ?_)
    refine e_aload_n (pc2 := 23) hM rfl rfl rfl ?_
    refine e_getfr (pc2 := 26) (k := 26) (b := 8) hM rfl rfl rfl rfl rfl ?_
    refine e_iload_n (pc2 := 27) hM rfl rfl rfl ?_
    refine e_cvi (pc2 := 30) (k := 7) (As := [.ref 8, .int a0]) (rest := [.int (h 23 j3)]) hM rfl rfl rfl rfl rfl rfl rfl (fun x5 h4 => ?_)
    refine e_icmp_le (pc2 := 33) (tgt := 37) hM rfl rfl rfl ?_ ?_
    · refine e_iconst (pc2 := 38) (v := nI 0) hM rfl rfl rfl ?_
      refine e_istore_n (pc2 := 39) (L2 := [some (.ref 27), some (.int a0), some (.int a1), some (.int (nI 0))]) hM rfl rfl rfl rfl ?_
      refine e_iload_n (pc2 := 40) hM rfl rfl rfl ?_
      refine e_if_eq (pc2 := 43) (tgt := 48) hM rfl rfl rfl ?_ ?_
      · refine e_aload_n (pc2 := 49) hM rfl rfl rfl ?_
        refine e_getfr (pc2 := 52) (k := 26) (b := 28) hM rfl rfl rfl rfl rfl ?_
        refine e_iload_n (pc2 := 53) hM rfl rfl rfl ?_
        refine e_bipush (pc2 := 55) (v := nI 24) hM rfl rfl rfl rfl ?_
        refine e_imul (pc2 := 56) hM rfl rfl ?_
        refine e_iload_n (pc2 := 57) hM rfl rfl rfl ?_
        refine e_iadd (pc2 := 58) hM rfl rfl ?_
        refine e_iald (pc2 := 59) (k := 27) (V := fun j6 => (h4 27 j6)) hM rfl rfl rfl (fun _ => rfl) (fun j6 => ?_)
        exact e_iret hM rfl rfl
      · refine e_ldc (pc2 := 45) (v := 536870912) hM rfl rfl rfl ?_
        refine e_goto (tgt := 59) hM rfl rfl ?_
        exact e_iret hM rfl rfl
    · refine e_iconst (pc2 := 34) (v := nI 1) hM rfl rfl rfl ?_
      refine e_goto (tgt := 38) hM rfl rfl ?_
      refine e_istore_n (pc2 := 39) (L2 := [some (.ref 27), some (.int a0), some (.int a1), some (.int (nI 1))]) hM rfl rfl rfl rfl ?_
      refine e_iload_n (pc2 := 40) hM rfl rfl rfl ?_
      refine e_if_eq (pc2 := 43) (tgt := 48) hM rfl rfl rfl ?_ ?_
      · refine e_aload_n (pc2 := 49) hM rfl rfl rfl ?_
        refine e_getfr (pc2 := 52) (k := 26) (b := 28) hM rfl rfl rfl rfl rfl ?_
        refine e_iload_n (pc2 := 53) hM rfl rfl rfl ?_
        refine e_bipush (pc2 := 55) (v := nI 24) hM rfl rfl rfl rfl ?_
        refine e_imul (pc2 := 56) hM rfl rfl ?_
        refine e_iload_n (pc2 := 57) hM rfl rfl rfl ?_
        refine e_iadd (pc2 := 58) hM rfl rfl ?_
        refine e_iald (pc2 := 59) (k := 27) (V := fun j7 => (h4 27 j7)) hM rfl rfl rfl (fun _ => rfl) (fun j7 => ?_)
        exact e_iret hM rfl rfl
      · refine e_ldc (pc2 := 45) (v := 536870912) hM rfl rfl rfl ?_
        refine e_goto (tgt := 59) hM rfl rfl ?_
        exact e_iret hM rfl rfl
theorem qX3_join_0 {sl : Nat} {xs : Nat → Int32} {d : Nat} {a0 a1 : Int32} {h : pmH} : pm_cf (pm_Ev sl xs) (d + 2) 23 [.int a0, .int a1] (SH, h) = some (some (.int (if (a0 + a1) < 536870912 then (a0 + a1) else 536870912)), (SH, h)) := by
  have hM : pm_mt 23 = some mt_23 := rfl
  refine e_call (L := [some (.int a0), some (.int a1)]) hM rfl rfl ?_
  refine e_ldc (pc2 := 2) (v := 536870912) hM rfl rfl rfl ?_
  refine e_iload_n (pc2 := 3) hM rfl rfl rfl ?_
  refine e_iload_n (pc2 := 4) hM rfl rfl rfl ?_
  refine e_iadd (pc2 := 5) hM rfl rfl ?_
  refine e_min (pc2 := 8) hM rfl rfl rfl rfl ?_
  exact e_iret hM rfl rfl
theorem qX3_howMany_0 {sl : Nat} {xs : Nat → Int32} {d : Nat} {h : pmH} : pm_cf (pm_Ev sl xs) (d + 1) 24 [.ref 27] (SH, h) = some (some (.int ((h 26 3) >>> ((nI 24) &&& 31))), (SH, h)) := by
  have hM : pm_mt 24 = some mt_24 := rfl
  refine e_call (L := [some (.ref 27)]) hM rfl rfl ?_
  refine e_aload_n (pc2 := 1) hM rfl rfl rfl ?_
  refine e_getfi (pc2 := 4) (k := 26) (v := (h 26 3)) hM rfl rfl rfl rfl rfl rfl ?_
  refine e_bipush (pc2 := 6) (v := nI 24) hM rfl rfl rfl rfl ?_
  refine e_ishr (pc2 := 7) hM rfl rfl ?_
  exact e_iret hM rfl rfl
theorem qX3_asBits_0 {sl : Nat} {xs : Nat → Int32} {d : Nat} {h : pmH} : pm_cf (pm_Ev sl xs) (d + 1) 25 [.ref 27] (SH, h) = some (some (.int ((h 26 3) &&& 16777215)), (SH, h)) := by
  have hM : pm_mt 25 = some mt_25 := rfl
  refine e_call (L := [some (.ref 27)]) hM rfl rfl ?_
  refine e_aload_n (pc2 := 1) hM rfl rfl rfl ?_
  refine e_getfi (pc2 := 4) (k := 26) (v := (h 26 3)) hM rfl rfl rfl rfl rfl rfl ?_
  refine e_ldc (pc2 := 6) (v := 16777215) hM rfl rfl rfl ?_
  refine e_iand (pc2 := 7) hM rfl rfl ?_
  exact e_iret hM rfl rfl
theorem qX3_putFuses_0 {sl : Nat} {xs : Nat → Int32} {d : Nat} {h : pmH} : pm_cf (pm_Ev sl xs) (d + 2) 26 [.ref 27] (SH, h) = pm_Ev sl xs (d + 1) 26 2 [some (.ref 27), some (.int (nI 0))] [] (SH, h) := by
  have hM : pm_mt 26 = some mt_26 := rfl
  refine e_call (L := [some (.ref 27), none]) hM rfl rfl ?_
  refine e_iconst (pc2 := 1) (v := nI 0) hM rfl rfl rfl ?_
  refine e_istore_n (pc2 := 2) (L2 := [some (.ref 27), some (.int (nI 0))]) hM rfl rfl rfl rfl ?_
  exact rfl
theorem qX3_putFuses_2 {sl : Nat} {xs : Nat → Int32} {d : Nat} {b1 : Int32} {h : pmH} : pm_Ev sl xs (d + 1) 26 2 [some (.ref 27), some (.int b1)] [] (SH, h) = if (h 7 0) ≤ b1 then (some (none, (SH, h))) else (pm_ri (pm_cf (pm_Ev sl xs) (d + 1) 25 [.ref 27] (SH, h)) SH fun x2 h1 => pm_ri (pm_cf (pm_Ev sl xs) (d + 1) 88 [.int x2, .int b1] (SH, h1)) SH fun x4 h3 => if x4 = 0 then (pm_ix none b1 24 fun j5 => pm_Ev sl xs (d + 1) 26 2 [some (.ref 27), some (.int (b1 + (nI 1)))] [] (SH, (pm_up h3 15 j5 (nI 0)))) else (pm_ix none b1 24 fun j6 => pm_ix none b1 24 fun j7 => pm_Ev sl xs (d + 1) 26 2 [some (.ref 27), some (.int (b1 + (nI 1)))] [] (SH, (pm_up h3 15 j7 (h3 23 j6))))) := by
  have hM : pm_mt 26 = some mt_26 := rfl
  refine e_iload_n (pc2 := 3) hM rfl rfl rfl ?_
  refine e_aload_n (pc2 := 4) hM rfl rfl rfl ?_
  refine e_getfr (pc2 := 7) (k := 26) (b := 8) hM rfl rfl rfl rfl rfl ?_
  refine e_getfi (pc2 := 10) (k := 7) (v := (h 7 0)) hM rfl rfl rfl rfl rfl rfl ?_
  refine e_icmp_ge (pc2 := 13) (tgt := 52) hM rfl rfl rfl ?_ ?_
  · exact e_ret hM rfl rfl
  · refine e_aload_n (pc2 := 14) hM rfl rfl rfl ?_
    refine e_getfr (pc2 := 17) (k := 26) (b := 8) hM rfl rfl rfl rfl rfl ?_
    refine e_getfr (pc2 := 20) (k := 7) (b := 16) hM rfl rfl rfl rfl rfl ?_
    refine e_iload_n (pc2 := 21) hM rfl rfl rfl ?_
    refine e_aload_n (pc2 := 22) hM rfl rfl rfl ?_
    refine e_cvi (pc2 := 25) (k := 26) (As := [.ref 27]) (rest := [.int b1, .ref 16]) hM rfl rfl rfl rfl rfl rfl rfl (fun x2 h1 => ?_)
    refine e_iload_n (pc2 := 26) hM rfl rfl rfl ?_
    refine e_csi (pc2 := 29) (As := [.int x2, .int b1]) (rest := [.int b1, .ref 16]) hM rfl rfl rfl rfl rfl rfl rfl (fun x4 h3 => ?_)
    refine e_if_eq (pc2 := 32) (tgt := 44) hM rfl rfl rfl ?_ ?_
    · refine e_iconst (pc2 := 45) (v := nI 0) hM rfl rfl rfl ?_
      refine e_iast (pc2 := 46) (k := 15) hM rfl rfl rfl (fun j5 => ?_)
      refine e_iinc (pc2 := 49) (v := nI 1) (L2 := [some (.ref 27), some (.int (b1 + (nI 1)))]) hM rfl rfl rfl rfl rfl ?_
      refine e_goto (tgt := 2) hM rfl rfl ?_
      exact rfl
    · refine e_aload_n (pc2 := 33) hM rfl rfl rfl ?_
      refine e_getfr (pc2 := 36) (k := 26) (b := 21) hM rfl rfl rfl rfl rfl ?_
      refine e_getfr (pc2 := 39) (k := 20) (b := 24) hM rfl rfl rfl rfl rfl ?_
      refine e_iload_n (pc2 := 40) hM rfl rfl rfl ?_
      refine e_iald (pc2 := 41) (k := 23) (V := fun j6 => (h3 23 j6)) hM rfl rfl rfl (fun _ => rfl) (fun j6 => ?_)
      refine e_goto (tgt := 45) hM rfl rfl ?_
      refine e_iast (pc2 := 46) (k := 15) hM rfl rfl rfl (fun j7 => ?_)
      refine e_iinc (pc2 := 49) (v := nI 1) (L2 := [some (.ref 27), some (.int (b1 + (nI 1)))]) hM rfl rfl rfl rfl rfl ?_
      refine e_goto (tgt := 2) hM rfl rfl ?_
      exact rfl
theorem qX4_putLast_0 {sl : Nat} {xs : Nat → Int32} {d : Nat} {a0 : Int32} {h : pmH} : pm_cf (pm_Ev sl xs) (d + 1) 28 [.ref 29, .int a0] (SH, h) = pm_ix none a0 24 fun j1 => some (none, (SH, (pm_up h 30 j1 a0))) := by
  have hM : pm_mt 28 = some mt_28 := rfl
  refine e_call (L := [some (.ref 29), some (.int a0)]) hM rfl rfl ?_
  refine e_aload_n (pc2 := 1) hM rfl rfl rfl ?_
  refine e_getfr (pc2 := 4) (k := 28) (b := 31) hM rfl rfl rfl rfl rfl ?_
  refine e_iload_n (pc2 := 5) hM rfl rfl rfl ?_
  refine e_iload_n (pc2 := 6) hM rfl rfl rfl ?_
  refine e_iast (pc2 := 7) (k := 30) hM rfl rfl rfl (fun j1 => ?_)
  exact e_ret hM rfl rfl
theorem qX4_placeOf_0 {sl : Nat} {xs : Nat → Int32} {d : Nat} {a0 : Int32} {h : pmH} : pm_cf (pm_Ev sl xs) (d + 1) 29 [.ref 29, .int a0] (SH, h) = pm_Ev sl xs d 29 2 [some (.ref 29), some (.int a0), some (.int (nI 0))] [] (SH, h) := by
  have hM : pm_mt 29 = some mt_29 := rfl
  refine e_call (L := [some (.ref 29), some (.int a0), none]) hM rfl rfl ?_
  refine e_iconst (pc2 := 1) (v := nI 0) hM rfl rfl rfl ?_
  refine e_istore_n (pc2 := 2) (L2 := [some (.ref 29), some (.int a0), some (.int (nI 0))]) hM rfl rfl rfl rfl ?_
  exact rfl
theorem qX4_placeOf_2 {sl : Nat} {xs : Nat → Int32} {d : Nat} {b1 b2 : Int32} {h : pmH} : pm_Ev sl xs d 29 2 [some (.ref 29), some (.int b1), some (.int b2)] [] (SH, h) = if (h 7 0) ≤ b2 then (some (some (.int (-nI 1)), (SH, h))) else (pm_ix none b2 24 fun j1 => if (h 30 j1) = b1 then (some (some (.int b2), (SH, h))) else (pm_Ev sl xs d 29 2 [some (.ref 29), some (.int b1), some (.int (b2 + (nI 1)))] [] (SH, h))) := by
  have hM : pm_mt 29 = some mt_29 := rfl
  refine e_iload_n (pc2 := 3) hM rfl rfl rfl ?_
  refine e_aload_n (pc2 := 4) hM rfl rfl rfl ?_
  refine e_getfr (pc2 := 7) (k := 28) (b := 8) hM rfl rfl rfl rfl rfl ?_
  refine e_getfi (pc2 := 10) (k := 7) (v := (h 7 0)) hM rfl rfl rfl rfl rfl rfl ?_
  refine e_icmp_ge (pc2 := 13) (tgt := 31) hM rfl rfl rfl ?_ ?_
  · refine e_iconst (pc2 := 32) (v := -nI 1) hM rfl rfl rfl ?_
    exact e_iret hM rfl rfl
  · refine e_aload_n (pc2 := 14) hM rfl rfl rfl ?_
    refine e_getfr (pc2 := 17) (k := 28) (b := 31) hM rfl rfl rfl rfl rfl ?_
    refine e_iload_n (pc2 := 18) hM rfl rfl rfl ?_
    refine e_iald (pc2 := 19) (k := 30) (V := fun j1 => (h 30 j1)) hM rfl rfl rfl (fun _ => rfl) (fun j1 => ?_)
    refine e_iload_n (pc2 := 20) hM rfl rfl rfl ?_
    refine e_icmp_ne (pc2 := 23) (tgt := 25) hM rfl rfl rfl ?_ ?_
    · refine e_iinc (pc2 := 28) (v := nI 1) (L2 := [some (.ref 29), some (.int b1), some (.int (b2 + (nI 1)))]) hM rfl rfl rfl rfl rfl ?_
      refine e_goto (tgt := 2) hM rfl rfl ?_
      exact rfl
    · refine e_iload_n (pc2 := 24) hM rfl rfl rfl ?_
      exact e_iret hM rfl rfl
theorem qX4_move_0 {sl : Nat} {xs : Nat → Int32} {d : Nat} {a0 a1 : Int32} {h : pmH} : pm_cf (pm_Ev sl xs) (d + 2) 30 [.ref 29, .int a0, .int a1] (SH, h) = pm_ri (pm_cf (pm_Ev sl xs) (d + 1) 29 [.ref 29, .int a0] (SH, h)) SH fun x2 h1 => if 0 ≤ x2 then (pm_Ev sl xs (d + 1) 30 15 [some (.ref 29), some (.int a0), some (.int a1), some (.int x2), some (.int x2)] [] (SH, h1)) else (some (some (.int x2), (SH, h1))) := by
  have hM : pm_mt 30 = some mt_30 := rfl
  refine e_call (L := [some (.ref 29), some (.int a0), some (.int a1), none, none]) hM rfl rfl ?_
  refine e_aload_n (pc2 := 1) hM rfl rfl rfl ?_
  refine e_iload_n (pc2 := 2) hM rfl rfl rfl ?_
  refine e_cvi (pc2 := 5) (k := 28) (As := [.ref 29, .int a0]) (rest := []) hM rfl rfl rfl rfl rfl rfl rfl (fun x2 h1 => ?_)
  refine e_istore_n (pc2 := 6) (L2 := [some (.ref 29), some (.int a0), some (.int a1), some (.int x2), none]) hM rfl rfl rfl rfl ?_
  refine e_iload_n (pc2 := 7) hM rfl rfl rfl ?_
  refine e_if_ge (pc2 := 10) (tgt := 12) hM rfl rfl rfl ?_ ?_
  · refine e_iload_n (pc2 := 13) hM rfl rfl rfl ?_
    refine e_istore (pc2 := 15) (L2 := [some (.ref 29), some (.int a0), some (.int a1), some (.int x2), some (.int x2)]) hM rfl rfl rfl rfl ?_
    exact rfl
  · refine e_iload_n (pc2 := 11) hM rfl rfl rfl ?_
    exact e_iret hM rfl rfl
theorem qX4_move_15 {sl : Nat} {xs : Nat → Int32} {d : Nat} {b1 b2 b3 b4 : Int32} {h : pmH} : pm_Ev sl xs (d + 1) 30 15 [some (.ref 29), some (.int b1), some (.int b2), some (.int b3), some (.int b4)] [] (SH, h) = if b2 ≤ b4 then (pm_Ev sl xs (d + 1) 30 46 [some (.ref 29), some (.int b1), some (.int b2), some (.int b3), some (.int b3)] [] (SH, h)) else (pm_ix none (b4 + (nI 1)) 24 fun j1 => pm_ix none b4 24 fun j2 => pm_Ev sl xs (d + 1) 30 15 [some (.ref 29), some (.int b1), some (.int b2), some (.int b3), some (.int (b4 + (nI 1)))] [] (SH, (pm_up h 30 j2 (h 30 j1)))) := by
  have hM : pm_mt 30 = some mt_30 := rfl
  refine e_iload (pc2 := 17) hM rfl rfl rfl ?_
  refine e_iload_n (pc2 := 18) hM rfl rfl rfl ?_
  refine e_icmp_ge (pc2 := 21) (tgt := 43) hM rfl rfl rfl ?_ ?_
  · refine e_iload_n (pc2 := 44) hM rfl rfl rfl ?_
    refine e_istore (pc2 := 46) (L2 := [some (.ref 29), some (.int b1), some (.int b2), some (.int b3), some (.int b3)]) hM rfl rfl rfl rfl ?_
    exact rfl
  · refine e_aload_n (pc2 := 22) hM rfl rfl rfl ?_
    refine e_getfr (pc2 := 25) (k := 28) (b := 31) hM rfl rfl rfl rfl rfl ?_
    refine e_iload (pc2 := 27) hM rfl rfl rfl ?_
    refine e_aload_n (pc2 := 28) hM rfl rfl rfl ?_
    refine e_getfr (pc2 := 31) (k := 28) (b := 31) hM rfl rfl rfl rfl rfl ?_
    refine e_iload (pc2 := 33) hM rfl rfl rfl ?_
    refine e_iconst (pc2 := 34) (v := nI 1) hM rfl rfl rfl ?_
    refine e_iadd (pc2 := 35) hM rfl rfl ?_
    refine e_iald (pc2 := 36) (k := 30) (V := fun j1 => (h 30 j1)) hM rfl rfl rfl (fun _ => rfl) (fun j1 => ?_)
    refine e_iast (pc2 := 37) (k := 30) hM rfl rfl rfl (fun j2 => ?_)
    refine e_iinc (pc2 := 40) (v := nI 1) (L2 := [some (.ref 29), some (.int b1), some (.int b2), some (.int b3), some (.int (b4 + (nI 1)))]) hM rfl rfl rfl rfl rfl ?_
    refine e_goto (tgt := 15) hM rfl rfl ?_
    exact rfl
theorem qX4_move_46 {sl : Nat} {xs : Nat → Int32} {d : Nat} {b1 b2 b3 b4 : Int32} {h : pmH} : pm_Ev sl xs (d + 1) 30 46 [some (.ref 29), some (.int b1), some (.int b2), some (.int b3), some (.int b4)] [] (SH, h) = if b4 ≤ b2 then (pm_ix none b2 24 fun j1 => some (some (.int b3), (SH, (pm_up h 30 j1 b1)))) else (pm_ix none (b4 - (nI 1)) 24 fun j2 => pm_ix none b4 24 fun j3 => pm_Ev sl xs (d + 1) 30 46 [some (.ref 29), some (.int b1), some (.int b2), some (.int b3), some (.int (b4 + (-nI 1)))] [] (SH, (pm_up h 30 j3 (h 30 j2)))) := by
  have hM : pm_mt 30 = some mt_30 := rfl
  refine e_iload (pc2 := 48) hM rfl rfl rfl ?_
  refine e_iload_n (pc2 := 49) hM rfl rfl rfl ?_
  refine e_icmp_le (pc2 := 52) (tgt := 74) hM rfl rfl rfl ?_ ?_
  · refine e_aload_n (pc2 := 75) hM rfl rfl rfl ?_
    refine e_getfr (pc2 := 78) (k := 28) (b := 31) hM rfl rfl rfl rfl rfl ?_
    refine e_iload_n (pc2 := 79) hM rfl rfl rfl ?_
    refine e_iload_n (pc2 := 80) hM rfl rfl rfl ?_
    refine e_iast (pc2 := 81) (k := 30) hM rfl rfl rfl (fun j1 => ?_)
    refine e_iload_n (pc2 := 82) hM rfl rfl rfl ?_
    exact e_iret hM rfl rfl
  · refine e_aload_n (pc2 := 53) hM rfl rfl rfl ?_
    refine e_getfr (pc2 := 56) (k := 28) (b := 31) hM rfl rfl rfl rfl rfl ?_
    refine e_iload (pc2 := 58) hM rfl rfl rfl ?_
    refine e_aload_n (pc2 := 59) hM rfl rfl rfl ?_
    refine e_getfr (pc2 := 62) (k := 28) (b := 31) hM rfl rfl rfl rfl rfl ?_
    refine e_iload (pc2 := 64) hM rfl rfl rfl ?_
    refine e_iconst (pc2 := 65) (v := nI 1) hM rfl rfl rfl ?_
    refine e_isub (pc2 := 66) hM rfl rfl ?_
    refine e_iald (pc2 := 67) (k := 30) (V := fun j2 => (h 30 j2)) hM rfl rfl rfl (fun _ => rfl) (fun j2 => ?_)
    refine e_iast (pc2 := 68) (k := 30) hM rfl rfl rfl (fun j3 => ?_)
    refine e_iinc (pc2 := 71) (v := -nI 1) (L2 := [some (.ref 29), some (.int b1), some (.int b2), some (.int b3), some (.int (b4 + (-nI 1)))]) hM rfl rfl rfl rfl rfl ?_
    refine e_goto (tgt := 46) hM rfl rfl ?_
    exact rfl
theorem qX4_hangAll_0 {sl : Nat} {xs : Nat → Int32} {d : Nat} {h : pmH} : pm_cf (pm_Ev sl xs) (d + 2) 31 [.ref 29] (SH, h) = pm_rv (pm_cf (pm_Ev sl xs) (d + 1) 32 [.ref 29] (SH, h)) SH fun h1 => pm_Ev sl xs (d + 1) 31 8 [some (.ref 29), some (.int (nI 0)), some (.int (nI 0))] [] (SH, h1) := by
  have hM : pm_mt 31 = some mt_31 := rfl
  refine e_call (L := [some (.ref 29), none, none]) hM rfl rfl ?_
  refine e_aload_n (pc2 := 1) hM rfl rfl rfl ?_
  refine e_cvv (pc2 := 4) (k := 28) (As := [.ref 29]) (rest := []) hM rfl rfl rfl rfl rfl rfl rfl (fun h1 => ?_)
  refine e_iconst (pc2 := 5) (v := nI 0) hM rfl rfl rfl ?_
  refine e_istore_n (pc2 := 6) (L2 := [some (.ref 29), some (.int (nI 0)), none]) hM rfl rfl rfl rfl ?_
  refine e_iconst (pc2 := 7) (v := nI 0) hM rfl rfl rfl ?_
  refine e_istore_n (pc2 := 8) (L2 := [some (.ref 29), some (.int (nI 0)), some (.int (nI 0))]) hM rfl rfl rfl rfl ?_
  exact rfl
theorem qX4_hangAll_8 {sl : Nat} {xs : Nat → Int32} {d : Nat} {b1 b2 : Int32} {h : pmH} : pm_Ev sl xs (d + 1) 31 8 [some (.ref 29), some (.int b1), some (.int b2)] [] (SH, h) = if (h 7 0) ≤ b2 then (some (some (.int b1), (SH, h))) else (pm_ix none b2 24 fun j1 => pm_ri (pm_cf (pm_Ev sl xs) (d + 1) 33 [.ref 29, .int (h 30 j1)] (SH, h)) SH fun x3 h2 => pm_Ev sl xs (d + 1) 31 8 [some (.ref 29), some (.int (if b1 < x3 then x3 else b1)), some (.int (b2 + (nI 1)))] [] (SH, h2)) := by
  have hM : pm_mt 31 = some mt_31 := rfl
  refine e_iload_n (pc2 := 9) hM rfl rfl rfl ?_
  refine e_aload_n (pc2 := 10) hM rfl rfl rfl ?_
  refine e_getfr (pc2 := 13) (k := 28) (b := 8) hM rfl rfl rfl rfl rfl ?_
  refine e_getfi (pc2 := 16) (k := 7) (v := (h 7 0)) hM rfl rfl rfl rfl rfl rfl ?_
  refine e_icmp_ge (pc2 := 19) (tgt := 40) hM rfl rfl rfl ?_ ?_
  · refine e_iload_n (pc2 := 41) hM rfl rfl rfl ?_
    exact e_iret hM rfl rfl
  · refine e_iload_n (pc2 := 20) hM rfl rfl rfl ?_
    refine e_aload_n (pc2 := 21) hM rfl rfl rfl ?_
    refine e_aload_n (pc2 := 22) hM rfl rfl rfl ?_
    refine e_getfr (pc2 := 25) (k := 28) (b := 31) hM rfl rfl rfl rfl rfl ?_
    refine e_iload_n (pc2 := 26) hM rfl rfl rfl ?_
    refine e_iald (pc2 := 27) (k := 30) (V := fun j1 => (h 30 j1)) hM rfl rfl rfl (fun _ => rfl) (fun j1 => ?_)
    refine e_cvi (pc2 := 30) (k := 28) (As := [.ref 29, .int (h 30 j1)]) (rest := [.int b1]) hM rfl rfl rfl rfl rfl rfl rfl (fun x3 h2 => ?_)
    refine e_max (pc2 := 33) hM rfl rfl rfl rfl ?_
    refine e_istore_n (pc2 := 34) (L2 := [some (.ref 29), some (.int (if b1 < x3 then x3 else b1)), some (.int b2)]) hM rfl rfl rfl rfl ?_
    refine e_iinc (pc2 := 37) (v := nI 1) (L2 := [some (.ref 29), some (.int (if b1 < x3 then x3 else b1)), some (.int (b2 + (nI 1)))]) hM rfl rfl rfl rfl rfl ?_
    refine e_goto (tgt := 8) hM rfl rfl ?_
    exact rfl
theorem qX4_clearNights_0 {sl : Nat} {xs : Nat → Int32} {d : Nat} {h : pmH} : pm_cf (pm_Ev sl xs) (d + 2) 32 [.ref 29] (SH, h) = pm_rv (pm_cf (pm_Ev sl xs) (d + 1) 151 [.ref 34, .int (h 28 2)] (SH, h)) SH fun h1 => pm_rv (pm_cf (pm_Ev sl xs) (d + 1) 151 [.ref 32, .int (-nI 1)] (SH, h1)) SH fun h2 => pm_rv (pm_cf (pm_Ev sl xs) (d + 1) 151 [.ref 33, .int (-nI 1)] (SH, h2)) SH fun h3 => some (none, (SH, h3)) := by
  have hM : pm_mt 32 = some mt_32 := rfl
  refine e_call (L := [some (.ref 29)]) hM rfl rfl ?_
  refine e_aload_n (pc2 := 1) hM rfl rfl rfl ?_
  refine e_getfr (pc2 := 4) (k := 28) (b := 34) hM rfl rfl rfl rfl rfl ?_
  refine e_aload_n (pc2 := 5) hM rfl rfl rfl ?_
  refine e_getfi (pc2 := 8) (k := 28) (v := (h 28 2)) hM rfl rfl rfl rfl rfl rfl ?_
  refine e_csv (pc2 := 11) (As := [.ref 34, .int (h 28 2)]) (rest := []) hM rfl rfl rfl rfl rfl rfl rfl (fun h1 => ?_)
  refine e_aload_n (pc2 := 12) hM rfl rfl rfl ?_
  refine e_getfr (pc2 := 15) (k := 28) (b := 32) hM rfl rfl rfl rfl rfl ?_
  refine e_iconst (pc2 := 16) (v := -nI 1) hM rfl rfl rfl ?_
  refine e_csv (pc2 := 19) (As := [.ref 32, .int (-nI 1)]) (rest := []) hM rfl rfl rfl rfl rfl rfl rfl (fun h2 => ?_)
  refine e_aload_n (pc2 := 20) hM rfl rfl rfl ?_
  refine e_getfr (pc2 := 23) (k := 28) (b := 33) hM rfl rfl rfl rfl rfl ?_
  refine e_iconst (pc2 := 24) (v := -nI 1) hM rfl rfl rfl ?_
  refine e_csv (pc2 := 27) (As := [.ref 33, .int (-nI 1)]) (rest := []) hM rfl rfl rfl rfl rfl rfl rfl (fun h3 => ?_)
  exact e_ret hM rfl rfl
theorem qX4_endWith_0 {sl : Nat} {xs : Nat → Int32} {d : Nat} {a0 : Int32} {h : pmH} : pm_cf (pm_Ev sl xs) (d + 2) 33 [.ref 29, .int a0] (SH, h) = pm_ix none a0 24 fun j1 => if 0 ≤ (h 9 j1) then (pm_ix none (h 9 j1) 24 fun j2 => if (h 31 j2) < 0 then (some (some (.int (nI 99)), (SH, h))) else (pm_ri (pm_cf (pm_Ev sl xs) (d + 1) 48 [.ref 8, .int a0] (SH, h)) SH fun x4 h3 => if x4 ≤ (h3 28 2) then (pm_ix none a0 24 fun j5 => pm_ix none (h3 10 j5) 8 fun j6 => pm_Ev sl xs (d + 1) 33 66 [some (.ref 29), some (.int a0), some (.int (h 9 j1)), some (.int (h 31 j2)), some (.int (h3 29 j6)), some (.int (h 31 j2)), none] [] (SH, h3)) else (some (some (.int (nI 99)), (SH, h3))))) else (if (nI 0) < 0 then (some (some (.int (nI 99)), (SH, h))) else (pm_ri (pm_cf (pm_Ev sl xs) (d + 1) 48 [.ref 8, .int a0] (SH, h)) SH fun x8 h7 => if x8 ≤ (h7 28 2) then (pm_ix none a0 24 fun j9 => pm_ix none (h7 10 j9) 8 fun j10 => pm_Ev sl xs (d + 1) 33 66 [some (.ref 29), some (.int a0), some (.int (h 9 j1)), some (.int (nI 0)), some (.int (h7 29 j10)), some (.int (nI 0)), none] [] (SH, h7)) else (some (some (.int (nI 99)), (SH, h7))))) := by
  have hM : pm_mt 33 = some mt_33 := rfl
  refine e_call (L := [some (.ref 29), some (.int a0), none, none, none, none, none]) hM rfl rfl ?_
  refine e_aload_n (pc2 := 1) hM rfl rfl rfl ?_
  refine e_getfr (pc2 := 4) (k := 28) (b := 8) hM rfl rfl rfl rfl rfl ?_
  refine e_getfr (pc2 := 7) (k := 7) (b := 10) hM rfl rfl rfl rfl rfl ?_
  refine e_iload_n (pc2 := 8) hM rfl rfl rfl ?_
  refine e_iald (pc2 := 9) (k := 9) (V := fun j1 => (h 9 j1)) hM rfl rfl rfl (fun _ => rfl) (fun j1 => ?_)
  refine e_istore_n (pc2 := 10) (L2 := [some (.ref 29), some (.int a0), some (.int (h 9 j1)), none, none, none, none]) hM rfl rfl rfl rfl ?_
  refine e_iload_n (pc2 := 11) hM rfl rfl rfl ?_
  refine e_if_ge (pc2 := 14) (tgt := 18) hM rfl rfl rfl ?_ ?_
  · refine e_aload_n (pc2 := 19) hM rfl rfl rfl ?_
    refine e_getfr (pc2 := 22) (k := 28) (b := 32) hM rfl rfl rfl rfl rfl ?_
    refine e_iload_n (pc2 := 23) hM rfl rfl rfl ?_
    refine e_iald (pc2 := 24) (k := 31) (V := fun j2 => (h 31 j2)) hM rfl rfl rfl (fun _ => rfl) (fun j2 => ?_)
    refine e_istore_n (pc2 := 25) (L2 := [some (.ref 29), some (.int a0), some (.int (h 9 j1)), some (.int (h 31 j2)), none, none, none]) hM rfl rfl rfl rfl ?_
    refine e_iload_n (pc2 := 26) hM rfl rfl rfl ?_
    refine e_if_lt (pc2 := 29) (tgt := 44) hM rfl rfl rfl ?_ ?_
    · refine e_bipush (pc2 := 46) (v := nI 99) hM rfl rfl rfl rfl ?_
      exact e_iret hM rfl rfl
    · refine e_aload_n (pc2 := 30) hM rfl rfl rfl ?_
      refine e_getfr (pc2 := 33) (k := 28) (b := 8) hM rfl rfl rfl rfl rfl ?_
      refine e_iload_n (pc2 := 34) hM rfl rfl rfl ?_
      refine e_cvi (pc2 := 37) (k := 7) (As := [.ref 8, .int a0]) (rest := []) hM rfl rfl rfl rfl rfl rfl rfl (fun x4 h3 => ?_)
      refine e_aload_n (pc2 := 38) hM rfl rfl rfl ?_
      refine e_getfi (pc2 := 41) (k := 28) (v := (h3 28 2)) hM rfl rfl rfl rfl rfl rfl ?_
      refine e_icmp_le (pc2 := 44) (tgt := 47) hM rfl rfl rfl ?_ ?_
      · refine e_aload_n (pc2 := 48) hM rfl rfl rfl ?_
        refine e_getfr (pc2 := 51) (k := 28) (b := 30) hM rfl rfl rfl rfl rfl ?_
        refine e_aload_n (pc2 := 52) hM rfl rfl rfl ?_
        refine e_getfr (pc2 := 55) (k := 28) (b := 8) hM rfl rfl rfl rfl rfl ?_
        refine e_getfr (pc2 := 58) (k := 7) (b := 11) hM rfl rfl rfl rfl rfl ?_
        refine e_iload_n (pc2 := 59) hM rfl rfl rfl ?_
        refine e_iald (pc2 := 60) (k := 10) (V := fun j5 => (h3 10 j5)) hM rfl rfl rfl (fun _ => rfl) (fun j5 => ?_)
        refine e_iald (pc2 := 61) (k := 29) (V := fun j6 => (h3 29 j6)) hM rfl rfl rfl (fun _ => rfl) (fun j6 => ?_)
        refine e_istore (pc2 := 63) (L2 := [some (.ref 29), some (.int a0), some (.int (h 9 j1)), some (.int (h 31 j2)), some (.int (h3 29 j6)), none, none]) hM rfl rfl rfl rfl ?_
        refine e_iload_n (pc2 := 64) hM rfl rfl rfl ?_
        refine e_istore (pc2 := 66) (L2 := [some (.ref 29), some (.int a0), some (.int (h 9 j1)), some (.int (h 31 j2)), some (.int (h3 29 j6)), some (.int (h 31 j2)), none]) hM rfl rfl rfl rfl ?_
        exact rfl
      · refine e_bipush (pc2 := 46) (v := nI 99) hM rfl rfl rfl rfl ?_
        exact e_iret hM rfl rfl
  · refine e_iconst (pc2 := 15) (v := nI 0) hM rfl rfl rfl ?_
    refine e_goto (tgt := 24) hM rfl rfl ?_
    refine e_istore_n (pc2 := 25) (L2 := [some (.ref 29), some (.int a0), some (.int (h 9 j1)), some (.int (nI 0)), none, none, none]) hM rfl rfl rfl rfl ?_
    refine e_iload_n (pc2 := 26) hM rfl rfl rfl ?_
    refine e_if_lt (pc2 := 29) (tgt := 44) hM rfl rfl rfl ?_ ?_
    · refine e_bipush (pc2 := 46) (v := nI 99) hM rfl rfl rfl rfl ?_
      exact e_iret hM rfl rfl
    · refine e_aload_n (pc2 := 30) hM rfl rfl rfl ?_
      refine e_getfr (pc2 := 33) (k := 28) (b := 8) hM rfl rfl rfl rfl rfl ?_
      refine e_iload_n (pc2 := 34) hM rfl rfl rfl ?_
      refine e_cvi (pc2 := 37) (k := 7) (As := [.ref 8, .int a0]) (rest := []) hM rfl rfl rfl rfl rfl rfl rfl (fun x8 h7 => ?_)
      refine e_aload_n (pc2 := 38) hM rfl rfl rfl ?_
      refine e_getfi (pc2 := 41) (k := 28) (v := (h7 28 2)) hM rfl rfl rfl rfl rfl rfl ?_
      refine e_icmp_le (pc2 := 44) (tgt := 47) hM rfl rfl rfl ?_ ?_
      · refine e_aload_n (pc2 := 48) hM rfl rfl rfl ?_
        refine e_getfr (pc2 := 51) (k := 28) (b := 30) hM rfl rfl rfl rfl rfl ?_
        refine e_aload_n (pc2 := 52) hM rfl rfl rfl ?_
        refine e_getfr (pc2 := 55) (k := 28) (b := 8) hM rfl rfl rfl rfl rfl ?_
        refine e_getfr (pc2 := 58) (k := 7) (b := 11) hM rfl rfl rfl rfl rfl ?_
        refine e_iload_n (pc2 := 59) hM rfl rfl rfl ?_
        refine e_iald (pc2 := 60) (k := 10) (V := fun j9 => (h7 10 j9)) hM rfl rfl rfl (fun _ => rfl) (fun j9 => ?_)
        refine e_iald (pc2 := 61) (k := 29) (V := fun j10 => (h7 29 j10)) hM rfl rfl rfl (fun _ => rfl) (fun j10 => ?_)
        refine e_istore (pc2 := 63) (L2 := [some (.ref 29), some (.int a0), some (.int (h 9 j1)), some (.int (nI 0)), some (.int (h7 29 j10)), none, none]) hM rfl rfl rfl rfl ?_
        refine e_iload_n (pc2 := 64) hM rfl rfl rfl ?_
        refine e_istore (pc2 := 66) (L2 := [some (.ref 29), some (.int a0), some (.int (h 9 j1)), some (.int (nI 0)), some (.int (h7 29 j10)), some (.int (nI 0)), none]) hM rfl rfl rfl rfl ?_
        exact rfl
      · refine e_bipush (pc2 := 46) (v := nI 99) hM rfl rfl rfl rfl ?_
        exact e_iret hM rfl rfl
theorem qX4_endWith_66 {sl : Nat} {xs : Nat → Int32} {d : Nat} {b1 b4 b5 : Int32} {o2 o3 o6 : Option Value} {h : pmH} : pm_Ev sl xs (d + 1) 33 66 [some (.ref 29), some (.int b1), o2, o3, some (.int b4), some (.int b5), o6] [] (SH, h) = if (nI 60) ≤ b5 then (some (some (.int (nI 99)), (SH, h))) else (if nI 7 = 0 then none else (pm_ri (pm_cf (pm_Ev sl xs) (d + 1) 88 [.int b4, .int (b5 - b5 / (nI 7) * (nI 7))] (SH, h)) SH fun x2 h1 => if x2 = 0 then (if (-nI 1) < 0 then (pm_Ev sl xs (d + 1) 33 66 [some (.ref 29), some (.int b1), o2, o3, some (.int b4), some (.int (b5 + (nI 1))), some (.int (-nI 1))] [] (SH, h1)) else (pm_ix none ((b5 * (nI 3)) + (-nI 1)) 180 fun j3 => pm_ri (pm_cf (pm_Ev sl xs) (d + 1) 48 [.ref 8, .int b1] (SH, h1)) SH fun x5 h4 => pm_ix none ((b5 * (nI 3)) + (-nI 1)) 180 fun j6 => pm_ix none b1 24 fun j7 => pm_ix none b1 24 fun j8 => some (some (.int ((nI 1) + b5)), (SH, (pm_up (pm_up (pm_up h4 33 j6 ((h1 33 j3) - x5)) 31 j7 b5) 32 j8 (-nI 1)))))) else (pm_ri (pm_cf (pm_Ev sl xs) (d + 1) 48 [.ref 8, .int b1] (SH, h1)) SH fun x10 h9 => pm_ri (pm_cf (pm_Ev sl xs) (d + 1) 34 [.ref 29, .int b5, .int x10] (SH, h9)) SH fun x12 h11 => if x12 < 0 then (pm_Ev sl xs (d + 1) 33 66 [some (.ref 29), some (.int b1), o2, o3, some (.int b4), some (.int (b5 + (nI 1))), some (.int x12)] [] (SH, h11)) else (pm_ix none ((b5 * (nI 3)) + x12) 180 fun j13 => pm_ri (pm_cf (pm_Ev sl xs) (d + 1) 48 [.ref 8, .int b1] (SH, h11)) SH fun x15 h14 => pm_ix none ((b5 * (nI 3)) + x12) 180 fun j16 => pm_ix none b1 24 fun j17 => pm_ix none b1 24 fun j18 => some (some (.int ((nI 1) + b5)), (SH, (pm_up (pm_up (pm_up h14 33 j16 ((h11 33 j13) - x15)) 31 j17 b5) 32 j18 x12))))))) := by
  have hM : pm_mt 33 = some mt_33 := rfl
  refine e_iload (pc2 := 68) hM rfl rfl rfl ?_
  refine e_bipush (pc2 := 70) (v := nI 60) hM rfl rfl rfl rfl ?_
  refine e_icmp_ge (pc2 := 73) (tgt := 161) hM rfl rfl rfl ?_ ?_
  · refine e_bipush (pc2 := 163) (v := nI 99) hM rfl rfl rfl rfl ?_
    exact e_iret hM rfl rfl
  · refine e_iload (pc2 := 75) hM rfl rfl rfl ?_
    refine e_iload (pc2 := 77) hM rfl rfl rfl ?_
    refine e_bipush (pc2 := 79) (v := nI 7) hM rfl rfl rfl rfl ?_
    refine e_irem (pc2 := 80) hM rfl rfl ?_
    refine e_csi (pc2 := 83) (As := [.int b4, .int (b5 - b5 / (nI 7) * (nI 7))]) (rest := []) hM rfl rfl rfl rfl rfl rfl rfl (fun x2 h1 => ?_)
    refine e_if_eq (pc2 := 86) (tgt := 103) hM rfl rfl rfl ?_ ?_
    · refine e_iconst (pc2 := 104) (v := -nI 1) hM rfl rfl rfl ?_
      refine e_istore (pc2 := 106) (L2 := [some (.ref 29), some (.int b1), o2, o3, some (.int b4), some (.int b5), some (.int (-nI 1))]) hM rfl rfl rfl rfl ?_
      refine e_iload (pc2 := 108) hM rfl rfl rfl ?_
      refine e_if_lt (pc2 := 111) (tgt := 155) hM rfl rfl rfl ?_ ?_
      · refine e_iinc (pc2 := 158) (v := nI 1) (L2 := [some (.ref 29), some (.int b1), o2, o3, some (.int b4), some (.int (b5 + (nI 1))), some (.int (-nI 1))]) hM rfl rfl rfl rfl rfl ?_
        refine e_goto (tgt := 66) hM rfl rfl ?_
        exact rfl
      · refine e_aload_n (pc2 := 112) hM rfl rfl rfl ?_
        refine e_getfr (pc2 := 115) (k := 28) (b := 34) hM rfl rfl rfl rfl rfl ?_
        refine e_iload (pc2 := 117) hM rfl rfl rfl ?_
        refine e_iconst (pc2 := 118) (v := nI 3) hM rfl rfl rfl ?_
        refine e_imul (pc2 := 119) hM rfl rfl ?_
        refine e_iload (pc2 := 121) hM rfl rfl rfl ?_
        refine e_iadd (pc2 := 122) hM rfl rfl ?_
        refine e_dup2 (pc2 := 123) hM rfl rfl rfl rfl ?_
        refine e_iald (pc2 := 124) (k := 33) (V := fun j3 => (h1 33 j3)) hM rfl rfl rfl (fun _ => rfl) (fun j3 => ?_)
        refine e_aload_n (pc2 := 125) hM rfl rfl rfl ?_
        refine e_getfr (pc2 := 128) (k := 28) (b := 8) hM rfl rfl rfl rfl rfl ?_
        refine e_iload_n (pc2 := 129) hM rfl rfl rfl ?_
        refine e_cvi (pc2 := 132) (k := 7) (As := [.ref 8, .int b1]) (rest := [.int (h1 33 j3), .int ((b5 * (nI 3)) + (-nI 1)), .ref 34]) hM rfl rfl rfl rfl rfl rfl rfl (fun x5 h4 => ?_)
        refine e_isub (pc2 := 133) hM rfl rfl ?_
        refine e_iast (pc2 := 134) (k := 33) hM rfl rfl rfl (fun j6 => ?_)
        refine e_aload_n (pc2 := 135) hM rfl rfl rfl ?_
        refine e_getfr (pc2 := 138) (k := 28) (b := 32) hM rfl rfl rfl rfl rfl ?_
        refine e_iload_n (pc2 := 139) hM rfl rfl rfl ?_
        refine e_iload (pc2 := 141) hM rfl rfl rfl ?_
        refine e_iast (pc2 := 142) (k := 31) hM rfl rfl rfl (fun j7 => ?_)
        refine e_aload_n (pc2 := 143) hM rfl rfl rfl ?_
        refine e_getfr (pc2 := 146) (k := 28) (b := 33) hM rfl rfl rfl rfl rfl ?_
        refine e_iload_n (pc2 := 147) hM rfl rfl rfl ?_
        refine e_iload (pc2 := 149) hM rfl rfl rfl ?_
        refine e_iast (pc2 := 150) (k := 32) hM rfl rfl rfl (fun j8 => ?_)
        refine e_iconst (pc2 := 151) (v := nI 1) hM rfl rfl rfl ?_
        refine e_iload (pc2 := 153) hM rfl rfl rfl ?_
        refine e_iadd (pc2 := 154) hM rfl rfl ?_
        exact e_iret hM rfl rfl
    · refine e_aload_n (pc2 := 87) hM rfl rfl rfl ?_
      refine e_iload (pc2 := 89) hM rfl rfl rfl ?_
      refine e_aload_n (pc2 := 90) hM rfl rfl rfl ?_
      refine e_getfr (pc2 := 93) (k := 28) (b := 8) hM rfl rfl rfl rfl rfl ?_
      refine e_iload_n (pc2 := 94) hM rfl rfl rfl ?_
      refine e_cvi (pc2 := 97) (k := 7) (As := [.ref 8, .int b1]) (rest := [.int b5, .ref 29]) hM rfl rfl rfl rfl rfl rfl rfl (fun x10 h9 => ?_)
      refine e_cvi (pc2 := 100) (k := 28) (As := [.ref 29, .int b5, .int x10]) (rest := []) hM rfl rfl rfl rfl rfl rfl rfl (fun x12 h11 => ?_)
      refine e_goto (tgt := 104) hM rfl rfl ?_
      refine e_istore (pc2 := 106) (L2 := [some (.ref 29), some (.int b1), o2, o3, some (.int b4), some (.int b5), some (.int x12)]) hM rfl rfl rfl rfl ?_
      refine e_iload (pc2 := 108) hM rfl rfl rfl ?_
      refine e_if_lt (pc2 := 111) (tgt := 155) hM rfl rfl rfl ?_ ?_
      · refine e_iinc (pc2 := 158) (v := nI 1) (L2 := [some (.ref 29), some (.int b1), o2, o3, some (.int b4), some (.int (b5 + (nI 1))), some (.int x12)]) hM rfl rfl rfl rfl rfl ?_
        refine e_goto (tgt := 66) hM rfl rfl ?_
        exact rfl
      · refine e_aload_n (pc2 := 112) hM rfl rfl rfl ?_
        refine e_getfr (pc2 := 115) (k := 28) (b := 34) hM rfl rfl rfl rfl rfl ?_
        refine e_iload (pc2 := 117) hM rfl rfl rfl ?_
        refine e_iconst (pc2 := 118) (v := nI 3) hM rfl rfl rfl ?_
        refine e_imul (pc2 := 119) hM rfl rfl ?_
        refine e_iload (pc2 := 121) hM rfl rfl rfl ?_
        refine e_iadd (pc2 := 122) hM rfl rfl ?_
        refine e_dup2 (pc2 := 123) hM rfl rfl rfl rfl ?_
        refine e_iald (pc2 := 124) (k := 33) (V := fun j13 => (h11 33 j13)) hM rfl rfl rfl (fun _ => rfl) (fun j13 => ?_)
        refine e_aload_n (pc2 := 125) hM rfl rfl rfl ?_
        refine e_getfr (pc2 := 128) (k := 28) (b := 8) hM rfl rfl rfl rfl rfl ?_
        refine e_iload_n (pc2 := 129) hM rfl rfl rfl ?_
        refine e_cvi (pc2 := 132) (k := 7) (As := [.ref 8, .int b1]) (rest := [.int (h11 33 j13), .int ((b5 * (nI 3)) + x12), .ref 34]) hM rfl rfl rfl rfl rfl rfl rfl (fun x15 h14 => ?_)
        refine e_isub (pc2 := 133) hM rfl rfl ?_
        refine e_iast (pc2 := 134) (k := 33) hM rfl rfl rfl (fun j16 => ?_)
        refine e_aload_n (pc2 := 135) hM rfl rfl rfl ?_
        refine e_getfr (pc2 := 138) (k := 28) (b := 32) hM rfl rfl rfl rfl rfl ?_
        refine e_iload_n (pc2 := 139) hM rfl rfl rfl ?_
        refine e_iload (pc2 := 141) hM rfl rfl rfl ?_
        refine e_iast (pc2 := 142) (k := 31) hM rfl rfl rfl (fun j17 => ?_)
        refine e_aload_n (pc2 := 143) hM rfl rfl rfl ?_
        refine e_getfr (pc2 := 146) (k := 28) (b := 33) hM rfl rfl rfl rfl rfl ?_
        refine e_iload_n (pc2 := 147) hM rfl rfl rfl ?_
        refine e_iload (pc2 := 149) hM rfl rfl rfl ?_
        refine e_iast (pc2 := 150) (k := 32) hM rfl rfl rfl (fun j18 => ?_)
        refine e_iconst (pc2 := 151) (v := nI 1) hM rfl rfl rfl ?_
        refine e_iload (pc2 := 153) hM rfl rfl rfl ?_
        refine e_iadd (pc2 := 154) hM rfl rfl ?_
        exact e_iret hM rfl rfl
theorem qX4_freeCrew_0 {sl : Nat} {xs : Nat → Int32} {d : Nat} {a0 a1 : Int32} {h : pmH} : pm_cf (pm_Ev sl xs) (d + 1) 34 [.ref 29, .int a0, .int a1] (SH, h) = pm_Ev sl xs d 34 2 [some (.ref 29), some (.int a0), some (.int a1), some (.int (nI 0))] [] (SH, h) := by
  have hM : pm_mt 34 = some mt_34 := rfl
  refine e_call (L := [some (.ref 29), some (.int a0), some (.int a1), none]) hM rfl rfl ?_
  refine e_iconst (pc2 := 1) (v := nI 0) hM rfl rfl rfl ?_
  refine e_istore_n (pc2 := 2) (L2 := [some (.ref 29), some (.int a0), some (.int a1), some (.int (nI 0))]) hM rfl rfl rfl rfl ?_
  exact rfl
theorem qX4_freeCrew_2 {sl : Nat} {xs : Nat → Int32} {d : Nat} {b1 b2 b3 : Int32} {h : pmH} : pm_Ev sl xs d 34 2 [some (.ref 29), some (.int b1), some (.int b2), some (.int b3)] [] (SH, h) = if (h 28 1) ≤ b3 then (some (some (.int (-nI 1)), (SH, h))) else (pm_ix none ((b1 * (nI 3)) + b3) 180 fun j1 => if (h 33 j1) < b2 then (pm_Ev sl xs d 34 2 [some (.ref 29), some (.int b1), some (.int b2), some (.int (b3 + (nI 1)))] [] (SH, h)) else (some (some (.int b3), (SH, h)))) := by
  have hM : pm_mt 34 = some mt_34 := rfl
  refine e_iload_n (pc2 := 3) hM rfl rfl rfl ?_
  refine e_aload_n (pc2 := 4) hM rfl rfl rfl ?_
  refine e_getfi (pc2 := 7) (k := 28) (v := (h 28 1)) hM rfl rfl rfl rfl rfl rfl ?_
  refine e_icmp_ge (pc2 := 10) (tgt := 32) hM rfl rfl rfl ?_ ?_
  · refine e_iconst (pc2 := 33) (v := -nI 1) hM rfl rfl rfl ?_
    exact e_iret hM rfl rfl
  · refine e_aload_n (pc2 := 11) hM rfl rfl rfl ?_
    refine e_getfr (pc2 := 14) (k := 28) (b := 34) hM rfl rfl rfl rfl rfl ?_
    refine e_iload_n (pc2 := 15) hM rfl rfl rfl ?_
    refine e_iconst (pc2 := 16) (v := nI 3) hM rfl rfl rfl ?_
    refine e_imul (pc2 := 17) hM rfl rfl ?_
    refine e_iload_n (pc2 := 18) hM rfl rfl rfl ?_
    refine e_iadd (pc2 := 19) hM rfl rfl ?_
    refine e_iald (pc2 := 20) (k := 33) (V := fun j1 => (h 33 j1)) hM rfl rfl rfl (fun _ => rfl) (fun j1 => ?_)
    refine e_iload_n (pc2 := 21) hM rfl rfl rfl ?_
    refine e_icmp_lt (pc2 := 24) (tgt := 26) hM rfl rfl rfl ?_ ?_
    · refine e_iinc (pc2 := 29) (v := nI 1) (L2 := [some (.ref 29), some (.int b1), some (.int b2), some (.int (b3 + (nI 1)))]) hM rfl rfl rfl rfl rfl ?_
      refine e_goto (tgt := 2) hM rfl rfl ?_
      exact rfl
    · refine e_iload_n (pc2 := 25) hM rfl rfl rfl ?_
      exact e_iret hM rfl rfl
theorem qX4_takeDown_0 {sl : Nat} {xs : Nat → Int32} {d : Nat} {a0 : Int32} {h : pmH} : pm_cf (pm_Ev sl xs) (d + 2) 35 [.ref 29, .int a0] (SH, h) = pm_ix none a0 24 fun j1 => if (h 31 j1) < 0 then (some (none, (SH, h))) else (pm_ix none a0 24 fun j2 => pm_ix none a0 24 fun j3 => pm_ix none (((h 31 j2) * (nI 3)) + (h 32 j3)) 180 fun j4 => pm_ri (pm_cf (pm_Ev sl xs) (d + 1) 48 [.ref 8, .int a0] (SH, h)) SH fun x6 h5 => pm_ix none (((h 31 j2) * (nI 3)) + (h 32 j3)) 180 fun j7 => pm_ix none a0 24 fun j8 => pm_ix none a0 24 fun j9 => some (none, (SH, (pm_up (pm_up (pm_up h5 33 j7 ((h 33 j4) + x6)) 31 j8 (-nI 1)) 32 j9 (-nI 1))))) := by
  have hM : pm_mt 35 = some mt_35 := rfl
  refine e_call (L := [some (.ref 29), some (.int a0)]) hM rfl rfl ?_
  refine e_aload_n (pc2 := 1) hM rfl rfl rfl ?_
  refine e_getfr (pc2 := 4) (k := 28) (b := 32) hM rfl rfl rfl rfl rfl ?_
  refine e_iload_n (pc2 := 5) hM rfl rfl rfl ?_
  refine e_iald (pc2 := 6) (k := 31) (V := fun j1 => (h 31 j1)) hM rfl rfl rfl (fun _ => rfl) (fun j1 => ?_)
  refine e_if_lt (pc2 := 9) (tgt := 54) hM rfl rfl rfl ?_ ?_
  · exact e_ret hM rfl rfl
  · refine e_aload_n (pc2 := 10) hM rfl rfl rfl ?_
    refine e_getfr (pc2 := 13) (k := 28) (b := 34) hM rfl rfl rfl rfl rfl ?_
    refine e_aload_n (pc2 := 14) hM rfl rfl rfl ?_
    refine e_getfr (pc2 := 17) (k := 28) (b := 32) hM rfl rfl rfl rfl rfl ?_
    refine e_iload_n (pc2 := 18) hM rfl rfl rfl ?_
    refine e_iald (pc2 := 19) (k := 31) (V := fun j2 => (h 31 j2)) hM rfl rfl rfl (fun _ => rfl) (fun j2 => ?_)
    refine e_iconst (pc2 := 20) (v := nI 3) hM rfl rfl rfl ?_
    refine e_imul (pc2 := 21) hM rfl rfl ?_
    refine e_aload_n (pc2 := 22) hM rfl rfl rfl ?_
    refine e_getfr (pc2 := 25) (k := 28) (b := 33) hM rfl rfl rfl rfl rfl ?_
    refine e_iload_n (pc2 := 26) hM rfl rfl rfl ?_
    refine e_iald (pc2 := 27) (k := 32) (V := fun j3 => (h 32 j3)) hM rfl rfl rfl (fun _ => rfl) (fun j3 => ?_)
    refine e_iadd (pc2 := 28) hM rfl rfl ?_
    refine e_dup2 (pc2 := 29) hM rfl rfl rfl rfl ?_
    refine e_iald (pc2 := 30) (k := 33) (V := fun j4 => (h 33 j4)) hM rfl rfl rfl (fun _ => rfl) (fun j4 => ?_)
    refine e_aload_n (pc2 := 31) hM rfl rfl rfl ?_
    refine e_getfr (pc2 := 34) (k := 28) (b := 8) hM rfl rfl rfl rfl rfl ?_
    refine e_iload_n (pc2 := 35) hM rfl rfl rfl ?_
    refine e_cvi (pc2 := 38) (k := 7) (As := [.ref 8, .int a0]) (rest := [.int (h 33 j4), .int (((h 31 j2) * (nI 3)) + (h 32 j3)), .ref 34]) hM rfl rfl rfl rfl rfl rfl rfl (fun x6 h5 => ?_)
    refine e_iadd (pc2 := 39) hM rfl rfl ?_
    refine e_iast (pc2 := 40) (k := 33) hM rfl rfl rfl (fun j7 => ?_)
    refine e_aload_n (pc2 := 41) hM rfl rfl rfl ?_
    refine e_getfr (pc2 := 44) (k := 28) (b := 32) hM rfl rfl rfl rfl rfl ?_
    refine e_iload_n (pc2 := 45) hM rfl rfl rfl ?_
    refine e_iconst (pc2 := 46) (v := -nI 1) hM rfl rfl rfl ?_
    refine e_iast (pc2 := 47) (k := 31) hM rfl rfl rfl (fun j8 => ?_)
    refine e_aload_n (pc2 := 48) hM rfl rfl rfl ?_
    refine e_getfr (pc2 := 51) (k := 28) (b := 33) hM rfl rfl rfl rfl rfl ?_
    refine e_iload_n (pc2 := 52) hM rfl rfl rfl ?_
    refine e_iconst (pc2 := 53) (v := -nI 1) hM rfl rfl rfl ?_
    refine e_iast (pc2 := 54) (k := 32) hM rfl rfl rfl (fun j9 => ?_)
    exact e_ret hM rfl rfl
theorem qX4_takeBestOrder_0 {sl : Nat} {xs : Nat → Int32} {d : Nat} {h : pmH} : pm_cf (pm_Ev sl xs) (d + 2) 36 [.ref 29] (SH, h) = pm_Ev sl xs (d + 1) 36 2 [some (.ref 29), some (.int (nI 0))] [] (SH, h) := by
  have hM : pm_mt 36 = some mt_36 := rfl
  refine e_call (L := [some (.ref 29), none]) hM rfl rfl ?_
  refine e_iconst (pc2 := 1) (v := nI 0) hM rfl rfl rfl ?_
  refine e_istore_n (pc2 := 2) (L2 := [some (.ref 29), some (.int (nI 0))]) hM rfl rfl rfl rfl ?_
  exact rfl
theorem qX4_takeBestOrder_2 {sl : Nat} {xs : Nat → Int32} {d : Nat} {b1 : Int32} {h : pmH} : pm_Ev sl xs (d + 1) 36 2 [some (.ref 29), some (.int b1)] [] (SH, h) = if (h 7 0) ≤ b1 then (pm_ri (pm_cf (pm_Ev sl xs) (d + 1) 31 [.ref 29] (SH, h)) SH fun x2 h1 => pm_rv (pm_cf (pm_Ev sl xs) (d + 1) 32 [.ref 29] (SH, (pm_up h1 28 9 x2))) SH fun h3 => pm_rv (pm_cf (pm_Ev sl xs) (d + 1) 37 [.ref 29, .int (nI 0), .int (nI 0), .int (nI 0)] (SH, h3)) SH fun h4 => some (some (.int (h4 28 9)), (SH, h4))) else (pm_ix none b1 24 fun j5 => pm_Ev sl xs (d + 1) 36 2 [some (.ref 29), some (.int (b1 + (nI 1)))] [] (SH, (pm_up h 30 j5 b1))) := by
  have hM : pm_mt 36 = some mt_36 := rfl
  refine e_iload_n (pc2 := 3) hM rfl rfl rfl ?_
  refine e_aload_n (pc2 := 4) hM rfl rfl rfl ?_
  refine e_getfr (pc2 := 7) (k := 28) (b := 8) hM rfl rfl rfl rfl rfl ?_
  refine e_getfi (pc2 := 10) (k := 7) (v := (h 7 0)) hM rfl rfl rfl rfl rfl rfl ?_
  refine e_icmp_ge (pc2 := 13) (tgt := 26) hM rfl rfl rfl ?_ ?_
  · refine e_aload_n (pc2 := 27) hM rfl rfl rfl ?_
    refine e_aload_n (pc2 := 28) hM rfl rfl rfl ?_
    refine e_cvi (pc2 := 31) (k := 28) (As := [.ref 29]) (rest := [.ref 29]) hM rfl rfl rfl rfl rfl rfl rfl (fun x2 h1 => ?_)
    refine e_putf (pc2 := 34) (k := 28) hM rfl rfl rfl rfl rfl rfl ?_
    refine e_aload_n (pc2 := 35) hM rfl rfl rfl ?_
    refine e_cvv (pc2 := 38) (k := 28) (As := [.ref 29]) (rest := []) hM rfl rfl rfl rfl rfl rfl rfl (fun h3 => ?_)
    refine e_aload_n (pc2 := 39) hM rfl rfl rfl ?_
    refine e_iconst (pc2 := 40) (v := nI 0) hM rfl rfl rfl ?_
    refine e_iconst (pc2 := 41) (v := nI 0) hM rfl rfl rfl ?_
    refine e_iconst (pc2 := 42) (v := nI 0) hM rfl rfl rfl ?_
    refine e_cvv (pc2 := 45) (k := 28) (As := [.ref 29, .int (nI 0), .int (nI 0), .int (nI 0)]) (rest := []) hM rfl rfl rfl rfl rfl rfl rfl (fun h4 => ?_)
    refine e_aload_n (pc2 := 46) hM rfl rfl rfl ?_
    refine e_getfi (pc2 := 49) (k := 28) (v := (h4 28 9)) hM rfl rfl rfl rfl rfl rfl ?_
    exact e_iret hM rfl rfl
  · refine e_aload_n (pc2 := 14) hM rfl rfl rfl ?_
    refine e_getfr (pc2 := 17) (k := 28) (b := 31) hM rfl rfl rfl rfl rfl ?_
    refine e_iload_n (pc2 := 18) hM rfl rfl rfl ?_
    refine e_iload_n (pc2 := 19) hM rfl rfl rfl ?_
    refine e_iast (pc2 := 20) (k := 30) hM rfl rfl rfl (fun j5 => ?_)
    refine e_iinc (pc2 := 23) (v := nI 1) (L2 := [some (.ref 29), some (.int (b1 + (nI 1)))]) hM rfl rfl rfl rfl rfl ?_
    refine e_goto (tgt := 2) hM rfl rfl ?_
    exact rfl
theorem qX4_tryFrom_0 {sl : Nat} {xs : Nat → Int32} {d : Nat} {a0 a1 a2 : Int32} {h : pmH} : pm_cf (pm_Ev sl xs) (d + 2) 37 [.ref 29, .int a0, .int a1, .int a2] (SH, h) = if (h 7 0) ≤ a0 then (pm_rv (pm_cf (pm_Ev sl xs) (d + 1) 38 [.ref 29, .int a2] (SH, h)) SH fun h1 => some (none, (SH, h1))) else (if a0 < (nI 6) then (pm_Ev sl xs (d + 1) 37 26 [some (.ref 29), some (.int a0), some (.int a1), some (.int a2), some (.int (nI 0)), none] [] (SH, h)) else (pm_rv (pm_cf (pm_Ev sl xs) (d + 1) 38 [.ref 29, .int a2] (SH, h)) SH fun h2 => some (none, (SH, h2)))) := by
  have hM : pm_mt 37 = some mt_37 := rfl
  refine e_call (L := [some (.ref 29), some (.int a0), some (.int a1), some (.int a2), none, none]) hM rfl rfl ?_
  refine e_iload_n (pc2 := 1) hM rfl rfl rfl ?_
  refine e_aload_n (pc2 := 2) hM rfl rfl rfl ?_
  refine e_getfr (pc2 := 5) (k := 28) (b := 8) hM rfl rfl rfl rfl rfl ?_
  refine e_getfi (pc2 := 8) (k := 7) (v := (h 7 0)) hM rfl rfl rfl rfl rfl rfl ?_
  refine e_icmp_ge (pc2 := 11) (tgt := 17) hM rfl rfl rfl ?_ ?_
  · refine e_aload_n (pc2 := 18) hM rfl rfl rfl ?_
    refine e_iload_n (pc2 := 19) hM rfl rfl rfl ?_
    refine e_cvv (pc2 := 22) (k := 28) (As := [.ref 29, .int a2]) (rest := []) hM rfl rfl rfl rfl rfl rfl rfl (fun h1 => ?_)
    exact e_ret hM rfl rfl
  · refine e_iload_n (pc2 := 12) hM rfl rfl rfl ?_
    refine e_bipush (pc2 := 14) (v := nI 6) hM rfl rfl rfl rfl ?_
    refine e_icmp_lt (pc2 := 17) (tgt := 23) hM rfl rfl rfl ?_ ?_
    · refine e_iconst (pc2 := 24) (v := nI 0) hM rfl rfl rfl ?_
      refine e_istore (pc2 := 26) (L2 := [some (.ref 29), some (.int a0), some (.int a1), some (.int a2), some (.int (nI 0)), none]) hM rfl rfl rfl rfl ?_
      exact rfl
    · refine e_aload_n (pc2 := 18) hM rfl rfl rfl ?_
      refine e_iload_n (pc2 := 19) hM rfl rfl rfl ?_
      refine e_cvv (pc2 := 22) (k := 28) (As := [.ref 29, .int a2]) (rest := []) hM rfl rfl rfl rfl rfl rfl rfl (fun h2 => ?_)
      exact e_ret hM rfl rfl
theorem qX4_tryFrom_26 {sl : Nat} {xs : Nat → Int32} {d : Nat} {b1 b2 b3 b4 : Int32} {o5 : Option Value} {h : pmH} : pm_Ev sl xs (d + 1) 37 26 [some (.ref 29), some (.int b1), some (.int b2), some (.int b3), some (.int b4), o5] [] (SH, h) = if (h 7 0) ≤ b4 then (some (none, (SH, h))) else (pm_ri (pm_cf (pm_Ev sl xs) (d + 1) 88 [.int b2, .int b4] (SH, h)) SH fun x2 h1 => if x2 = 0 then (pm_ri (pm_cf (pm_Ev sl xs) (d + 1) 33 [.ref 29, .int b4] (SH, h1)) SH fun x4 h3 => if (h3 28 9) ≤ (if b3 < x4 then x4 else b3) then (pm_rv (pm_cf (pm_Ev sl xs) (d + 1) 35 [.ref 29, .int b4] (SH, h3)) SH fun h5 => pm_Ev sl xs (d + 1) 37 26 [some (.ref 29), some (.int b1), some (.int b2), some (.int b3), some (.int (b4 + (nI 1))), some (.int (if b3 < x4 then x4 else b3))] [] (SH, h5)) else (pm_ix none b1 6 fun j6 => pm_rv (pm_cf (pm_Ev sl xs) (d + 1) 37 [.ref 29, .int (b1 + (nI 1)), .int (b2 ||| ((nI 1) <<< (b4 &&& 31))), .int (if b3 < x4 then x4 else b3)] (SH, (pm_up h3 34 j6 b4))) SH fun h7 => pm_rv (pm_cf (pm_Ev sl xs) (d + 1) 35 [.ref 29, .int b4] (SH, h7)) SH fun h8 => pm_Ev sl xs (d + 1) 37 26 [some (.ref 29), some (.int b1), some (.int b2), some (.int b3), some (.int (b4 + (nI 1))), some (.int (if b3 < x4 then x4 else b3))] [] (SH, h8))) else (pm_Ev sl xs (d + 1) 37 26 [some (.ref 29), some (.int b1), some (.int b2), some (.int b3), some (.int (b4 + (nI 1))), o5] [] (SH, h1))) := by
  have hM : pm_mt 37 = some mt_37 := rfl
  refine e_iload (pc2 := 28) hM rfl rfl rfl ?_
  refine e_aload_n (pc2 := 29) hM rfl rfl rfl ?_
  refine e_getfr (pc2 := 32) (k := 28) (b := 8) hM rfl rfl rfl rfl rfl ?_
  refine e_getfi (pc2 := 35) (k := 7) (v := (h 7 0)) hM rfl rfl rfl rfl rfl rfl ?_
  refine e_icmp_ge (pc2 := 38) (tgt := 106) hM rfl rfl rfl ?_ ?_
  · exact e_ret hM rfl rfl
  · refine e_iload_n (pc2 := 39) hM rfl rfl rfl ?_
    refine e_iload (pc2 := 41) hM rfl rfl rfl ?_
    refine e_csi (pc2 := 44) (As := [.int b2, .int b4]) (rest := []) hM rfl rfl rfl rfl rfl rfl rfl (fun x2 h1 => ?_)
    refine e_if_eq (pc2 := 47) (tgt := 50) hM rfl rfl rfl ?_ ?_
    · refine e_iload_n (pc2 := 51) hM rfl rfl rfl ?_
      refine e_aload_n (pc2 := 52) hM rfl rfl rfl ?_
      refine e_iload (pc2 := 54) hM rfl rfl rfl ?_
      refine e_cvi (pc2 := 57) (k := 28) (As := [.ref 29, .int b4]) (rest := [.int b3]) hM rfl rfl rfl rfl rfl rfl rfl (fun x4 h3 => ?_)
      refine e_max (pc2 := 60) hM rfl rfl rfl rfl ?_
      refine e_istore (pc2 := 62) (L2 := [some (.ref 29), some (.int b1), some (.int b2), some (.int b3), some (.int b4), some (.int (if b3 < x4 then x4 else b3))]) hM rfl rfl rfl rfl ?_
      refine e_iload (pc2 := 64) hM rfl rfl rfl ?_
      refine e_aload_n (pc2 := 65) hM rfl rfl rfl ?_
      refine e_getfi (pc2 := 68) (k := 28) (v := (h3 28 9)) hM rfl rfl rfl rfl rfl rfl ?_
      refine e_icmp_ge (pc2 := 71) (tgt := 94) hM rfl rfl rfl ?_ ?_
      · refine e_aload_n (pc2 := 95) hM rfl rfl rfl ?_
        refine e_iload (pc2 := 97) hM rfl rfl rfl ?_
        refine e_cvv (pc2 := 100) (k := 28) (As := [.ref 29, .int b4]) (rest := []) hM rfl rfl rfl rfl rfl rfl rfl (fun h5 => ?_)
        refine e_iinc (pc2 := 103) (v := nI 1) (L2 := [some (.ref 29), some (.int b1), some (.int b2), some (.int b3), some (.int (b4 + (nI 1))), some (.int (if b3 < x4 then x4 else b3))]) hM rfl rfl rfl rfl rfl ?_
        refine e_goto (tgt := 26) hM rfl rfl ?_
        exact rfl
      · refine e_aload_n (pc2 := 72) hM rfl rfl rfl ?_
        refine e_getfr (pc2 := 75) (k := 28) (b := 35) hM rfl rfl rfl rfl rfl ?_
        refine e_iload_n (pc2 := 76) hM rfl rfl rfl ?_
        refine e_iload (pc2 := 78) hM rfl rfl rfl ?_
        refine e_iast (pc2 := 79) (k := 34) hM rfl rfl rfl (fun j6 => ?_)
        refine e_aload_n (pc2 := 80) hM rfl rfl rfl ?_
        refine e_iload_n (pc2 := 81) hM rfl rfl rfl ?_
        refine e_iconst (pc2 := 82) (v := nI 1) hM rfl rfl rfl ?_
        refine e_iadd (pc2 := 83) hM rfl rfl ?_
        refine e_iload_n (pc2 := 84) hM rfl rfl rfl ?_
        refine e_iconst (pc2 := 85) (v := nI 1) hM rfl rfl rfl ?_
        refine e_iload (pc2 := 87) hM rfl rfl rfl ?_
        refine e_ishl (pc2 := 88) hM rfl rfl ?_
        refine e_ior (pc2 := 89) hM rfl rfl ?_
        refine e_iload (pc2 := 91) hM rfl rfl rfl ?_
        refine e_cvv (pc2 := 94) (k := 28) (As := [.ref 29, .int (b1 + (nI 1)), .int (b2 ||| ((nI 1) <<< (b4 &&& 31))), .int (if b3 < x4 then x4 else b3)]) (rest := []) hM rfl rfl rfl rfl rfl rfl rfl (fun h7 => ?_)
        refine e_aload_n (pc2 := 95) hM rfl rfl rfl ?_
        refine e_iload (pc2 := 97) hM rfl rfl rfl ?_
        refine e_cvv (pc2 := 100) (k := 28) (As := [.ref 29, .int b4]) (rest := []) hM rfl rfl rfl rfl rfl rfl rfl (fun h8 => ?_)
        refine e_iinc (pc2 := 103) (v := nI 1) (L2 := [some (.ref 29), some (.int b1), some (.int b2), some (.int b3), some (.int (b4 + (nI 1))), some (.int (if b3 < x4 then x4 else b3))]) hM rfl rfl rfl rfl rfl ?_
        refine e_goto (tgt := 26) hM rfl rfl ?_
        exact rfl
    · refine e_goto (tgt := 100) hM rfl rfl ?_
      refine e_iinc (pc2 := 103) (v := nI 1) (L2 := [some (.ref 29), some (.int b1), some (.int b2), some (.int b3), some (.int (b4 + (nI 1))), o5]) hM rfl rfl rfl rfl rfl ?_
      refine e_goto (tgt := 26) hM rfl rfl ?_
      exact rfl
theorem qX4_keepTrial_0 {sl : Nat} {xs : Nat → Int32} {d : Nat} {a0 : Int32} {h : pmH} : pm_cf (pm_Ev sl xs) (d + 1) 38 [.ref 29, .int a0] (SH, h) = if a0 < (h 28 9) then (pm_Ev sl xs d 38 16 [some (.ref 29), some (.int a0), some (.int (nI 0))] [] (SH, (pm_up h 28 9 a0))) else (some (none, (SH, h))) := by
  have hM : pm_mt 38 = some mt_38 := rfl
  refine e_call (L := [some (.ref 29), some (.int a0), none]) hM rfl rfl ?_
  refine e_iload_n (pc2 := 1) hM rfl rfl rfl ?_
  refine e_aload_n (pc2 := 2) hM rfl rfl rfl ?_
  refine e_getfi (pc2 := 5) (k := 28) (v := (h 28 9)) hM rfl rfl rfl rfl rfl rfl ?_
  refine e_icmp_lt (pc2 := 8) (tgt := 9) hM rfl rfl rfl ?_ ?_
  · refine e_aload_n (pc2 := 10) hM rfl rfl rfl ?_
    refine e_iload_n (pc2 := 11) hM rfl rfl rfl ?_
    refine e_putf (pc2 := 14) (k := 28) hM rfl rfl rfl rfl rfl rfl ?_
    refine e_iconst (pc2 := 15) (v := nI 0) hM rfl rfl rfl ?_
    refine e_istore_n (pc2 := 16) (L2 := [some (.ref 29), some (.int a0), some (.int (nI 0))]) hM rfl rfl rfl rfl ?_
    exact rfl
  · exact e_ret hM rfl rfl
theorem qX4_keepTrial_16 {sl : Nat} {xs : Nat → Int32} {d : Nat} {b1 b2 : Int32} {h : pmH} : pm_Ev sl xs d 38 16 [some (.ref 29), some (.int b1), some (.int b2)] [] (SH, h) = if (h 7 0) ≤ b2 then (some (none, (SH, h))) else (if (nI 6) ≤ b2 then (some (none, (SH, h))) else (pm_ix none b2 6 fun j1 => pm_ix none b2 24 fun j2 => pm_Ev sl xs d 38 16 [some (.ref 29), some (.int b1), some (.int (b2 + (nI 1)))] [] (SH, (pm_up h 30 j2 (h 34 j1))))) := by
  have hM : pm_mt 38 = some mt_38 := rfl
  refine e_iload_n (pc2 := 17) hM rfl rfl rfl ?_
  refine e_aload_n (pc2 := 18) hM rfl rfl rfl ?_
  refine e_getfr (pc2 := 21) (k := 28) (b := 8) hM rfl rfl rfl rfl rfl ?_
  refine e_getfi (pc2 := 24) (k := 7) (v := (h 7 0)) hM rfl rfl rfl rfl rfl rfl ?_
  refine e_icmp_ge (pc2 := 27) (tgt := 51) hM rfl rfl rfl ?_ ?_
  · exact e_ret hM rfl rfl
  · refine e_iload_n (pc2 := 28) hM rfl rfl rfl ?_
    refine e_bipush (pc2 := 30) (v := nI 6) hM rfl rfl rfl rfl ?_
    refine e_icmp_ge (pc2 := 33) (tgt := 51) hM rfl rfl rfl ?_ ?_
    · exact e_ret hM rfl rfl
    · refine e_aload_n (pc2 := 34) hM rfl rfl rfl ?_
      refine e_getfr (pc2 := 37) (k := 28) (b := 31) hM rfl rfl rfl rfl rfl ?_
      refine e_iload_n (pc2 := 38) hM rfl rfl rfl ?_
      refine e_aload_n (pc2 := 39) hM rfl rfl rfl ?_
      refine e_getfr (pc2 := 42) (k := 28) (b := 35) hM rfl rfl rfl rfl rfl ?_
      refine e_iload_n (pc2 := 43) hM rfl rfl rfl ?_
      refine e_iald (pc2 := 44) (k := 34) (V := fun j1 => (h 34 j1)) hM rfl rfl rfl (fun _ => rfl) (fun j1 => ?_)
      refine e_iast (pc2 := 45) (k := 30) hM rfl rfl rfl (fun j2 => ?_)
      refine e_iinc (pc2 := 48) (v := nI 1) (L2 := [some (.ref 29), some (.int b1), some (.int (b2 + (nI 1)))]) hM rfl rfl rfl rfl rfl ?_
      refine e_goto (tgt := 16) hM rfl rfl ?_
      exact rfl
theorem qX5_has_0 {sl : Nat} {xs : Nat → Int32} {d : Nat} {a0 : Int32} {h : pmH} : pm_cf (pm_Ev sl xs) (d + 1) 40 [.ref 8, .int a0] (SH, h) = if a0 < 0 then (some (some (.int (nI 0)), (SH, h))) else (if (h 7 0) ≤ a0 then (some (some (.int (nI 0)), (SH, h))) else (some (some (.int (nI 1)), (SH, h)))) := by
  have hM : pm_mt 40 = some mt_40 := rfl
  refine e_call (L := [some (.ref 8), some (.int a0)]) hM rfl rfl ?_
  refine e_iload_n (pc2 := 1) hM rfl rfl rfl ?_
  refine e_if_lt (pc2 := 4) (tgt := 16) hM rfl rfl rfl ?_ ?_
  · refine e_iconst (pc2 := 17) (v := nI 0) hM rfl rfl rfl ?_
    exact e_zret hM rfl rfl pm_01a
  · refine e_iload_n (pc2 := 5) hM rfl rfl rfl ?_
    refine e_aload_n (pc2 := 6) hM rfl rfl rfl ?_
    refine e_getfi (pc2 := 9) (k := 7) (v := (h 7 0)) hM rfl rfl rfl rfl rfl rfl ?_
    refine e_icmp_ge (pc2 := 12) (tgt := 16) hM rfl rfl rfl ?_ ?_
    · refine e_iconst (pc2 := 17) (v := nI 0) hM rfl rfl rfl ?_
      exact e_zret hM rfl rfl pm_01a
    · refine e_iconst (pc2 := 13) (v := nI 1) hM rfl rfl rfl ?_
      refine e_goto (tgt := 17) hM rfl rfl ?_
      exact e_zret hM rfl rfl pm_01b
theorem qX5_hasLamp_0 {sl : Nat} {xs : Nat → Int32} {d : Nat} {a0 a1 : Int32} {h : pmH} : pm_cf (pm_Ev sl xs) (d + 2) 41 [.ref 8, .int a0, .int a1] (SH, h) = pm_ri (pm_cf (pm_Ev sl xs) (d + 1) 40 [.ref 8, .int a0] (SH, h)) SH fun x2 h1 => if x2 = 0 then (some (some (.int (nI 0)), (SH, h1))) else (if a1 < 0 then (some (some (.int (nI 0)), (SH, h1))) else (pm_ix none a0 24 fun j3 => if (h1 13 j3) ≤ a1 then (some (some (.int (nI 0)), (SH, h1))) else (some (some (.int (nI 1)), (SH, h1))))) := by
  have hM : pm_mt 41 = some mt_41 := rfl
  refine e_call (L := [some (.ref 8), some (.int a0), some (.int a1)]) hM rfl rfl ?_
  refine e_aload_n (pc2 := 1) hM rfl rfl rfl ?_
  refine e_iload_n (pc2 := 2) hM rfl rfl rfl ?_
  refine e_cvi (pc2 := 5) (k := 7) (As := [.ref 8, .int a0]) (rest := []) hM rfl rfl rfl rfl rfl rfl rfl (fun x2 h1 => ?_)
  refine e_if_eq (pc2 := 8) (tgt := 26) hM rfl rfl rfl ?_ ?_
  · refine e_iconst (pc2 := 27) (v := nI 0) hM rfl rfl rfl ?_
    exact e_zret hM rfl rfl pm_01a
  · refine e_iload_n (pc2 := 9) hM rfl rfl rfl ?_
    refine e_if_lt (pc2 := 12) (tgt := 26) hM rfl rfl rfl ?_ ?_
    · refine e_iconst (pc2 := 27) (v := nI 0) hM rfl rfl rfl ?_
      exact e_zret hM rfl rfl pm_01a
    · refine e_iload_n (pc2 := 13) hM rfl rfl rfl ?_
      refine e_aload_n (pc2 := 14) hM rfl rfl rfl ?_
      refine e_getfr (pc2 := 17) (k := 7) (b := 14) hM rfl rfl rfl rfl rfl ?_
      refine e_iload_n (pc2 := 18) hM rfl rfl rfl ?_
      refine e_iald (pc2 := 19) (k := 13) (V := fun j3 => (h1 13 j3)) hM rfl rfl rfl (fun _ => rfl) (fun j3 => ?_)
      refine e_icmp_ge (pc2 := 22) (tgt := 26) hM rfl rfl rfl ?_ ?_
      · refine e_iconst (pc2 := 27) (v := nI 0) hM rfl rfl rfl ?_
        exact e_zret hM rfl rfl pm_01a
      · refine e_iconst (pc2 := 23) (v := nI 1) hM rfl rfl rfl ?_
        refine e_goto (tgt := 27) hM rfl rfl ?_
        exact e_zret hM rfl rfl pm_01b
theorem qX5_add_0 {sl : Nat} {xs : Nat → Int32} {d : Nat} {a0 a1 a2 a3 a4 a5 : Int32} {h : pmH} : pm_cf (pm_Ev sl xs) (d + 1) 42 [.ref 8, .int a0, .int a1, .int a2, .int a3, .int a4, .int a5] (SH, h) = if nI 100 = 0 then none else (pm_ix none (h 7 0) 24 fun j1 => if nI 10 = 0 then none else (if nI 10 = 0 then none else (pm_ix none (h 7 0) 24 fun j2 => if nI 10 = 0 then none else (if (a0 - a0 / (nI 10) * (nI 10)) = (nI 1) then (pm_ix none (h 7 0) 24 fun j8 => pm_ix none (h 7 0) 24 fun j9 => pm_ix none (h 7 0) 24 fun j10 => pm_ix none (h 7 0) 24 fun j11 => pm_ix none (h 7 0) 24 fun j12 => some (some (.int (h 7 0)), (SH, (pm_up (pm_up (pm_up (pm_up (pm_up (pm_up (pm_up (pm_up h 10 j1 (a0 / (nI 100))) 8 j2 ((a0 / (nI 10)) - (a0 / (nI 10)) / (nI 10) * (nI 10))) 9 j8 a1) 11 j9 a2) 12 j10 a3) 13 j11 a4) 14 j12 a5) 7 0 ((h 7 0) + (nI 1)))))) else (pm_ix none (h 7 0) 24 fun j3 => pm_ix none (h 7 0) 24 fun j4 => pm_ix none (h 7 0) 24 fun j5 => pm_ix none (h 7 0) 24 fun j6 => pm_ix none (h 7 0) 24 fun j7 => some (some (.int (h 7 0)), (SH, (pm_up (pm_up (pm_up (pm_up (pm_up (pm_up (pm_up (pm_up h 10 j1 (a0 / (nI 100))) 8 j2 ((a0 / (nI 10)) - (a0 / (nI 10)) / (nI 10) * (nI 10))) 9 j3 (-nI 1)) 11 j4 a2) 12 j5 a3) 13 j6 a4) 14 j7 a5) 7 0 ((h 7 0) + (nI 1)))))))))) := by
  have hM : pm_mt 42 = some mt_42 := rfl
  refine e_call (L := [some (.ref 8), some (.int a0), some (.int a1), some (.int a2), some (.int a3), some (.int a4), some (.int a5), none]) hM rfl rfl ?_
  refine e_aload_n (pc2 := 1) hM rfl rfl rfl ?_
  refine e_getfi (pc2 := 4) (k := 7) (v := (h 7 0)) hM rfl rfl rfl rfl rfl rfl ?_
  refine e_istore (pc2 := 6) (L2 := [some (.ref 8), some (.int a0), some (.int a1), some (.int a2), some (.int a3), some (.int a4), some (.int a5), some (.int (h 7 0))]) hM rfl rfl rfl rfl ?_
  refine e_aload_n (pc2 := 7) hM rfl rfl rfl ?_
  refine e_getfr (pc2 := 10) (k := 7) (b := 11) hM rfl rfl rfl rfl rfl ?_
  refine e_iload (pc2 := 12) hM rfl rfl rfl ?_
  refine e_iload_n (pc2 := 13) hM rfl rfl rfl ?_
  refine e_bipush (pc2 := 15) (v := nI 100) hM rfl rfl rfl rfl ?_
  refine e_idiv (pc2 := 16) hM rfl rfl ?_
  refine e_iast (pc2 := 17) (k := 10) hM rfl rfl rfl (fun j1 => ?_)
  refine e_aload_n (pc2 := 18) hM rfl rfl rfl ?_
  refine e_getfr (pc2 := 21) (k := 7) (b := 9) hM rfl rfl rfl rfl rfl ?_
  refine e_iload (pc2 := 23) hM rfl rfl rfl ?_
  refine e_iload_n (pc2 := 24) hM rfl rfl rfl ?_
  refine e_bipush (pc2 := 26) (v := nI 10) hM rfl rfl rfl rfl ?_
  refine e_idiv (pc2 := 27) hM rfl rfl ?_
  refine e_bipush (pc2 := 29) (v := nI 10) hM rfl rfl rfl rfl ?_
  refine e_irem (pc2 := 30) hM rfl rfl ?_
  refine e_iast (pc2 := 31) (k := 8) hM rfl rfl rfl (fun j2 => ?_)
  refine e_aload_n (pc2 := 32) hM rfl rfl rfl ?_
  refine e_getfr (pc2 := 35) (k := 7) (b := 10) hM rfl rfl rfl rfl rfl ?_
  refine e_iload (pc2 := 37) hM rfl rfl rfl ?_
  refine e_iload_n (pc2 := 38) hM rfl rfl rfl ?_
  refine e_bipush (pc2 := 40) (v := nI 10) hM rfl rfl rfl rfl ?_
  refine e_irem (pc2 := 41) hM rfl rfl ?_
  refine e_iconst (pc2 := 42) (v := nI 1) hM rfl rfl rfl ?_
  refine e_icmp_ne (pc2 := 45) (tgt := 49) hM rfl rfl rfl ?_ ?_
  · refine e_iconst (pc2 := 50) (v := -nI 1) hM rfl rfl rfl ?_
    refine e_iast (pc2 := 51) (k := 9) hM rfl rfl rfl (fun j3 => ?_)
    refine e_aload_n (pc2 := 52) hM rfl rfl rfl ?_
    refine e_getfr (pc2 := 55) (k := 7) (b := 12) hM rfl rfl rfl rfl rfl ?_
    refine e_iload (pc2 := 57) hM rfl rfl rfl ?_
    refine e_iload_n (pc2 := 58) hM rfl rfl rfl ?_
    refine e_iast (pc2 := 59) (k := 11) hM rfl rfl rfl (fun j4 => ?_)
    refine e_aload_n (pc2 := 60) hM rfl rfl rfl ?_
    refine e_getfr (pc2 := 63) (k := 7) (b := 13) hM rfl rfl rfl rfl rfl ?_
    refine e_iload (pc2 := 65) hM rfl rfl rfl ?_
    refine e_iload (pc2 := 67) hM rfl rfl rfl ?_
    refine e_iast (pc2 := 68) (k := 12) hM rfl rfl rfl (fun j5 => ?_)
    refine e_aload_n (pc2 := 69) hM rfl rfl rfl ?_
    refine e_getfr (pc2 := 72) (k := 7) (b := 14) hM rfl rfl rfl rfl rfl ?_
    refine e_iload (pc2 := 74) hM rfl rfl rfl ?_
    refine e_iload (pc2 := 76) hM rfl rfl rfl ?_
    refine e_iast (pc2 := 77) (k := 13) hM rfl rfl rfl (fun j6 => ?_)
    refine e_aload_n (pc2 := 78) hM rfl rfl rfl ?_
    refine e_getfr (pc2 := 81) (k := 7) (b := 15) hM rfl rfl rfl rfl rfl ?_
    refine e_iload (pc2 := 83) hM rfl rfl rfl ?_
    refine e_iload (pc2 := 85) hM rfl rfl rfl ?_
    refine e_iast (pc2 := 86) (k := 14) hM rfl rfl rfl (fun j7 => ?_)
    refine e_aload_n (pc2 := 87) hM rfl rfl rfl ?_
    refine e_dup (pc2 := 88) hM rfl rfl rfl ?_
    refine e_getfi (pc2 := 91) (k := 7) (v := (h 7 0)) hM rfl rfl rfl rfl rfl rfl ?_
    refine e_iconst (pc2 := 92) (v := nI 1) hM rfl rfl rfl ?_
    refine e_iadd (pc2 := 93) hM rfl rfl ?_
    refine e_putf (pc2 := 96) (k := 7) hM rfl rfl rfl rfl rfl rfl ?_
    refine e_iload (pc2 := 98) hM rfl rfl rfl ?_
    exact e_iret hM rfl rfl
  · refine e_iload_n (pc2 := 46) hM rfl rfl rfl ?_
    refine e_goto (tgt := 50) hM rfl rfl ?_
    refine e_iast (pc2 := 51) (k := 9) hM rfl rfl rfl (fun j8 => ?_)
    refine e_aload_n (pc2 := 52) hM rfl rfl rfl ?_
    refine e_getfr (pc2 := 55) (k := 7) (b := 12) hM rfl rfl rfl rfl rfl ?_
    refine e_iload (pc2 := 57) hM rfl rfl rfl ?_
    refine e_iload_n (pc2 := 58) hM rfl rfl rfl ?_
    refine e_iast (pc2 := 59) (k := 11) hM rfl rfl rfl (fun j9 => ?_)
    refine e_aload_n (pc2 := 60) hM rfl rfl rfl ?_
    refine e_getfr (pc2 := 63) (k := 7) (b := 13) hM rfl rfl rfl rfl rfl ?_
    refine e_iload (pc2 := 65) hM rfl rfl rfl ?_
    refine e_iload (pc2 := 67) hM rfl rfl rfl ?_
    refine e_iast (pc2 := 68) (k := 12) hM rfl rfl rfl (fun j10 => ?_)
    refine e_aload_n (pc2 := 69) hM rfl rfl rfl ?_
    refine e_getfr (pc2 := 72) (k := 7) (b := 14) hM rfl rfl rfl rfl rfl ?_
    refine e_iload (pc2 := 74) hM rfl rfl rfl ?_
    refine e_iload (pc2 := 76) hM rfl rfl rfl ?_
    refine e_iast (pc2 := 77) (k := 13) hM rfl rfl rfl (fun j11 => ?_)
    refine e_aload_n (pc2 := 78) hM rfl rfl rfl ?_
    refine e_getfr (pc2 := 81) (k := 7) (b := 15) hM rfl rfl rfl rfl rfl ?_
    refine e_iload (pc2 := 83) hM rfl rfl rfl ?_
    refine e_iload (pc2 := 85) hM rfl rfl rfl ?_
    refine e_iast (pc2 := 86) (k := 14) hM rfl rfl rfl (fun j12 => ?_)
    refine e_aload_n (pc2 := 87) hM rfl rfl rfl ?_
    refine e_dup (pc2 := 88) hM rfl rfl rfl ?_
    refine e_getfi (pc2 := 91) (k := 7) (v := (h 7 0)) hM rfl rfl rfl rfl rfl rfl ?_
    refine e_iconst (pc2 := 92) (v := nI 1) hM rfl rfl rfl ?_
    refine e_iadd (pc2 := 93) hM rfl rfl ?_
    refine e_putf (pc2 := 96) (k := 7) hM rfl rfl rfl rfl rfl rfl ?_
    refine e_iload (pc2 := 98) hM rfl rfl rfl ?_
    exact e_iret hM rfl rfl
theorem qX5_crateOf_0 {sl : Nat} {xs : Nat → Int32} {d : Nat} {a0 a1 : Int32} {h : pmH} : pm_cf (pm_Ev sl xs) (d + 1) 43 [.ref 8, .int a0, .int a1] (SH, h) = pm_ix none ((a0 * (nI 60)) + a1) 1440 fun j1 => some (some (.int (h 19 j1)), (SH, h)) := by
  have hM : pm_mt 43 = some mt_43 := rfl
  refine e_call (L := [some (.ref 8), some (.int a0), some (.int a1)]) hM rfl rfl ?_
  refine e_aload_n (pc2 := 1) hM rfl rfl rfl ?_
  refine e_getfr (pc2 := 4) (k := 7) (b := 20) hM rfl rfl rfl rfl rfl ?_
  refine e_iload_n (pc2 := 5) hM rfl rfl rfl ?_
  refine e_bipush (pc2 := 7) (v := nI 60) hM rfl rfl rfl rfl ?_
  refine e_imul (pc2 := 8) hM rfl rfl ?_
  refine e_iload_n (pc2 := 9) hM rfl rfl rfl ?_
  refine e_iadd (pc2 := 10) hM rfl rfl ?_
  refine e_iald (pc2 := 11) (k := 19) (V := fun j1 => (h 19 j1)) hM rfl rfl rfl (fun _ => rfl) (fun j1 => ?_)
  exact e_iret hM rfl rfl
theorem qX5_setCrateOf_0 {sl : Nat} {xs : Nat → Int32} {d : Nat} {a0 a1 a2 : Int32} {h : pmH} : pm_cf (pm_Ev sl xs) (d + 1) 44 [.ref 8, .int a0, .int a1, .int a2] (SH, h) = pm_ix none ((a0 * (nI 60)) + a1) 1440 fun j1 => some (none, (SH, (pm_up h 19 j1 a2))) := by
  have hM : pm_mt 44 = some mt_44 := rfl
  refine e_call (L := [some (.ref 8), some (.int a0), some (.int a1), some (.int a2)]) hM rfl rfl ?_
  refine e_aload_n (pc2 := 1) hM rfl rfl rfl ?_
  refine e_getfr (pc2 := 4) (k := 7) (b := 20) hM rfl rfl rfl rfl rfl ?_
  refine e_iload_n (pc2 := 5) hM rfl rfl rfl ?_
  refine e_bipush (pc2 := 7) (v := nI 60) hM rfl rfl rfl rfl ?_
  refine e_imul (pc2 := 8) hM rfl rfl ?_
  refine e_iload_n (pc2 := 9) hM rfl rfl rfl ?_
  refine e_iadd (pc2 := 10) hM rfl rfl ?_
  refine e_iload_n (pc2 := 11) hM rfl rfl rfl ?_
  refine e_iast (pc2 := 12) (k := 19) hM rfl rfl rfl (fun j1 => ?_)
  exact e_ret hM rfl rfl
theorem qX5_isOf_0 {sl : Nat} {xs : Nat → Int32} {d : Nat} {a0 a1 : Int32} {h : pmH} : pm_cf (pm_Ev sl xs) (d + 1) 45 [.ref 8, .int a0, .int a1] (SH, h) = if a1 = 0 then (some (some (.int (nI 1)), (SH, h))) else (pm_ix none a0 24 fun j1 => if (h 8 j1) = a1 then (some (some (.int (nI 1)), (SH, h))) else (some (some (.int (nI 0)), (SH, h)))) := by
  have hM : pm_mt 45 = some mt_45 := rfl
  refine e_call (L := [some (.ref 8), some (.int a0), some (.int a1)]) hM rfl rfl ?_
  refine e_iload_n (pc2 := 1) hM rfl rfl rfl ?_
  refine e_if_eq (pc2 := 4) (tgt := 14) hM rfl rfl rfl ?_ ?_
  · refine e_iconst (pc2 := 15) (v := nI 1) hM rfl rfl rfl ?_
    refine e_goto (tgt := 19) hM rfl rfl ?_
    exact e_zret hM rfl rfl pm_01b
  · refine e_aload_n (pc2 := 5) hM rfl rfl rfl ?_
    refine e_getfr (pc2 := 8) (k := 7) (b := 9) hM rfl rfl rfl rfl rfl ?_
    refine e_iload_n (pc2 := 9) hM rfl rfl rfl ?_
    refine e_iald (pc2 := 10) (k := 8) (V := fun j1 => (h 8 j1)) hM rfl rfl rfl (fun _ => rfl) (fun j1 => ?_)
    refine e_iload_n (pc2 := 11) hM rfl rfl rfl ?_
    refine e_icmp_ne (pc2 := 14) (tgt := 18) hM rfl rfl rfl ?_ ?_
    · refine e_iconst (pc2 := 19) (v := nI 0) hM rfl rfl rfl ?_
      exact e_zret hM rfl rfl pm_01a
    · refine e_iconst (pc2 := 15) (v := nI 1) hM rfl rfl rfl ?_
      refine e_goto (tgt := 19) hM rfl rfl ?_
      exact e_zret hM rfl rfl pm_01b
theorem qX5_load_0 {sl : Nat} {xs : Nat → Int32} {d : Nat} {a0 : Int32} {h : pmH} : pm_cf (pm_Ev sl xs) (d + 1) 46 [.ref 8, .int a0] (SH, h) = pm_ix none a0 24 fun j1 => pm_ix none a0 24 fun j2 => pm_ix none a0 24 fun j3 => if (h 8 j3) = (nI 2) then (some (some (.int ((nI 2) * ((h 13 j1) * (h 14 j2)))), (SH, h))) else (some (some (.int ((h 13 j1) * (h 14 j2))), (SH, h))) := by
  have hM : pm_mt 46 = some mt_46 := rfl
  refine e_call (L := [some (.ref 8), some (.int a0), none]) hM rfl rfl ?_
  refine e_aload_n (pc2 := 1) hM rfl rfl rfl ?_
  refine e_getfr (pc2 := 4) (k := 7) (b := 14) hM rfl rfl rfl rfl rfl ?_
  refine e_iload_n (pc2 := 5) hM rfl rfl rfl ?_
  refine e_iald (pc2 := 6) (k := 13) (V := fun j1 => (h 13 j1)) hM rfl rfl rfl (fun _ => rfl) (fun j1 => ?_)
  refine e_aload_n (pc2 := 7) hM rfl rfl rfl ?_
  refine e_getfr (pc2 := 10) (k := 7) (b := 15) hM rfl rfl rfl rfl rfl ?_
  refine e_iload_n (pc2 := 11) hM rfl rfl rfl ?_
  refine e_iald (pc2 := 12) (k := 14) (V := fun j2 => (h 14 j2)) hM rfl rfl rfl (fun _ => rfl) (fun j2 => ?_)
  refine e_imul (pc2 := 13) hM rfl rfl ?_
  refine e_istore_n (pc2 := 14) (L2 := [some (.ref 8), some (.int a0), some (.int ((h 13 j1) * (h 14 j2)))]) hM rfl rfl rfl rfl ?_
  refine e_aload_n (pc2 := 15) hM rfl rfl rfl ?_
  refine e_getfr (pc2 := 18) (k := 7) (b := 9) hM rfl rfl rfl rfl rfl ?_
  refine e_iload_n (pc2 := 19) hM rfl rfl rfl ?_
  refine e_iald (pc2 := 20) (k := 8) (V := fun j3 => (h 8 j3)) hM rfl rfl rfl (fun _ => rfl) (fun j3 => ?_)
  refine e_iconst (pc2 := 21) (v := nI 2) hM rfl rfl rfl ?_
  refine e_icmp_ne (pc2 := 24) (tgt := 30) hM rfl rfl rfl ?_ ?_
  · refine e_iload_n (pc2 := 31) hM rfl rfl rfl ?_
    exact e_iret hM rfl rfl
  · refine e_iconst (pc2 := 25) (v := nI 2) hM rfl rfl rfl ?_
    refine e_iload_n (pc2 := 26) hM rfl rfl rfl ?_
    refine e_imul (pc2 := 27) hM rfl rfl ?_
    refine e_goto (tgt := 31) hM rfl rfl ?_
    exact e_iret hM rfl rfl
theorem qX5_bears_0 {sl : Nat} {xs : Nat → Int32} {d : Nat} {a0 : Int32} {h : pmH} : pm_cf (pm_Ev sl xs) (d + 1) 47 [.ref 8, .int a0] (SH, h) = pm_ix none a0 24 fun j1 => some (some (.int ((nI 500) * (h 12 j1))), (SH, h)) := by
  have hM : pm_mt 47 = some mt_47 := rfl
  refine e_call (L := [some (.ref 8), some (.int a0)]) hM rfl rfl ?_
  refine e_sipush (pc2 := 3) (v := nI 500) hM rfl rfl rfl rfl ?_
  refine e_aload_n (pc2 := 4) hM rfl rfl rfl ?_
  refine e_getfr (pc2 := 7) (k := 7) (b := 13) hM rfl rfl rfl rfl rfl ?_
  refine e_iload_n (pc2 := 8) hM rfl rfl rfl ?_
  refine e_iald (pc2 := 9) (k := 12) (V := fun j1 => (h 12 j1)) hM rfl rfl rfl (fun _ => rfl) (fun j1 => ?_)
  refine e_imul (pc2 := 10) hM rfl rfl ?_
  exact e_iret hM rfl rfl
theorem qX5_hours_0 {sl : Nat} {xs : Nat → Int32} {d : Nat} {a0 : Int32} {h : pmH} : pm_cf (pm_Ev sl xs) (d + 1) 48 [.ref 8, .int a0] (SH, h) = pm_ix none a0 24 fun j1 => if nI 20 = 0 then none else (some (some (.int ((nI 1) + ((h 11 j1) / (nI 20)))), (SH, h))) := by
  have hM : pm_mt 48 = some mt_48 := rfl
  refine e_call (L := [some (.ref 8), some (.int a0)]) hM rfl rfl ?_
  refine e_iconst (pc2 := 1) (v := nI 1) hM rfl rfl rfl ?_
  refine e_aload_n (pc2 := 2) hM rfl rfl rfl ?_
  refine e_getfr (pc2 := 5) (k := 7) (b := 12) hM rfl rfl rfl rfl rfl ?_
  refine e_iload_n (pc2 := 6) hM rfl rfl rfl ?_
  refine e_iald (pc2 := 7) (k := 11) (V := fun j1 => (h 11 j1)) hM rfl rfl rfl (fun _ => rfl) (fun j1 => ?_)
  refine e_bipush (pc2 := 9) (v := nI 20) hM rfl rfl rfl rfl ?_
  refine e_idiv (pc2 := 10) hM rfl rfl ?_
  refine e_iadd (pc2 := 11) hM rfl rfl ?_
  exact e_iret hM rfl rfl
theorem qX5_kill_0 {sl : Nat} {xs : Nat → Int32} {d : Nat} {a0 : Int32} {h : pmH} : pm_cf (pm_Ev sl xs) (d + 1) 49 [.ref 8, .int a0] (SH, h) = pm_ix none a0 24 fun j1 => if (h 16 j1) = 0 then (pm_ix none a0 24 fun j2 => pm_ix none a0 24 fun j3 => pm_ix none a0 24 fun j4 => pm_ix none a0 24 fun j5 => some (none, (SH, (pm_up (pm_up (pm_up h 16 j2 (nI 1)) 17 j3 (nI 0)) 18 j5 ((h 13 j4) - (nI 1)))))) else (some (none, (SH, h))) := by
  have hM : pm_mt 49 = some mt_49 := rfl
  refine e_call (L := [some (.ref 8), some (.int a0)]) hM rfl rfl ?_
  refine e_aload_n (pc2 := 1) hM rfl rfl rfl ?_
  refine e_getfr (pc2 := 4) (k := 7) (b := 17) hM rfl rfl rfl rfl rfl ?_
  refine e_iload_n (pc2 := 5) hM rfl rfl rfl ?_
  refine e_bald (pc2 := 6) (k := 16) (V := fun j1 => (h 16 j1)) hM rfl rfl rfl (fun _ => rfl) (fun j1 => ?_)
  refine e_if_eq (pc2 := 9) (tgt := 10) hM rfl rfl rfl ?_ ?_
  · refine e_aload_n (pc2 := 11) hM rfl rfl rfl ?_
    refine e_getfr (pc2 := 14) (k := 7) (b := 17) hM rfl rfl rfl rfl rfl ?_
    refine e_iload_n (pc2 := 15) hM rfl rfl rfl ?_
    refine e_iconst (pc2 := 16) (v := nI 1) hM rfl rfl rfl ?_
    refine e_bast (pc2 := 17) (k := 16) hM rfl rfl rfl pm_01b (fun j2 => ?_)
    refine e_aload_n (pc2 := 18) hM rfl rfl rfl ?_
    refine e_getfr (pc2 := 21) (k := 7) (b := 18) hM rfl rfl rfl rfl rfl ?_
    refine e_iload_n (pc2 := 22) hM rfl rfl rfl ?_
    refine e_iconst (pc2 := 23) (v := nI 0) hM rfl rfl rfl ?_
    refine e_iast (pc2 := 24) (k := 17) hM rfl rfl rfl (fun j3 => ?_)
    refine e_aload_n (pc2 := 25) hM rfl rfl rfl ?_
    refine e_getfr (pc2 := 28) (k := 7) (b := 19) hM rfl rfl rfl rfl rfl ?_
    refine e_iload_n (pc2 := 29) hM rfl rfl rfl ?_
    refine e_aload_n (pc2 := 30) hM rfl rfl rfl ?_
    refine e_getfr (pc2 := 33) (k := 7) (b := 14) hM rfl rfl rfl rfl rfl ?_
    refine e_iload_n (pc2 := 34) hM rfl rfl rfl ?_
    refine e_iald (pc2 := 35) (k := 13) (V := fun j4 => (h 13 j4)) hM rfl rfl rfl (fun _ => rfl) (fun j4 => ?_)
    refine e_iconst (pc2 := 36) (v := nI 1) hM rfl rfl rfl ?_
    refine e_isub (pc2 := 37) hM rfl rfl ?_
    refine e_iast (pc2 := 38) (k := 18) hM rfl rfl rfl (fun j5 => ?_)
    exact e_ret hM rfl rfl
  · exact e_ret hM rfl rfl
theorem qX6_add_0 {sl : Nat} {xs : Nat → Int32} {d : Nat} {a0 : Int32} {h : pmH} : pm_cf (pm_Ev sl xs) (d + 1) 51 [.ref 38, .int a0] (SH, h) = pm_ix none (h 37 0) 24 fun j1 => some (some (.int ((h 37 0) + (nI 1))), (SH, (pm_up (pm_up h 38 j1 a0) 37 0 ((h 37 0) + (nI 1))))) := by
  have hM : pm_mt 51 = some mt_51 := rfl
  refine e_call (L := [some (.ref 38), some (.int a0)]) hM rfl rfl ?_
  refine e_aload_n (pc2 := 1) hM rfl rfl rfl ?_
  refine e_getfr (pc2 := 4) (k := 37) (b := 39) hM rfl rfl rfl rfl rfl ?_
  refine e_aload_n (pc2 := 5) hM rfl rfl rfl ?_
  refine e_getfi (pc2 := 8) (k := 37) (v := (h 37 0)) hM rfl rfl rfl rfl rfl rfl ?_
  refine e_iload_n (pc2 := 9) hM rfl rfl rfl ?_
  refine e_iast (pc2 := 10) (k := 38) hM rfl rfl rfl (fun j1 => ?_)
  refine e_aload_n (pc2 := 11) hM rfl rfl rfl ?_
  refine e_dup (pc2 := 12) hM rfl rfl rfl ?_
  refine e_getfi (pc2 := 15) (k := 37) (v := (h 37 0)) hM rfl rfl rfl rfl rfl rfl ?_
  refine e_iconst (pc2 := 16) (v := nI 1) hM rfl rfl rfl ?_
  refine e_iadd (pc2 := 17) hM rfl rfl ?_
  refine e_putf (pc2 := 20) (k := 37) hM rfl rfl rfl rfl rfl rfl ?_
  refine e_aload_n (pc2 := 21) hM rfl rfl rfl ?_
  refine e_getfi (pc2 := 24) (k := 37) (v := ((h 37 0) + (nI 1))) hM rfl rfl rfl rfl rfl rfl ?_
  exact e_iret hM rfl rfl
theorem qX6_compare_0 {sl : Nat} {xs : Nat → Int32} {d : Nat} {a0 : Int32} {h : pmH} : pm_cf (pm_Ev sl xs) (d + 2) 52 [.ref 38, .int a0] (SH, h) = pm_Ev sl xs (d + 1) 52 4 [some (.ref 38), some (.int a0), some (.int (nI 0)), some (.int (nI 0))] [] (SH, h) := by
  have hM : pm_mt 52 = some mt_52 := rfl
  refine e_call (L := [some (.ref 38), some (.int a0), none, none]) hM rfl rfl ?_
  refine e_iconst (pc2 := 1) (v := nI 0) hM rfl rfl rfl ?_
  refine e_istore_n (pc2 := 2) (L2 := [some (.ref 38), some (.int a0), some (.int (nI 0)), none]) hM rfl rfl rfl rfl ?_
  refine e_iconst (pc2 := 3) (v := nI 0) hM rfl rfl rfl ?_
  refine e_istore_n (pc2 := 4) (L2 := [some (.ref 38), some (.int a0), some (.int (nI 0)), some (.int (nI 0))]) hM rfl rfl rfl rfl ?_
  exact rfl
theorem qX6_compare_4 {sl : Nat} {xs : Nat → Int32} {d : Nat} {b1 b2 b3 : Int32} {h : pmH} : pm_Ev sl xs (d + 1) 52 4 [some (.ref 38), some (.int b1), some (.int b2), some (.int b3)] [] (SH, h) = if (nI 24) ≤ b3 then (if (h 37 0) ≤ b2 then (some (some (.int (nI 0)), (SH, h))) else (some (some (.int (nI 99)), (SH, h)))) else (pm_ri (pm_cf (pm_Ev sl xs) (d + 1) 88 [.int b1, .int b3] (SH, h)) SH fun x2 h1 => if x2 = 0 then (pm_Ev sl xs (d + 1) 52 4 [some (.ref 38), some (.int b1), some (.int b2), some (.int (b3 + (nI 1)))] [] (SH, h1)) else (if (h1 37 0) ≤ b2 then (some (some (.int ((nI 1) + b2)), (SH, h1))) else (pm_ix none b2 24 fun j3 => if (h1 38 j3) = b3 then (pm_Ev sl xs (d + 1) 52 4 [some (.ref 38), some (.int b1), some (.int (b2 + (nI 1))), some (.int (b3 + (nI 1)))] [] (SH, h1)) else (some (some (.int ((nI 1) + b2)), (SH, h1)))))) := by
  have hM : pm_mt 52 = some mt_52 := rfl
  refine e_iload_n (pc2 := 5) hM rfl rfl rfl ?_
  refine e_bipush (pc2 := 7) (v := nI 24) hM rfl rfl rfl rfl ?_
  refine e_icmp_ge (pc2 := 10) (tgt := 52) hM rfl rfl rfl ?_ ?_
  · refine e_aload_n (pc2 := 53) hM rfl rfl rfl ?_
    refine e_getfi (pc2 := 56) (k := 37) (v := (h 37 0)) hM rfl rfl rfl rfl rfl rfl ?_
    refine e_iload_n (pc2 := 57) hM rfl rfl rfl ?_
    refine e_icmp_le (pc2 := 60) (tgt := 65) hM rfl rfl rfl ?_ ?_
    · refine e_iconst (pc2 := 66) (v := nI 0) hM rfl rfl rfl ?_
      exact e_iret hM rfl rfl
    · refine e_bipush (pc2 := 62) (v := nI 99) hM rfl rfl rfl rfl ?_
      refine e_goto (tgt := 66) hM rfl rfl ?_
      exact e_iret hM rfl rfl
  · refine e_iload_n (pc2 := 11) hM rfl rfl rfl ?_
    refine e_iload_n (pc2 := 12) hM rfl rfl rfl ?_
    refine e_csi (pc2 := 15) (As := [.int b1, .int b3]) (rest := []) hM rfl rfl rfl rfl rfl rfl rfl (fun x2 h1 => ?_)
    refine e_if_ne (pc2 := 18) (tgt := 21) hM rfl rfl rfl ?_ ?_
    · refine e_iload_n (pc2 := 22) hM rfl rfl rfl ?_
      refine e_aload_n (pc2 := 23) hM rfl rfl rfl ?_
      refine e_getfi (pc2 := 26) (k := 37) (v := (h1 37 0)) hM rfl rfl rfl rfl rfl rfl ?_
      refine e_icmp_ge (pc2 := 29) (tgt := 39) hM rfl rfl rfl ?_ ?_
      · refine e_iconst (pc2 := 40) (v := nI 1) hM rfl rfl rfl ?_
        refine e_iload_n (pc2 := 41) hM rfl rfl rfl ?_
        refine e_iadd (pc2 := 42) hM rfl rfl ?_
        exact e_iret hM rfl rfl
      · refine e_aload_n (pc2 := 30) hM rfl rfl rfl ?_
        refine e_getfr (pc2 := 33) (k := 37) (b := 39) hM rfl rfl rfl rfl rfl ?_
        refine e_iload_n (pc2 := 34) hM rfl rfl rfl ?_
        refine e_iald (pc2 := 35) (k := 38) (V := fun j3 => (h1 38 j3)) hM rfl rfl rfl (fun _ => rfl) (fun j3 => ?_)
        refine e_iload_n (pc2 := 36) hM rfl rfl rfl ?_
        refine e_icmp_eq (pc2 := 39) (tgt := 43) hM rfl rfl rfl ?_ ?_
        · refine e_iinc (pc2 := 46) (v := nI 1) (L2 := [some (.ref 38), some (.int b1), some (.int (b2 + (nI 1))), some (.int b3)]) hM rfl rfl rfl rfl rfl ?_
          refine e_iinc (pc2 := 49) (v := nI 1) (L2 := [some (.ref 38), some (.int b1), some (.int (b2 + (nI 1))), some (.int (b3 + (nI 1)))]) hM rfl rfl rfl rfl rfl ?_
          refine e_goto (tgt := 4) hM rfl rfl ?_
          exact rfl
        · refine e_iconst (pc2 := 40) (v := nI 1) hM rfl rfl rfl ?_
          refine e_iload_n (pc2 := 41) hM rfl rfl rfl ?_
          refine e_iadd (pc2 := 42) hM rfl rfl ?_
          exact e_iret hM rfl rfl
    · refine e_goto (tgt := 46) hM rfl rfl ?_
      refine e_iinc (pc2 := 49) (v := nI 1) (L2 := [some (.ref 38), some (.int b1), some (.int b2), some (.int (b3 + (nI 1)))]) hM rfl rfl rfl rfl rfl ?_
      refine e_goto (tgt := 4) hM rfl rfl ?_
      exact rfl
theorem qX7_crate_0 {sl : Nat} {xs : Nat → Int32} {d : Nat} {a0 : Int32} {h : pmH} : pm_cf (pm_Ev sl xs) (d + 2) 54 [.ref 1, .int a0] (SH, h) = pm_ri (pm_cf (pm_Ev sl xs) (d + 1) 86 [.int a0, .int (nI 1), .int (nI 1000)] (SH, h)) SH fun x2 h1 => if x2 = 0 then (pm_ri (pm_cf (pm_Ev sl xs) (d + 1) 85 [.ref 1, .int (-1000000001)] (SH, h1)) SH fun x8 h7 => some (some (.int x8), (SH, h7))) else (if (h1 2 0) < (nI 12) then (pm_ri (pm_cf (pm_Ev sl xs) (d + 1) 14 [.ref 3, .int a0] (SH, h1)) SH fun x4 h3 => some (some (.int x4), (SH, h3))) else (pm_ri (pm_cf (pm_Ev sl xs) (d + 1) 85 [.ref 1, .int (-1000000004)] (SH, h1)) SH fun x6 h5 => some (some (.int x6), (SH, h5)))) := by
  have hM : pm_mt 54 = some mt_54 := rfl
  refine e_call (L := [some (.ref 1), some (.int a0)]) hM rfl rfl ?_
  refine e_iload_n (pc2 := 1) hM rfl rfl rfl ?_
  refine e_iconst (pc2 := 2) (v := nI 1) hM rfl rfl rfl ?_
  refine e_sipush (pc2 := 5) (v := nI 1000) hM rfl rfl rfl rfl ?_
  refine e_csi (pc2 := 8) (As := [.int a0, .int (nI 1), .int (nI 1000)]) (rest := []) hM rfl rfl rfl rfl rfl rfl rfl (fun x2 h1 => ?_)
  refine e_if_ne (pc2 := 11) (tgt := 18) hM rfl rfl rfl ?_ ?_
  · refine e_aload_n (pc2 := 19) hM rfl rfl rfl ?_
    refine e_getfr (pc2 := 22) (k := 0) (b := 3) hM rfl rfl rfl rfl rfl ?_
    refine e_getfi (pc2 := 25) (k := 2) (v := (h1 2 0)) hM rfl rfl rfl rfl rfl rfl ?_
    refine e_bipush (pc2 := 27) (v := nI 12) hM rfl rfl rfl rfl ?_
    refine e_icmp_lt (pc2 := 30) (tgt := 37) hM rfl rfl rfl ?_ ?_
    · refine e_aload_n (pc2 := 38) hM rfl rfl rfl ?_
      refine e_getfr (pc2 := 41) (k := 0) (b := 3) hM rfl rfl rfl rfl rfl ?_
      refine e_iload_n (pc2 := 42) hM rfl rfl rfl ?_
      refine e_cvi (pc2 := 45) (k := 2) (As := [.ref 3, .int a0]) (rest := []) hM rfl rfl rfl rfl rfl rfl rfl (fun x4 h3 => ?_)
      exact e_iret hM rfl rfl
    · refine e_aload_n (pc2 := 31) hM rfl rfl rfl ?_
      refine e_ldc (pc2 := 33) (v := (-1000000004)) hM rfl rfl rfl ?_
      refine e_cvi (pc2 := 36) (k := 0) (As := [.ref 1, .int (-1000000004)]) (rest := []) hM rfl rfl rfl rfl rfl rfl rfl (fun x6 h5 => ?_)
      exact e_iret hM rfl rfl
  · refine e_aload_n (pc2 := 12) hM rfl rfl rfl ?_
    refine e_ldc (pc2 := 14) (v := (-1000000001)) hM rfl rfl rfl ?_
    refine e_cvi (pc2 := 17) (k := 0) (As := [.ref 1, .int (-1000000001)]) (rest := []) hM rfl rfl rfl rfl rfl rfl rfl (fun x8 h7 => ?_)
    exact e_iret hM rfl rfl
theorem qX7_string_0 {sl : Nat} {xs : Nat → Int32} {d : Nat} {a0 a1 a2 a3 a4 a5 : Int32} {h : pmH} : pm_cf (pm_Ev sl xs) (d + 2) 55 [.ref 1, .int a0, .int a1, .int a2, .int a3, .int a4, .int a5] (SH, h) = pm_ri (pm_cf (pm_Ev sl xs) (d + 1) 89 [.int a0] (SH, h)) SH fun x2 h1 => if x2 = 0 then (pm_ri (pm_cf (pm_Ev sl xs) (d + 1) 85 [.ref 1, .int (-1000000001)] (SH, h1)) SH fun x4 h3 => some (some (.int x4), (SH, h3))) else (if nI 10 = 0 then none else (pm_ri (pm_cf (pm_Ev sl xs) (d + 1) 90 [.ref 1, .int (a0 - a0 / (nI 10) * (nI 10)), .int a1] (SH, h1)) SH fun x6 h5 => if x6 = 0 then (pm_ri (pm_cf (pm_Ev sl xs) (d + 1) 85 [.ref 1, .int (-1000000001)] (SH, h5)) SH fun x8 h7 => some (some (.int x8), (SH, h7))) else (pm_ri (pm_cf (pm_Ev sl xs) (d + 1) 86 [.int a2, .int (nI 1), .int (nI 100)] (SH, h5)) SH fun x10 h9 => if x10 = 0 then (pm_ri (pm_cf (pm_Ev sl xs) (d + 1) 85 [.ref 1, .int (-1000000001)] (SH, h9)) SH fun x12 h11 => some (some (.int x12), (SH, h11))) else (pm_ri (pm_cf (pm_Ev sl xs) (d + 1) 86 [.int a3, .int (nI 1), .int (nI 10)] (SH, h9)) SH fun x14 h13 => if x14 = 0 then (pm_ri (pm_cf (pm_Ev sl xs) (d + 1) 85 [.ref 1, .int (-1000000001)] (SH, h13)) SH fun x16 h15 => some (some (.int x16), (SH, h15))) else (pm_ri (pm_cf (pm_Ev sl xs) (d + 1) 86 [.int a4, .int (nI 1), .int (nI 60)] (SH, h13)) SH fun x18 h17 => if x18 = 0 then (pm_ri (pm_cf (pm_Ev sl xs) (d + 1) 85 [.ref 1, .int (-1000000001)] (SH, h17)) SH fun x20 h19 => some (some (.int x20), (SH, h19))) else (pm_ri (pm_cf (pm_Ev sl xs) (d + 1) 86 [.int a5, .int (nI 1), .int (nI 20)] (SH, h17)) SH fun x22 h21 => if x22 = 0 then (pm_ri (pm_cf (pm_Ev sl xs) (d + 1) 85 [.ref 1, .int (-1000000001)] (SH, h21)) SH fun x32 h31 => some (some (.int x32), (SH, h31))) else (pm_ri (pm_cf (pm_Ev sl xs) (d + 1) 15 [.ref 3] (SH, h21)) SH fun x24 h23 => if a4 ≤ x24 then (if (h23 7 0) < (nI 24) then (pm_ri (pm_cf (pm_Ev sl xs) (d + 1) 42 [.ref 8, .int a0, .int a1, .int a2, .int a3, .int a4, .int a5] (SH, h23)) SH fun x26 h25 => pm_Ev sl xs (d + 1) 55 128 [some (.ref 1), some (.int a0), some (.int a1), some (.int a2), some (.int a3), some (.int a4), some (.int a5), some (.int x26), some (.int (nI 0))] [] (SH, h25)) else (pm_ri (pm_cf (pm_Ev sl xs) (d + 1) 85 [.ref 1, .int (-1000000004)] (SH, h23)) SH fun x28 h27 => some (some (.int x28), (SH, h27)))) else (pm_ri (pm_cf (pm_Ev sl xs) (d + 1) 85 [.ref 1, .int (-1000000003)] (SH, h23)) SH fun x30 h29 => some (some (.int x30), (SH, h29)))))))))) := by
  have hM : pm_mt 55 = some mt_55 := rfl
  refine e_call (L := [some (.ref 1), some (.int a0), some (.int a1), some (.int a2), some (.int a3), some (.int a4), some (.int a5), none, none]) hM rfl rfl ?_
  refine e_iload_n (pc2 := 1) hM rfl rfl rfl ?_
  refine e_csi (pc2 := 4) (As := [.int a0]) (rest := []) hM rfl rfl rfl rfl rfl rfl rfl (fun x2 h1 => ?_)
  refine e_if_eq (pc2 := 7) (tgt := 62) hM rfl rfl rfl ?_ ?_
  · refine e_aload_n (pc2 := 63) hM rfl rfl rfl ?_
    refine e_ldc (pc2 := 65) (v := (-1000000001)) hM rfl rfl rfl ?_
    refine e_cvi (pc2 := 68) (k := 0) (As := [.ref 1, .int (-1000000001)]) (rest := []) hM rfl rfl rfl rfl rfl rfl rfl (fun x4 h3 => ?_)
    exact e_iret hM rfl rfl
  · refine e_aload_n (pc2 := 8) hM rfl rfl rfl ?_
    refine e_iload_n (pc2 := 9) hM rfl rfl rfl ?_
    refine e_bipush (pc2 := 11) (v := nI 10) hM rfl rfl rfl rfl ?_
    refine e_irem (pc2 := 12) hM rfl rfl ?_
    refine e_iload_n (pc2 := 13) hM rfl rfl rfl ?_
    refine e_cvi (pc2 := 16) (k := 0) (As := [.ref 1, .int (a0 - a0 / (nI 10) * (nI 10)), .int a1]) (rest := []) hM rfl rfl rfl rfl rfl rfl rfl (fun x6 h5 => ?_)
    refine e_if_eq (pc2 := 19) (tgt := 62) hM rfl rfl rfl ?_ ?_
    · refine e_aload_n (pc2 := 63) hM rfl rfl rfl ?_
      refine e_ldc (pc2 := 65) (v := (-1000000001)) hM rfl rfl rfl ?_
      refine e_cvi (pc2 := 68) (k := 0) (As := [.ref 1, .int (-1000000001)]) (rest := []) hM rfl rfl rfl rfl rfl rfl rfl (fun x8 h7 => ?_)
      exact e_iret hM rfl rfl
    · refine e_iload_n (pc2 := 20) hM rfl rfl rfl ?_
      refine e_iconst (pc2 := 21) (v := nI 1) hM rfl rfl rfl ?_
      refine e_bipush (pc2 := 23) (v := nI 100) hM rfl rfl rfl rfl ?_
      refine e_csi (pc2 := 26) (As := [.int a2, .int (nI 1), .int (nI 100)]) (rest := []) hM rfl rfl rfl rfl rfl rfl rfl (fun x10 h9 => ?_)
      refine e_if_eq (pc2 := 29) (tgt := 62) hM rfl rfl rfl ?_ ?_
      · refine e_aload_n (pc2 := 63) hM rfl rfl rfl ?_
        refine e_ldc (pc2 := 65) (v := (-1000000001)) hM rfl rfl rfl ?_
        refine e_cvi (pc2 := 68) (k := 0) (As := [.ref 1, .int (-1000000001)]) (rest := []) hM rfl rfl rfl rfl rfl rfl rfl (fun x12 h11 => ?_)
        exact e_iret hM rfl rfl
      · refine e_iload (pc2 := 31) hM rfl rfl rfl ?_
        refine e_iconst (pc2 := 32) (v := nI 1) hM rfl rfl rfl ?_
        refine e_bipush (pc2 := 34) (v := nI 10) hM rfl rfl rfl rfl ?_
        refine e_csi (pc2 := 37) (As := [.int a3, .int (nI 1), .int (nI 10)]) (rest := []) hM rfl rfl rfl rfl rfl rfl rfl (fun x14 h13 => ?_)
        refine e_if_eq (pc2 := 40) (tgt := 62) hM rfl rfl rfl ?_ ?_
        · refine e_aload_n (pc2 := 63) hM rfl rfl rfl ?_
          refine e_ldc (pc2 := 65) (v := (-1000000001)) hM rfl rfl rfl ?_
          refine e_cvi (pc2 := 68) (k := 0) (As := [.ref 1, .int (-1000000001)]) (rest := []) hM rfl rfl rfl rfl rfl rfl rfl (fun x16 h15 => ?_)
          exact e_iret hM rfl rfl
        · refine e_iload (pc2 := 42) hM rfl rfl rfl ?_
          refine e_iconst (pc2 := 43) (v := nI 1) hM rfl rfl rfl ?_
          refine e_bipush (pc2 := 45) (v := nI 60) hM rfl rfl rfl rfl ?_
          refine e_csi (pc2 := 48) (As := [.int a4, .int (nI 1), .int (nI 60)]) (rest := []) hM rfl rfl rfl rfl rfl rfl rfl (fun x18 h17 => ?_)
          refine e_if_eq (pc2 := 51) (tgt := 62) hM rfl rfl rfl ?_ ?_
          · refine e_aload_n (pc2 := 63) hM rfl rfl rfl ?_
            refine e_ldc (pc2 := 65) (v := (-1000000001)) hM rfl rfl rfl ?_
            refine e_cvi (pc2 := 68) (k := 0) (As := [.ref 1, .int (-1000000001)]) (rest := []) hM rfl rfl rfl rfl rfl rfl rfl (fun x20 h19 => ?_)
            exact e_iret hM rfl rfl
          · refine e_iload (pc2 := 53) hM rfl rfl rfl ?_
            refine e_iconst (pc2 := 54) (v := nI 1) hM rfl rfl rfl ?_
            refine e_bipush (pc2 := 56) (v := nI 20) hM rfl rfl rfl rfl ?_
            refine e_csi (pc2 := 59) (As := [.int a5, .int (nI 1), .int (nI 20)]) (rest := []) hM rfl rfl rfl rfl rfl rfl rfl (fun x22 h21 => ?_)
            refine e_if_ne (pc2 := 62) (tgt := 69) hM rfl rfl rfl ?_ ?_
            · refine e_aload_n (pc2 := 70) hM rfl rfl rfl ?_
              refine e_getfr (pc2 := 73) (k := 0) (b := 3) hM rfl rfl rfl rfl rfl ?_
              refine e_cvi (pc2 := 76) (k := 2) (As := [.ref 3]) (rest := []) hM rfl rfl rfl rfl rfl rfl rfl (fun x24 h23 => ?_)
              refine e_iload (pc2 := 78) hM rfl rfl rfl ?_
              refine e_icmp_ge (pc2 := 81) (tgt := 88) hM rfl rfl rfl ?_ ?_
              · refine e_aload_n (pc2 := 89) hM rfl rfl rfl ?_
                refine e_getfr (pc2 := 92) (k := 0) (b := 8) hM rfl rfl rfl rfl rfl ?_
                refine e_getfi (pc2 := 95) (k := 7) (v := (h23 7 0)) hM rfl rfl rfl rfl rfl rfl ?_
                refine e_bipush (pc2 := 97) (v := nI 24) hM rfl rfl rfl rfl ?_
                refine e_icmp_lt (pc2 := 100) (tgt := 107) hM rfl rfl rfl ?_ ?_
                · refine e_aload_n (pc2 := 108) hM rfl rfl rfl ?_
                  refine e_getfr (pc2 := 111) (k := 0) (b := 8) hM rfl rfl rfl rfl rfl ?_
                  refine e_iload_n (pc2 := 112) hM rfl rfl rfl ?_
                  refine e_iload_n (pc2 := 113) hM rfl rfl rfl ?_
                  refine e_iload_n (pc2 := 114) hM rfl rfl rfl ?_
                  refine e_iload (pc2 := 116) hM rfl rfl rfl ?_
                  refine e_iload (pc2 := 118) hM rfl rfl rfl ?_
                  refine e_iload (pc2 := 120) hM rfl rfl rfl ?_
                  refine e_cvi (pc2 := 123) (k := 7) (As := [.ref 8, .int a0, .int a1, .int a2, .int a3, .int a4, .int a5]) (rest := []) hM rfl rfl rfl rfl rfl rfl rfl (fun x26 h25 => ?_)
                  refine e_istore (pc2 := 125) (L2 := [some (.ref 1), some (.int a0), some (.int a1), some (.int a2), some (.int a3), some (.int a4), some (.int a5), some (.int x26), none]) hM rfl rfl rfl rfl ?_
                  refine e_iconst (pc2 := 126) (v := nI 0) hM rfl rfl rfl ?_
                  refine e_istore (pc2 := 128) (L2 := [some (.ref 1), some (.int a0), some (.int a1), some (.int a2), some (.int a3), some (.int a4), some (.int a5), some (.int x26), some (.int (nI 0))]) hM rfl rfl rfl rfl ?_
                  exact rfl
                · refine e_aload_n (pc2 := 101) hM rfl rfl rfl ?_
                  refine e_ldc (pc2 := 103) (v := (-1000000004)) hM rfl rfl rfl ?_
                  refine e_cvi (pc2 := 106) (k := 0) (As := [.ref 1, .int (-1000000004)]) (rest := []) hM rfl rfl rfl rfl rfl rfl rfl (fun x28 h27 => ?_)
                  exact e_iret hM rfl rfl
              · refine e_aload_n (pc2 := 82) hM rfl rfl rfl ?_
                refine e_ldc (pc2 := 84) (v := (-1000000003)) hM rfl rfl rfl ?_
                refine e_cvi (pc2 := 87) (k := 0) (As := [.ref 1, .int (-1000000003)]) (rest := []) hM rfl rfl rfl rfl rfl rfl rfl (fun x30 h29 => ?_)
                exact e_iret hM rfl rfl
            · refine e_aload_n (pc2 := 63) hM rfl rfl rfl ?_
              refine e_ldc (pc2 := 65) (v := (-1000000001)) hM rfl rfl rfl ?_
              refine e_cvi (pc2 := 68) (k := 0) (As := [.ref 1, .int (-1000000001)]) (rest := []) hM rfl rfl rfl rfl rfl rfl rfl (fun x32 h31 => ?_)
              exact e_iret hM rfl rfl
theorem qX7_string_128 {sl : Nat} {xs : Nat → Int32} {d : Nat} {b5 b7 b8 : Int32} {o1 o2 o3 o4 o6 : Option Value} {h : pmH} : pm_Ev sl xs (d + 1) 55 128 [some (.ref 1), o1, o2, o3, o4, some (.int b5), o6, some (.int b7), some (.int b8)] [] (SH, h) = if b5 ≤ b8 then (pm_rv (pm_cf (pm_Ev sl xs) (d + 1) 28 [.ref 29, .int b7] (SH, h)) SH fun h1 => some (some (.int b7), (SH, h1))) else (pm_ri (pm_cf (pm_Ev sl xs) (d + 1) 16 [.ref 3] (SH, h)) SH fun x3 h2 => pm_rv (pm_cf (pm_Ev sl xs) (d + 1) 44 [.ref 8, .int b7, .int b8, .int x3] (SH, h2)) SH fun h4 => pm_Ev sl xs (d + 1) 55 128 [some (.ref 1), o1, o2, o3, o4, some (.int b5), o6, some (.int b7), some (.int (b8 + (nI 1)))] [] (SH, h4)) := by
  have hM : pm_mt 55 = some mt_55 := rfl
  refine e_iload (pc2 := 130) hM rfl rfl rfl ?_
  refine e_iload (pc2 := 132) hM rfl rfl rfl ?_
  refine e_icmp_ge (pc2 := 135) (tgt := 159) hM rfl rfl rfl ?_ ?_
  · refine e_aload_n (pc2 := 160) hM rfl rfl rfl ?_
    refine e_getfr (pc2 := 163) (k := 0) (b := 29) hM rfl rfl rfl rfl rfl ?_
    refine e_iload (pc2 := 165) hM rfl rfl rfl ?_
    refine e_cvv (pc2 := 168) (k := 28) (As := [.ref 29, .int b7]) (rest := []) hM rfl rfl rfl rfl rfl rfl rfl (fun h1 => ?_)
    refine e_iload (pc2 := 170) hM rfl rfl rfl ?_
    exact e_iret hM rfl rfl
  · refine e_aload_n (pc2 := 136) hM rfl rfl rfl ?_
    refine e_getfr (pc2 := 139) (k := 0) (b := 8) hM rfl rfl rfl rfl rfl ?_
    refine e_iload (pc2 := 141) hM rfl rfl rfl ?_
    refine e_iload (pc2 := 143) hM rfl rfl rfl ?_
    refine e_aload_n (pc2 := 144) hM rfl rfl rfl ?_
    refine e_getfr (pc2 := 147) (k := 0) (b := 3) hM rfl rfl rfl rfl rfl ?_
    refine e_cvi (pc2 := 150) (k := 2) (As := [.ref 3]) (rest := [.int b8, .int b7, .ref 8]) hM rfl rfl rfl rfl rfl rfl rfl (fun x3 h2 => ?_)
    refine e_cvv (pc2 := 153) (k := 7) (As := [.ref 8, .int b7, .int b8, .int x3]) (rest := []) hM rfl rfl rfl rfl rfl rfl rfl (fun h4 => ?_)
    refine e_iinc (pc2 := 156) (v := nI 1) (L2 := [some (.ref 1), o1, o2, o3, o4, some (.int b5), o6, some (.int b7), some (.int (b8 + (nI 1)))]) hM rfl rfl rfl rfl rfl ?_
    refine e_goto (tgt := 128) hM rfl rfl ?_
    exact rfl
theorem qX7_fuse_0 {sl : Nat} {xs : Nat → Int32} {d : Nat} {a0 a1 : Int32} {h : pmH} : pm_cf (pm_Ev sl xs) (d + 2) 56 [.ref 1, .int a0, .int a1] (SH, h) = pm_ri (pm_cf (pm_Ev sl xs) (d + 1) 40 [.ref 8, .int a0] (SH, h)) SH fun x2 h1 => if x2 = 0 then (pm_ri (pm_cf (pm_Ev sl xs) (d + 1) 85 [.ref 1, .int (-1000000001)] (SH, h1)) SH fun x4 h3 => some (some (.int x4), (SH, h3))) else (pm_ri (pm_cf (pm_Ev sl xs) (d + 1) 86 [.int a1, .int (nI 0), .int 60000] (SH, h1)) SH fun x6 h5 => if x6 = 0 then (pm_ri (pm_cf (pm_Ev sl xs) (d + 1) 85 [.ref 1, .int (-1000000001)] (SH, h5)) SH fun x10 h9 => some (some (.int x10), (SH, h9))) else (pm_ix none a0 24 fun j7 => pm_ix none a0 24 fun j8 => some (some (.int (h5 15 j7)), (SH, (pm_up h5 15 j8 a1))))) := by
  have hM : pm_mt 56 = some mt_56 := rfl
  refine e_call (L := [some (.ref 1), some (.int a0), some (.int a1), none]) hM rfl rfl ?_
  refine e_aload_n (pc2 := 1) hM rfl rfl rfl ?_
  refine e_getfr (pc2 := 4) (k := 0) (b := 8) hM rfl rfl rfl rfl rfl ?_
  refine e_iload_n (pc2 := 5) hM rfl rfl rfl ?_
  refine e_cvi (pc2 := 8) (k := 7) (As := [.ref 8, .int a0]) (rest := []) hM rfl rfl rfl rfl rfl rfl rfl (fun x2 h1 => ?_)
  refine e_if_eq (pc2 := 11) (tgt := 21) hM rfl rfl rfl ?_ ?_
  · refine e_aload_n (pc2 := 22) hM rfl rfl rfl ?_
    refine e_ldc (pc2 := 24) (v := (-1000000001)) hM rfl rfl rfl ?_
    refine e_cvi (pc2 := 27) (k := 0) (As := [.ref 1, .int (-1000000001)]) (rest := []) hM rfl rfl rfl rfl rfl rfl rfl (fun x4 h3 => ?_)
    exact e_iret hM rfl rfl
  · refine e_iload_n (pc2 := 12) hM rfl rfl rfl ?_
    refine e_iconst (pc2 := 13) (v := nI 0) hM rfl rfl rfl ?_
    refine e_ldc (pc2 := 15) (v := 60000) hM rfl rfl rfl ?_
    refine e_csi (pc2 := 18) (As := [.int a1, .int (nI 0), .int 60000]) (rest := []) hM rfl rfl rfl rfl rfl rfl rfl (fun x6 h5 => ?_)
    refine e_if_ne (pc2 := 21) (tgt := 28) hM rfl rfl rfl ?_ ?_
    · refine e_aload_n (pc2 := 29) hM rfl rfl rfl ?_
      refine e_getfr (pc2 := 32) (k := 0) (b := 8) hM rfl rfl rfl rfl rfl ?_
      refine e_getfr (pc2 := 35) (k := 7) (b := 16) hM rfl rfl rfl rfl rfl ?_
      refine e_iload_n (pc2 := 36) hM rfl rfl rfl ?_
      refine e_iald (pc2 := 37) (k := 15) (V := fun j7 => (h5 15 j7)) hM rfl rfl rfl (fun _ => rfl) (fun j7 => ?_)
      refine e_istore_n (pc2 := 38) (L2 := [some (.ref 1), some (.int a0), some (.int a1), some (.int (h5 15 j7))]) hM rfl rfl rfl rfl ?_
      refine e_aload_n (pc2 := 39) hM rfl rfl rfl ?_
      refine e_getfr (pc2 := 42) (k := 0) (b := 8) hM rfl rfl rfl rfl rfl ?_
      refine e_getfr (pc2 := 45) (k := 7) (b := 16) hM rfl rfl rfl rfl rfl ?_
      refine e_iload_n (pc2 := 46) hM rfl rfl rfl ?_
      refine e_iload_n (pc2 := 47) hM rfl rfl rfl ?_
      refine e_iast (pc2 := 48) (k := 15) hM rfl rfl rfl (fun j8 => ?_)
      refine e_iload_n (pc2 := 49) hM rfl rfl rfl ?_
      exact e_iret hM rfl rfl
    · refine e_aload_n (pc2 := 22) hM rfl rfl rfl ?_
      refine e_ldc (pc2 := 24) (v := (-1000000001)) hM rfl rfl rfl ?_
      refine e_cvi (pc2 := 27) (k := 0) (As := [.ref 1, .int (-1000000001)]) (rest := []) hM rfl rfl rfl rfl rfl rfl rfl (fun x10 h9 => ?_)
      exact e_iret hM rfl rfl
theorem qX7_dead_0 {sl : Nat} {xs : Nat → Int32} {d : Nat} {a0 a1 : Int32} {h : pmH} : pm_cf (pm_Ev sl xs) (d + 2) 57 [.ref 1, .int a0, .int a1] (SH, h) = pm_ri (pm_cf (pm_Ev sl xs) (d + 1) 40 [.ref 8, .int a0] (SH, h)) SH fun x2 h1 => if x2 = 0 then (pm_ri (pm_cf (pm_Ev sl xs) (d + 1) 85 [.ref 1, .int (-1000000001)] (SH, h1)) SH fun x4 h3 => some (some (.int x4), (SH, h3))) else (pm_ri (pm_cf (pm_Ev sl xs) (d + 1) 86 [.int a1, .int (nI 0), .int (nI 1)] (SH, h1)) SH fun x6 h5 => if x6 = 0 then (pm_ri (pm_cf (pm_Ev sl xs) (d + 1) 85 [.ref 1, .int (-1000000001)] (SH, h5)) SH fun x13 h12 => some (some (.int x13), (SH, h12))) else (pm_ix none a0 24 fun j7 => pm_ri (pm_cf (pm_Ev sl xs) (d + 1) 87 [.int (h5 16 j7)] (SH, h5)) SH fun x9 h8 => if a1 = (nI 1) then (pm_rv (pm_cf (pm_Ev sl xs) (d + 1) 49 [.ref 8, .int a0] (SH, h8)) SH fun h11 => some (some (.int x9), (SH, h11))) else (pm_ix none a0 24 fun j10 => some (some (.int x9), (SH, (pm_up h8 16 j10 (nI 0))))))) := by
  have hM : pm_mt 57 = some mt_57 := rfl
  refine e_call (L := [some (.ref 1), some (.int a0), some (.int a1), none]) hM rfl rfl ?_
  refine e_aload_n (pc2 := 1) hM rfl rfl rfl ?_
  refine e_getfr (pc2 := 4) (k := 0) (b := 8) hM rfl rfl rfl rfl rfl ?_
  refine e_iload_n (pc2 := 5) hM rfl rfl rfl ?_
  refine e_cvi (pc2 := 8) (k := 7) (As := [.ref 8, .int a0]) (rest := []) hM rfl rfl rfl rfl rfl rfl rfl (fun x2 h1 => ?_)
  refine e_if_eq (pc2 := 11) (tgt := 20) hM rfl rfl rfl ?_ ?_
  · refine e_aload_n (pc2 := 21) hM rfl rfl rfl ?_
    refine e_ldc (pc2 := 23) (v := (-1000000001)) hM rfl rfl rfl ?_
    refine e_cvi (pc2 := 26) (k := 0) (As := [.ref 1, .int (-1000000001)]) (rest := []) hM rfl rfl rfl rfl rfl rfl rfl (fun x4 h3 => ?_)
    exact e_iret hM rfl rfl
  · refine e_iload_n (pc2 := 12) hM rfl rfl rfl ?_
    refine e_iconst (pc2 := 13) (v := nI 0) hM rfl rfl rfl ?_
    refine e_iconst (pc2 := 14) (v := nI 1) hM rfl rfl rfl ?_
    refine e_csi (pc2 := 17) (As := [.int a1, .int (nI 0), .int (nI 1)]) (rest := []) hM rfl rfl rfl rfl rfl rfl rfl (fun x6 h5 => ?_)
    refine e_if_ne (pc2 := 20) (tgt := 27) hM rfl rfl rfl ?_ ?_
    · refine e_aload_n (pc2 := 28) hM rfl rfl rfl ?_
      refine e_getfr (pc2 := 31) (k := 0) (b := 8) hM rfl rfl rfl rfl rfl ?_
      refine e_getfr (pc2 := 34) (k := 7) (b := 17) hM rfl rfl rfl rfl rfl ?_
      refine e_iload_n (pc2 := 35) hM rfl rfl rfl ?_
      refine e_bald (pc2 := 36) (k := 16) (V := fun j7 => (h5 16 j7)) hM rfl rfl rfl (fun _ => rfl) (fun j7 => ?_)
      refine e_csi (pc2 := 39) (As := [.int (h5 16 j7)]) (rest := []) hM rfl rfl rfl rfl rfl rfl rfl (fun x9 h8 => ?_)
      refine e_istore_n (pc2 := 40) (L2 := [some (.ref 1), some (.int a0), some (.int a1), some (.int x9)]) hM rfl rfl rfl rfl ?_
      refine e_iload_n (pc2 := 41) hM rfl rfl rfl ?_
      refine e_iconst (pc2 := 42) (v := nI 1) hM rfl rfl rfl ?_
      refine e_icmp_ne (pc2 := 45) (tgt := 56) hM rfl rfl rfl ?_ ?_
      · refine e_aload_n (pc2 := 57) hM rfl rfl rfl ?_
        refine e_getfr (pc2 := 60) (k := 0) (b := 8) hM rfl rfl rfl rfl rfl ?_
        refine e_getfr (pc2 := 63) (k := 7) (b := 17) hM rfl rfl rfl rfl rfl ?_
        refine e_iload_n (pc2 := 64) hM rfl rfl rfl ?_
        refine e_iconst (pc2 := 65) (v := nI 0) hM rfl rfl rfl ?_
        refine e_bast (pc2 := 66) (k := 16) hM rfl rfl rfl pm_01a (fun j10 => ?_)
        refine e_iload_n (pc2 := 67) hM rfl rfl rfl ?_
        exact e_iret hM rfl rfl
      · refine e_aload_n (pc2 := 46) hM rfl rfl rfl ?_
        refine e_getfr (pc2 := 49) (k := 0) (b := 8) hM rfl rfl rfl rfl rfl ?_
        refine e_iload_n (pc2 := 50) hM rfl rfl rfl ?_
        refine e_cvv (pc2 := 53) (k := 7) (As := [.ref 8, .int a0]) (rest := []) hM rfl rfl rfl rfl rfl rfl rfl (fun h11 => ?_)
        refine e_goto (tgt := 66) hM rfl rfl ?_
        refine e_iload_n (pc2 := 67) hM rfl rfl rfl ?_
        exact e_iret hM rfl rfl
    · refine e_aload_n (pc2 := 21) hM rfl rfl rfl ?_
      refine e_ldc (pc2 := 23) (v := (-1000000001)) hM rfl rfl rfl ?_
      refine e_cvi (pc2 := 26) (k := 0) (As := [.ref 1, .int (-1000000001)]) (rest := []) hM rfl rfl rfl rfl rfl rfl rfl (fun x13 h12 => ?_)
      exact e_iret hM rfl rfl
theorem qX7_about_0 {sl : Nat} {xs : Nat → Int32} {d : Nat} {a0 a1 : Int32} {h : pmH} : pm_cf (pm_Ev sl xs) (d + 2) 58 [.ref 1, .int a0, .int a1] (SH, h) = pm_ri (pm_cf (pm_Ev sl xs) (d + 1) 40 [.ref 8, .int a0] (SH, h)) SH fun x2 h1 => if x2 = 0 then (pm_ri (pm_cf (pm_Ev sl xs) (d + 1) 85 [.ref 1, .int (-1000000001)] (SH, h1)) SH fun x21 h20 => some (some (.int x21), (SH, h20))) else (if a1 = nI 0 then (pm_ix none a0 24 fun j19 => some (some (.int (h1 8 j19)), (SH, h1))) else (if a1 = nI 1 then (pm_ix none a0 24 fun j18 => some (some (.int (h1 9 j18)), (SH, h1))) else (if a1 = nI 2 then (pm_ix none a0 24 fun j17 => some (some (.int (h1 10 j17)), (SH, h1))) else (if a1 = nI 3 then (pm_ix none a0 24 fun j16 => some (some (.int (h1 11 j16)), (SH, h1))) else (if a1 = nI 4 then (pm_ix none a0 24 fun j15 => some (some (.int (h1 12 j15)), (SH, h1))) else (if a1 = nI 5 then (pm_ix none a0 24 fun j14 => some (some (.int (h1 13 j14)), (SH, h1))) else (if a1 = nI 6 then (pm_ix none a0 24 fun j13 => some (some (.int (h1 14 j13)), (SH, h1))) else (if a1 = nI 7 then (pm_ix none a0 24 fun j12 => some (some (.int (h1 15 j12)), (SH, h1))) else (if a1 = nI 8 then (pm_ix none a0 24 fun j9 => pm_ri (pm_cf (pm_Ev sl xs) (d + 1) 87 [.int (h1 16 j9)] (SH, h1)) SH fun x11 h10 => some (some (.int x11), (SH, h10))) else (if a1 = nI 9 then (pm_ri (pm_cf (pm_Ev sl xs) (d + 1) 91 [.ref 1, .int a0] (SH, h1)) SH fun x6 h5 => pm_ri (pm_cf (pm_Ev sl xs) (d + 1) 87 [.int x6] (SH, h5)) SH fun x8 h7 => some (some (.int x8), (SH, h7))) else (pm_ri (pm_cf (pm_Ev sl xs) (d + 1) 85 [.ref 1, .int (-1000000001)] (SH, h1)) SH fun x4 h3 => some (some (.int x4), (SH, h3))))))))))))) := by
  have hM : pm_mt 58 = some mt_58 := rfl
  refine e_call (L := [some (.ref 1), some (.int a0), some (.int a1)]) hM rfl rfl ?_
  refine e_aload_n (pc2 := 1) hM rfl rfl rfl ?_
  refine e_getfr (pc2 := 4) (k := 0) (b := 8) hM rfl rfl rfl rfl rfl ?_
  refine e_iload_n (pc2 := 5) hM rfl rfl rfl ?_
  refine e_cvi (pc2 := 8) (k := 7) (As := [.ref 8, .int a0]) (rest := []) hM rfl rfl rfl rfl rfl rfl rfl (fun x2 h1 => ?_)
  refine e_if_ne (pc2 := 11) (tgt := 18) hM rfl rfl rfl ?_ ?_
  · refine e_iload_n (pc2 := 19) hM rfl rfl rfl ?_
    refine e_switch hM rfl rfl ?_
    refine s_cons (tgt := 72) rfl ?_ ?_
    · refine e_aload_n (pc2 := 73) hM rfl rfl rfl ?_
      refine e_getfr (pc2 := 76) (k := 0) (b := 8) hM rfl rfl rfl rfl rfl ?_
      refine e_getfr (pc2 := 79) (k := 7) (b := 9) hM rfl rfl rfl rfl rfl ?_
      refine e_iload_n (pc2 := 80) hM rfl rfl rfl ?_
      refine e_iald (pc2 := 81) (k := 8) (V := fun j19 => (h1 8 j19)) hM rfl rfl rfl (fun _ => rfl) (fun j19 => ?_)
      exact e_iret hM rfl rfl
    refine s_cons (tgt := 82) rfl ?_ ?_
    · refine e_aload_n (pc2 := 83) hM rfl rfl rfl ?_
      refine e_getfr (pc2 := 86) (k := 0) (b := 8) hM rfl rfl rfl rfl rfl ?_
      refine e_getfr (pc2 := 89) (k := 7) (b := 10) hM rfl rfl rfl rfl rfl ?_
      refine e_iload_n (pc2 := 90) hM rfl rfl rfl ?_
      refine e_iald (pc2 := 91) (k := 9) (V := fun j18 => (h1 9 j18)) hM rfl rfl rfl (fun _ => rfl) (fun j18 => ?_)
      exact e_iret hM rfl rfl
    refine s_cons (tgt := 92) rfl ?_ ?_
    · refine e_aload_n (pc2 := 93) hM rfl rfl rfl ?_
      refine e_getfr (pc2 := 96) (k := 0) (b := 8) hM rfl rfl rfl rfl rfl ?_
      refine e_getfr (pc2 := 99) (k := 7) (b := 11) hM rfl rfl rfl rfl rfl ?_
      refine e_iload_n (pc2 := 100) hM rfl rfl rfl ?_
      refine e_iald (pc2 := 101) (k := 10) (V := fun j17 => (h1 10 j17)) hM rfl rfl rfl (fun _ => rfl) (fun j17 => ?_)
      exact e_iret hM rfl rfl
    refine s_cons (tgt := 102) rfl ?_ ?_
    · refine e_aload_n (pc2 := 103) hM rfl rfl rfl ?_
      refine e_getfr (pc2 := 106) (k := 0) (b := 8) hM rfl rfl rfl rfl rfl ?_
      refine e_getfr (pc2 := 109) (k := 7) (b := 12) hM rfl rfl rfl rfl rfl ?_
      refine e_iload_n (pc2 := 110) hM rfl rfl rfl ?_
      refine e_iald (pc2 := 111) (k := 11) (V := fun j16 => (h1 11 j16)) hM rfl rfl rfl (fun _ => rfl) (fun j16 => ?_)
      exact e_iret hM rfl rfl
    refine s_cons (tgt := 112) rfl ?_ ?_
    · refine e_aload_n (pc2 := 113) hM rfl rfl rfl ?_
      refine e_getfr (pc2 := 116) (k := 0) (b := 8) hM rfl rfl rfl rfl rfl ?_
      refine e_getfr (pc2 := 119) (k := 7) (b := 13) hM rfl rfl rfl rfl rfl ?_
      refine e_iload_n (pc2 := 120) hM rfl rfl rfl ?_
      refine e_iald (pc2 := 121) (k := 12) (V := fun j15 => (h1 12 j15)) hM rfl rfl rfl (fun _ => rfl) (fun j15 => ?_)
      exact e_iret hM rfl rfl
    refine s_cons (tgt := 122) rfl ?_ ?_
    · refine e_aload_n (pc2 := 123) hM rfl rfl rfl ?_
      refine e_getfr (pc2 := 126) (k := 0) (b := 8) hM rfl rfl rfl rfl rfl ?_
      refine e_getfr (pc2 := 129) (k := 7) (b := 14) hM rfl rfl rfl rfl rfl ?_
      refine e_iload_n (pc2 := 130) hM rfl rfl rfl ?_
      refine e_iald (pc2 := 131) (k := 13) (V := fun j14 => (h1 13 j14)) hM rfl rfl rfl (fun _ => rfl) (fun j14 => ?_)
      exact e_iret hM rfl rfl
    refine s_cons (tgt := 132) rfl ?_ ?_
    · refine e_aload_n (pc2 := 133) hM rfl rfl rfl ?_
      refine e_getfr (pc2 := 136) (k := 0) (b := 8) hM rfl rfl rfl rfl rfl ?_
      refine e_getfr (pc2 := 139) (k := 7) (b := 15) hM rfl rfl rfl rfl rfl ?_
      refine e_iload_n (pc2 := 140) hM rfl rfl rfl ?_
      refine e_iald (pc2 := 141) (k := 14) (V := fun j13 => (h1 14 j13)) hM rfl rfl rfl (fun _ => rfl) (fun j13 => ?_)
      exact e_iret hM rfl rfl
    refine s_cons (tgt := 142) rfl ?_ ?_
    · refine e_aload_n (pc2 := 143) hM rfl rfl rfl ?_
      refine e_getfr (pc2 := 146) (k := 0) (b := 8) hM rfl rfl rfl rfl rfl ?_
      refine e_getfr (pc2 := 149) (k := 7) (b := 16) hM rfl rfl rfl rfl rfl ?_
      refine e_iload_n (pc2 := 150) hM rfl rfl rfl ?_
      refine e_iald (pc2 := 151) (k := 15) (V := fun j12 => (h1 15 j12)) hM rfl rfl rfl (fun _ => rfl) (fun j12 => ?_)
      exact e_iret hM rfl rfl
    refine s_cons (tgt := 152) rfl ?_ ?_
    · refine e_aload_n (pc2 := 153) hM rfl rfl rfl ?_
      refine e_getfr (pc2 := 156) (k := 0) (b := 8) hM rfl rfl rfl rfl rfl ?_
      refine e_getfr (pc2 := 159) (k := 7) (b := 17) hM rfl rfl rfl rfl rfl ?_
      refine e_iload_n (pc2 := 160) hM rfl rfl rfl ?_
      refine e_bald (pc2 := 161) (k := 16) (V := fun j9 => (h1 16 j9)) hM rfl rfl rfl (fun _ => rfl) (fun j9 => ?_)
      refine e_csi (pc2 := 164) (As := [.int (h1 16 j9)]) (rest := []) hM rfl rfl rfl rfl rfl rfl rfl (fun x11 h10 => ?_)
      exact e_iret hM rfl rfl
    refine s_cons (tgt := 165) rfl ?_ ?_
    · refine e_aload_n (pc2 := 166) hM rfl rfl rfl ?_
      refine e_iload_n (pc2 := 167) hM rfl rfl rfl ?_
      refine e_cvi (pc2 := 170) (k := 0) (As := [.ref 1, .int a0]) (rest := []) hM rfl rfl rfl rfl rfl rfl rfl (fun x6 h5 => ?_)
      refine e_csi (pc2 := 173) (As := [.int x6]) (rest := []) hM rfl rfl rfl rfl rfl rfl rfl (fun x8 h7 => ?_)
      exact e_iret hM rfl rfl
    refine s_nil (tgt := 174) rfl ?_
    refine e_aload_n (pc2 := 175) hM rfl rfl rfl ?_
    refine e_ldc (pc2 := 177) (v := (-1000000001)) hM rfl rfl rfl ?_
    refine e_cvi (pc2 := 180) (k := 0) (As := [.ref 1, .int (-1000000001)]) (rest := []) hM rfl rfl rfl rfl rfl rfl rfl (fun x4 h3 => ?_)
    exact e_iret hM rfl rfl
  · refine e_aload_n (pc2 := 12) hM rfl rfl rfl ?_
    refine e_ldc (pc2 := 14) (v := (-1000000001)) hM rfl rfl rfl ?_
    refine e_cvi (pc2 := 17) (k := 0) (As := [.ref 1, .int (-1000000001)]) (rest := []) hM rfl rfl rfl rfl rfl rfl rfl (fun x21 h20 => ?_)
    exact e_iret hM rfl rfl
theorem qX7_as_0 {sl : Nat} {xs : Nat → Int32} {d : Nat} {a0 a1 : Int32} {h : pmH} : pm_cf (pm_Ev sl xs) (d + 2) 59 [.ref 1, .int a0, .int a1] (SH, h) = pm_ri (pm_cf (pm_Ev sl xs) (d + 1) 40 [.ref 8, .int a0] (SH, h)) SH fun x2 h1 => if x2 = 0 then (pm_ri (pm_cf (pm_Ev sl xs) (d + 1) 85 [.ref 1, .int (-1000000001)] (SH, h1)) SH fun x4 h3 => some (some (.int x4), (SH, h3))) else (pm_ri (pm_cf (pm_Ev sl xs) (d + 1) 86 [.int a1, .int (nI 0), .int (nI 2)] (SH, h1)) SH fun x6 h5 => if x6 = 0 then (pm_ri (pm_cf (pm_Ev sl xs) (d + 1) 85 [.ref 1, .int (-1000000001)] (SH, h5)) SH fun x14 h13 => some (some (.int x14), (SH, h13))) else (pm_ri (pm_cf (pm_Ev sl xs) (d + 1) 45 [.ref 8, .int a0, .int a1] (SH, h5)) SH fun x8 h7 => if x8 = 0 then (pm_ri (pm_cf (pm_Ev sl xs) (d + 1) 85 [.ref 1, .int (-1000000005)] (SH, h7)) SH fun x12 h11 => some (some (.int x12), (SH, h11))) else (pm_ri (pm_cf (pm_Ev sl xs) (d + 1) 46 [.ref 8, .int a0] (SH, h7)) SH fun x10 h9 => some (some (.int x10), (SH, h9))))) := by
  have hM : pm_mt 59 = some mt_59 := rfl
  refine e_call (L := [some (.ref 1), some (.int a0), some (.int a1)]) hM rfl rfl ?_
  refine e_aload_n (pc2 := 1) hM rfl rfl rfl ?_
  refine e_getfr (pc2 := 4) (k := 0) (b := 8) hM rfl rfl rfl rfl rfl ?_
  refine e_iload_n (pc2 := 5) hM rfl rfl rfl ?_
  refine e_cvi (pc2 := 8) (k := 7) (As := [.ref 8, .int a0]) (rest := []) hM rfl rfl rfl rfl rfl rfl rfl (fun x2 h1 => ?_)
  refine e_if_eq (pc2 := 11) (tgt := 20) hM rfl rfl rfl ?_ ?_
  · refine e_aload_n (pc2 := 21) hM rfl rfl rfl ?_
    refine e_ldc (pc2 := 23) (v := (-1000000001)) hM rfl rfl rfl ?_
    refine e_cvi (pc2 := 26) (k := 0) (As := [.ref 1, .int (-1000000001)]) (rest := []) hM rfl rfl rfl rfl rfl rfl rfl (fun x4 h3 => ?_)
    exact e_iret hM rfl rfl
  · refine e_iload_n (pc2 := 12) hM rfl rfl rfl ?_
    refine e_iconst (pc2 := 13) (v := nI 0) hM rfl rfl rfl ?_
    refine e_iconst (pc2 := 14) (v := nI 2) hM rfl rfl rfl ?_
    refine e_csi (pc2 := 17) (As := [.int a1, .int (nI 0), .int (nI 2)]) (rest := []) hM rfl rfl rfl rfl rfl rfl rfl (fun x6 h5 => ?_)
    refine e_if_ne (pc2 := 20) (tgt := 27) hM rfl rfl rfl ?_ ?_
    · refine e_aload_n (pc2 := 28) hM rfl rfl rfl ?_
      refine e_getfr (pc2 := 31) (k := 0) (b := 8) hM rfl rfl rfl rfl rfl ?_
      refine e_iload_n (pc2 := 32) hM rfl rfl rfl ?_
      refine e_iload_n (pc2 := 33) hM rfl rfl rfl ?_
      refine e_cvi (pc2 := 36) (k := 7) (As := [.ref 8, .int a0, .int a1]) (rest := []) hM rfl rfl rfl rfl rfl rfl rfl (fun x8 h7 => ?_)
      refine e_if_ne (pc2 := 39) (tgt := 46) hM rfl rfl rfl ?_ ?_
      · refine e_aload_n (pc2 := 47) hM rfl rfl rfl ?_
        refine e_getfr (pc2 := 50) (k := 0) (b := 8) hM rfl rfl rfl rfl rfl ?_
        refine e_iload_n (pc2 := 51) hM rfl rfl rfl ?_
        refine e_cvi (pc2 := 54) (k := 7) (As := [.ref 8, .int a0]) (rest := []) hM rfl rfl rfl rfl rfl rfl rfl (fun x10 h9 => ?_)
        exact e_iret hM rfl rfl
      · refine e_aload_n (pc2 := 40) hM rfl rfl rfl ?_
        refine e_ldc (pc2 := 42) (v := (-1000000005)) hM rfl rfl rfl ?_
        refine e_cvi (pc2 := 45) (k := 0) (As := [.ref 1, .int (-1000000005)]) (rest := []) hM rfl rfl rfl rfl rfl rfl rfl (fun x12 h11 => ?_)
        exact e_iret hM rfl rfl
    · refine e_aload_n (pc2 := 21) hM rfl rfl rfl ?_
      refine e_ldc (pc2 := 23) (v := (-1000000001)) hM rfl rfl rfl ?_
      refine e_cvi (pc2 := 26) (k := 0) (As := [.ref 1, .int (-1000000001)]) (rest := []) hM rfl rfl rfl rfl rfl rfl rfl (fun x14 h13 => ?_)
      exact e_iret hM rfl rfl
theorem qX7_told_0 {sl : Nat} {xs : Nat → Int32} {d : Nat} {a0 a1 : Int32} {h : pmH} : pm_cf (pm_Ev sl xs) (d + 2) 60 [.ref 1, .int a0, .int a1] (SH, h) = pm_ri (pm_cf (pm_Ev sl xs) (d + 1) 40 [.ref 8, .int a0] (SH, h)) SH fun x2 h1 => if x2 = 0 then (pm_ri (pm_cf (pm_Ev sl xs) (d + 1) 85 [.ref 1, .int (-1000000001)] (SH, h1)) SH fun x4 h3 => some (some (.int x4), (SH, h3))) else (pm_ri (pm_cf (pm_Ev sl xs) (d + 1) 86 [.int a1, .int (nI 0), .int (nI 3)] (SH, h1)) SH fun x6 h5 => if x6 = 0 then (pm_ri (pm_cf (pm_Ev sl xs) (d + 1) 85 [.ref 1, .int (-1000000001)] (SH, h5)) SH fun x14 h13 => some (some (.int x14), (SH, h13))) else (pm_rv (pm_cf (pm_Ev sl xs) (d + 1) 5 [.ref 21] (SH, h5)) SH fun h7 => if a1 = nI 0 then (pm_ix none a0 24 fun j12 => some (some (.int (h7 22 j12)), (SH, h7))) else (if a1 = nI 1 then (pm_ix none a0 24 fun j11 => some (some (.int (h7 23 j11)), (SH, h7))) else (if a1 = nI 2 then (pm_ix none a0 24 fun j10 => some (some (.int (h7 24 j10)), (SH, h7))) else (pm_ri (pm_cf (pm_Ev sl xs) (d + 1) 9 [.ref 21, .int a0] (SH, h7)) SH fun x9 h8 => some (some (.int x9), (SH, h8))))))) := by
  have hM : pm_mt 60 = some mt_60 := rfl
  refine e_call (L := [some (.ref 1), some (.int a0), some (.int a1)]) hM rfl rfl ?_
  refine e_aload_n (pc2 := 1) hM rfl rfl rfl ?_
  refine e_getfr (pc2 := 4) (k := 0) (b := 8) hM rfl rfl rfl rfl rfl ?_
  refine e_iload_n (pc2 := 5) hM rfl rfl rfl ?_
  refine e_cvi (pc2 := 8) (k := 7) (As := [.ref 8, .int a0]) (rest := []) hM rfl rfl rfl rfl rfl rfl rfl (fun x2 h1 => ?_)
  refine e_if_eq (pc2 := 11) (tgt := 20) hM rfl rfl rfl ?_ ?_
  · refine e_aload_n (pc2 := 21) hM rfl rfl rfl ?_
    refine e_ldc (pc2 := 23) (v := (-1000000001)) hM rfl rfl rfl ?_
    refine e_cvi (pc2 := 26) (k := 0) (As := [.ref 1, .int (-1000000001)]) (rest := []) hM rfl rfl rfl rfl rfl rfl rfl (fun x4 h3 => ?_)
    exact e_iret hM rfl rfl
  · refine e_iload_n (pc2 := 12) hM rfl rfl rfl ?_
    refine e_iconst (pc2 := 13) (v := nI 0) hM rfl rfl rfl ?_
    refine e_iconst (pc2 := 14) (v := nI 3) hM rfl rfl rfl ?_
    refine e_csi (pc2 := 17) (As := [.int a1, .int (nI 0), .int (nI 3)]) (rest := []) hM rfl rfl rfl rfl rfl rfl rfl (fun x6 h5 => ?_)
    refine e_if_ne (pc2 := 20) (tgt := 27) hM rfl rfl rfl ?_ ?_
    · refine e_aload_n (pc2 := 28) hM rfl rfl rfl ?_
      refine e_getfr (pc2 := 31) (k := 0) (b := 21) hM rfl rfl rfl rfl rfl ?_
      refine e_cvv (pc2 := 34) (k := 20) (As := [.ref 21]) (rest := []) hM rfl rfl rfl rfl rfl rfl rfl (fun h7 => ?_)
      refine e_iload_n (pc2 := 35) hM rfl rfl rfl ?_
      refine e_switch hM rfl rfl ?_
      refine s_cons (tgt := 60) rfl ?_ ?_
      · refine e_aload_n (pc2 := 61) hM rfl rfl rfl ?_
        refine e_getfr (pc2 := 64) (k := 0) (b := 21) hM rfl rfl rfl rfl rfl ?_
        refine e_getfr (pc2 := 67) (k := 20) (b := 23) hM rfl rfl rfl rfl rfl ?_
        refine e_iload_n (pc2 := 68) hM rfl rfl rfl ?_
        refine e_iald (pc2 := 69) (k := 22) (V := fun j12 => (h7 22 j12)) hM rfl rfl rfl (fun _ => rfl) (fun j12 => ?_)
        exact e_iret hM rfl rfl
      refine s_cons (tgt := 70) rfl ?_ ?_
      · refine e_aload_n (pc2 := 71) hM rfl rfl rfl ?_
        refine e_getfr (pc2 := 74) (k := 0) (b := 21) hM rfl rfl rfl rfl rfl ?_
        refine e_getfr (pc2 := 77) (k := 20) (b := 24) hM rfl rfl rfl rfl rfl ?_
        refine e_iload_n (pc2 := 78) hM rfl rfl rfl ?_
        refine e_iald (pc2 := 79) (k := 23) (V := fun j11 => (h7 23 j11)) hM rfl rfl rfl (fun _ => rfl) (fun j11 => ?_)
        exact e_iret hM rfl rfl
      refine s_cons (tgt := 80) rfl ?_ ?_
      · refine e_aload_n (pc2 := 81) hM rfl rfl rfl ?_
        refine e_getfr (pc2 := 84) (k := 0) (b := 21) hM rfl rfl rfl rfl rfl ?_
        refine e_getfr (pc2 := 87) (k := 20) (b := 25) hM rfl rfl rfl rfl rfl ?_
        refine e_iload_n (pc2 := 88) hM rfl rfl rfl ?_
        refine e_iald (pc2 := 89) (k := 24) (V := fun j10 => (h7 24 j10)) hM rfl rfl rfl (fun _ => rfl) (fun j10 => ?_)
        exact e_iret hM rfl rfl
      refine s_nil (tgt := 90) rfl ?_
      refine e_aload_n (pc2 := 91) hM rfl rfl rfl ?_
      refine e_getfr (pc2 := 94) (k := 0) (b := 21) hM rfl rfl rfl rfl rfl ?_
      refine e_iload_n (pc2 := 95) hM rfl rfl rfl ?_
      refine e_cvi (pc2 := 98) (k := 20) (As := [.ref 21, .int a0]) (rest := []) hM rfl rfl rfl rfl rfl rfl rfl (fun x9 h8 => ?_)
      exact e_iret hM rfl rfl
    · refine e_aload_n (pc2 := 21) hM rfl rfl rfl ?_
      refine e_ldc (pc2 := 23) (v := (-1000000001)) hM rfl rfl rfl ?_
      refine e_cvi (pc2 := 26) (k := 0) (As := [.ref 1, .int (-1000000001)]) (rest := []) hM rfl rfl rfl rfl rfl rfl rfl (fun x14 h13 => ?_)
      exact e_iret hM rfl rfl
theorem qX7_most_0 {sl : Nat} {xs : Nat → Int32} {d : Nat} {a0 : Int32} {h : pmH} : pm_cf (pm_Ev sl xs) (d + 2) 61 [.ref 1, .int a0] (SH, h) = pm_ri (pm_cf (pm_Ev sl xs) (d + 1) 86 [.int a0, .int (nI 0), .int 100000] (SH, h)) SH fun x2 h1 => if x2 = 0 then (pm_ri (pm_cf (pm_Ev sl xs) (d + 1) 85 [.ref 1, .int (-1000000001)] (SH, h1)) SH fun x4 h3 => some (some (.int x4), (SH, h3))) else (some (some (.int (h1 20 1)), (SH, (pm_up h1 20 1 a0)))) := by
  have hM : pm_mt 61 = some mt_61 := rfl
  refine e_call (L := [some (.ref 1), some (.int a0), none]) hM rfl rfl ?_
  refine e_iload_n (pc2 := 1) hM rfl rfl rfl ?_
  refine e_iconst (pc2 := 2) (v := nI 0) hM rfl rfl rfl ?_
  refine e_ldc (pc2 := 4) (v := 100000) hM rfl rfl rfl ?_
  refine e_csi (pc2 := 7) (As := [.int a0, .int (nI 0), .int 100000]) (rest := []) hM rfl rfl rfl rfl rfl rfl rfl (fun x2 h1 => ?_)
  refine e_if_ne (pc2 := 10) (tgt := 17) hM rfl rfl rfl ?_ ?_
  · refine e_aload_n (pc2 := 18) hM rfl rfl rfl ?_
    refine e_getfr (pc2 := 21) (k := 0) (b := 21) hM rfl rfl rfl rfl rfl ?_
    refine e_getfi (pc2 := 24) (k := 20) (v := (h1 20 1)) hM rfl rfl rfl rfl rfl rfl ?_
    refine e_istore_n (pc2 := 25) (L2 := [some (.ref 1), some (.int a0), some (.int (h1 20 1))]) hM rfl rfl rfl rfl ?_
    refine e_aload_n (pc2 := 26) hM rfl rfl rfl ?_
    refine e_getfr (pc2 := 29) (k := 0) (b := 21) hM rfl rfl rfl rfl rfl ?_
    refine e_iload_n (pc2 := 30) hM rfl rfl rfl ?_
    refine e_putf (pc2 := 33) (k := 20) hM rfl rfl rfl rfl rfl rfl ?_
    refine e_iload_n (pc2 := 34) hM rfl rfl rfl ?_
    exact e_iret hM rfl rfl
  · refine e_aload_n (pc2 := 11) hM rfl rfl rfl ?_
    refine e_ldc (pc2 := 13) (v := (-1000000001)) hM rfl rfl rfl ?_
    refine e_cvi (pc2 := 16) (k := 0) (As := [.ref 1, .int (-1000000001)]) (rest := []) hM rfl rfl rfl rfl rfl rfl rfl (fun x4 h3 => ?_)
    exact e_iret hM rfl rfl
theorem qX7_blow_0 {sl : Nat} {xs : Nat → Int32} {d : Nat} {h : pmH} : pm_cf (pm_Ev sl xs) (d + 2) 62 [.ref 1] (SH, h) = pm_ri (pm_cf (pm_Ev sl xs) (d + 1) 10 [.ref 21] (SH, h)) SH fun x2 h1 => some (some (.int x2), (SH, h1)) := by
  have hM : pm_mt 62 = some mt_62 := rfl
  refine e_call (L := [some (.ref 1)]) hM rfl rfl ?_
  refine e_aload_n (pc2 := 1) hM rfl rfl rfl ?_
  refine e_getfr (pc2 := 4) (k := 0) (b := 21) hM rfl rfl rfl rfl rfl ?_
  refine e_cvi (pc2 := 7) (k := 20) (As := [.ref 21]) (rest := []) hM rfl rfl rfl rfl rfl rfl rfl (fun x2 h1 => ?_)
  exact e_iret hM rfl rfl
theorem qX7_fewest_0 {sl : Nat} {xs : Nat → Int32} {d : Nat} {a0 : Int32} {h : pmH} : pm_cf (pm_Ev sl xs) (d + 2) 63 [.ref 1, .int a0] (SH, h) = pm_ri (pm_cf (pm_Ev sl xs) (d + 1) 86 [.int a0, .int (nI 0), .int (nI 1)] (SH, h)) SH fun x2 h1 => if x2 = 0 then (pm_ri (pm_cf (pm_Ev sl xs) (d + 1) 85 [.ref 1, .int (-1000000001)] (SH, h1)) SH fun x12 h11 => some (some (.int x12), (SH, h11))) else (pm_ri (pm_cf (pm_Ev sl xs) (d + 1) 19 [.ref 27] (SH, h1)) SH fun x4 h3 => if x4 = 0 then (pm_ri (pm_cf (pm_Ev sl xs) (d + 1) 85 [.ref 1, .int (-1000000002)] (SH, h3)) SH fun x10 h9 => some (some (.int x10), (SH, h9))) else (if a0 = 0 then (pm_ri (pm_cf (pm_Ev sl xs) (d + 1) 24 [.ref 27] (SH, h3)) SH fun x8 h7 => some (some (.int x8), (SH, h7))) else (pm_ri (pm_cf (pm_Ev sl xs) (d + 1) 25 [.ref 27] (SH, h3)) SH fun x6 h5 => some (some (.int x6), (SH, h5))))) := by
  have hM : pm_mt 63 = some mt_63 := rfl
  refine e_call (L := [some (.ref 1), some (.int a0)]) hM rfl rfl ?_
  refine e_iload_n (pc2 := 1) hM rfl rfl rfl ?_
  refine e_iconst (pc2 := 2) (v := nI 0) hM rfl rfl rfl ?_
  refine e_iconst (pc2 := 3) (v := nI 1) hM rfl rfl rfl ?_
  refine e_csi (pc2 := 6) (As := [.int a0, .int (nI 0), .int (nI 1)]) (rest := []) hM rfl rfl rfl rfl rfl rfl rfl (fun x2 h1 => ?_)
  refine e_if_ne (pc2 := 9) (tgt := 16) hM rfl rfl rfl ?_ ?_
  · refine e_aload_n (pc2 := 17) hM rfl rfl rfl ?_
    refine e_getfr (pc2 := 20) (k := 0) (b := 27) hM rfl rfl rfl rfl rfl ?_
    refine e_cvi (pc2 := 23) (k := 26) (As := [.ref 27]) (rest := []) hM rfl rfl rfl rfl rfl rfl rfl (fun x4 h3 => ?_)
    refine e_if_ne (pc2 := 26) (tgt := 33) hM rfl rfl rfl ?_ ?_
    · refine e_iload_n (pc2 := 34) hM rfl rfl rfl ?_
      refine e_if_ne (pc2 := 37) (tgt := 47) hM rfl rfl rfl ?_ ?_
      · refine e_aload_n (pc2 := 48) hM rfl rfl rfl ?_
        refine e_getfr (pc2 := 51) (k := 0) (b := 27) hM rfl rfl rfl rfl rfl ?_
        refine e_cvi (pc2 := 54) (k := 26) (As := [.ref 27]) (rest := []) hM rfl rfl rfl rfl rfl rfl rfl (fun x6 h5 => ?_)
        exact e_iret hM rfl rfl
      · refine e_aload_n (pc2 := 38) hM rfl rfl rfl ?_
        refine e_getfr (pc2 := 41) (k := 0) (b := 27) hM rfl rfl rfl rfl rfl ?_
        refine e_cvi (pc2 := 44) (k := 26) (As := [.ref 27]) (rest := []) hM rfl rfl rfl rfl rfl rfl rfl (fun x8 h7 => ?_)
        refine e_goto (tgt := 54) hM rfl rfl ?_
        exact e_iret hM rfl rfl
    · refine e_aload_n (pc2 := 27) hM rfl rfl rfl ?_
      refine e_ldc (pc2 := 29) (v := (-1000000002)) hM rfl rfl rfl ?_
      refine e_cvi (pc2 := 32) (k := 0) (As := [.ref 1, .int (-1000000002)]) (rest := []) hM rfl rfl rfl rfl rfl rfl rfl (fun x10 h9 => ?_)
      exact e_iret hM rfl rfl
  · refine e_aload_n (pc2 := 10) hM rfl rfl rfl ?_
    refine e_ldc (pc2 := 12) (v := (-1000000001)) hM rfl rfl rfl ?_
    refine e_cvi (pc2 := 15) (k := 0) (As := [.ref 1, .int (-1000000001)]) (rest := []) hM rfl rfl rfl rfl rfl rfl rfl (fun x12 h11 => ?_)
    exact e_iret hM rfl rfl
theorem qX7_fuses_0 {sl : Nat} {xs : Nat → Int32} {d : Nat} {h : pmH} : pm_cf (pm_Ev sl xs) (d + 2) 64 [.ref 1] (SH, h) = pm_ri (pm_cf (pm_Ev sl xs) (d + 1) 19 [.ref 27] (SH, h)) SH fun x2 h1 => if x2 = 0 then (pm_ri (pm_cf (pm_Ev sl xs) (d + 1) 85 [.ref 1, .int (-1000000002)] (SH, h1)) SH fun x7 h6 => some (some (.int x7), (SH, h6))) else (pm_rv (pm_cf (pm_Ev sl xs) (d + 1) 26 [.ref 27] (SH, h1)) SH fun h3 => pm_ri (pm_cf (pm_Ev sl xs) (d + 1) 24 [.ref 27] (SH, h3)) SH fun x5 h4 => some (some (.int x5), (SH, h4))) := by
  have hM : pm_mt 64 = some mt_64 := rfl
  refine e_call (L := [some (.ref 1)]) hM rfl rfl ?_
  refine e_aload_n (pc2 := 1) hM rfl rfl rfl ?_
  refine e_getfr (pc2 := 4) (k := 0) (b := 27) hM rfl rfl rfl rfl rfl ?_
  refine e_cvi (pc2 := 7) (k := 26) (As := [.ref 27]) (rest := []) hM rfl rfl rfl rfl rfl rfl rfl (fun x2 h1 => ?_)
  refine e_if_ne (pc2 := 10) (tgt := 17) hM rfl rfl rfl ?_ ?_
  · refine e_aload_n (pc2 := 18) hM rfl rfl rfl ?_
    refine e_getfr (pc2 := 21) (k := 0) (b := 27) hM rfl rfl rfl rfl rfl ?_
    refine e_cvv (pc2 := 24) (k := 26) (As := [.ref 27]) (rest := []) hM rfl rfl rfl rfl rfl rfl rfl (fun h3 => ?_)
    refine e_aload_n (pc2 := 25) hM rfl rfl rfl ?_
    refine e_getfr (pc2 := 28) (k := 0) (b := 27) hM rfl rfl rfl rfl rfl ?_
    refine e_cvi (pc2 := 31) (k := 26) (As := [.ref 27]) (rest := []) hM rfl rfl rfl rfl rfl rfl rfl (fun x5 h4 => ?_)
    exact e_iret hM rfl rfl
  · refine e_aload_n (pc2 := 11) hM rfl rfl rfl ?_
    refine e_ldc (pc2 := 13) (v := (-1000000002)) hM rfl rfl rfl ?_
    refine e_cvi (pc2 := 16) (k := 0) (As := [.ref 1, .int (-1000000002)]) (rest := []) hM rfl rfl rfl rfl rfl rfl rfl (fun x7 h6 => ?_)
    exact e_iret hM rfl rfl
theorem qX7_explain_0 {sl : Nat} {xs : Nat → Int32} {d : Nat} {a0 : Int32} {h : pmH} : pm_cf (pm_Ev sl xs) (d + 2) 65 [.ref 1, .int a0] (SH, h) = if a0 < 0 then (pm_ri (pm_cf (pm_Ev sl xs) (d + 1) 85 [.ref 1, .int (-1000000001)] (SH, h)) SH fun x2 h1 => some (some (.int x2), (SH, h1))) else (if (a0 >>> ((h 7 0) &&& 31)) = 0 then (pm_Ev sl xs (d + 1) 65 27 [some (.ref 1), some (.int a0), some (.int (nI 0)), some (.int (nI 0)), none, none] [] (SH, h)) else (pm_ri (pm_cf (pm_Ev sl xs) (d + 1) 85 [.ref 1, .int (-1000000001)] (SH, h)) SH fun x4 h3 => some (some (.int x4), (SH, h3)))) := by
  have hM : pm_mt 65 = some mt_65 := rfl
  refine e_call (L := [some (.ref 1), some (.int a0), none, none, none, none]) hM rfl rfl ?_
  refine e_iload_n (pc2 := 1) hM rfl rfl rfl ?_
  refine e_if_lt (pc2 := 4) (tgt := 16) hM rfl rfl rfl ?_ ?_
  · refine e_aload_n (pc2 := 17) hM rfl rfl rfl ?_
    refine e_ldc (pc2 := 19) (v := (-1000000001)) hM rfl rfl rfl ?_
    refine e_cvi (pc2 := 22) (k := 0) (As := [.ref 1, .int (-1000000001)]) (rest := []) hM rfl rfl rfl rfl rfl rfl rfl (fun x2 h1 => ?_)
    exact e_iret hM rfl rfl
  · refine e_iload_n (pc2 := 5) hM rfl rfl rfl ?_
    refine e_aload_n (pc2 := 6) hM rfl rfl rfl ?_
    refine e_getfr (pc2 := 9) (k := 0) (b := 8) hM rfl rfl rfl rfl rfl ?_
    refine e_getfi (pc2 := 12) (k := 7) (v := (h 7 0)) hM rfl rfl rfl rfl rfl rfl ?_
    refine e_ishr (pc2 := 13) hM rfl rfl ?_
    refine e_if_eq (pc2 := 16) (tgt := 23) hM rfl rfl rfl ?_ ?_
    · refine e_iconst (pc2 := 24) (v := nI 0) hM rfl rfl rfl ?_
      refine e_istore_n (pc2 := 25) (L2 := [some (.ref 1), some (.int a0), some (.int (nI 0)), none, none, none]) hM rfl rfl rfl rfl ?_
      refine e_iconst (pc2 := 26) (v := nI 0) hM rfl rfl rfl ?_
      refine e_istore_n (pc2 := 27) (L2 := [some (.ref 1), some (.int a0), some (.int (nI 0)), some (.int (nI 0)), none, none]) hM rfl rfl rfl rfl ?_
      exact rfl
    · refine e_aload_n (pc2 := 17) hM rfl rfl rfl ?_
      refine e_ldc (pc2 := 19) (v := (-1000000001)) hM rfl rfl rfl ?_
      refine e_cvi (pc2 := 22) (k := 0) (As := [.ref 1, .int (-1000000001)]) (rest := []) hM rfl rfl rfl rfl rfl rfl rfl (fun x4 h3 => ?_)
      exact e_iret hM rfl rfl
theorem qX7_explain_27 {sl : Nat} {xs : Nat → Int32} {d : Nat} {b1 b2 b3 : Int32} {o4 o5 : Option Value} {h : pmH} : pm_Ev sl xs (d + 1) 65 27 [some (.ref 1), some (.int b1), some (.int b2), some (.int b3), o4, o5] [] (SH, h) = if (h 7 0) ≤ b3 then (some (some (.int b2), (SH, h))) else (pm_ri (pm_cf (pm_Ev sl xs) (d + 1) 88 [.int b1, .int b3] (SH, h)) SH fun x2 h1 => pm_ix none b3 24 fun j3 => if (h1 9 j3) < 0 then (if (nI 0) = 0 then (if x2 = 0 then (pm_Ev sl xs (d + 1) 65 27 [some (.ref 1), some (.int b1), some (.int b2), some (.int (b3 + (nI 1))), some (.int x2), some (.int (nI 0))] [] (SH, h1)) else (if (nI 0) = 0 then (pm_Ev sl xs (d + 1) 65 27 [some (.ref 1), some (.int b1), some (.int (b2 ||| ((nI 1) <<< (b3 &&& 31)))), some (.int (b3 + (nI 1))), some (.int x2), some (.int (nI 0))] [] (SH, h1)) else (pm_Ev sl xs (d + 1) 65 27 [some (.ref 1), some (.int b1), some (.int b2), some (.int (b3 + (nI 1))), some (.int x2), some (.int (nI 0))] [] (SH, h1)))) else (if x2 = 0 then (pm_ri (pm_cf (pm_Ev sl xs) (d + 1) 85 [.ref 1, .int (-1000000002)] (SH, h1)) SH fun x5 h4 => some (some (.int x5), (SH, h4))) else (if x2 = 0 then (pm_Ev sl xs (d + 1) 65 27 [some (.ref 1), some (.int b1), some (.int b2), some (.int (b3 + (nI 1))), some (.int x2), some (.int (nI 0))] [] (SH, h1)) else (if (nI 0) = 0 then (pm_Ev sl xs (d + 1) 65 27 [some (.ref 1), some (.int b1), some (.int (b2 ||| ((nI 1) <<< (b3 &&& 31)))), some (.int (b3 + (nI 1))), some (.int x2), some (.int (nI 0))] [] (SH, h1)) else (pm_Ev sl xs (d + 1) 65 27 [some (.ref 1), some (.int b1), some (.int b2), some (.int (b3 + (nI 1))), some (.int x2), some (.int (nI 0))] [] (SH, h1)))))) else (pm_ix none b3 24 fun j6 => pm_ri (pm_cf (pm_Ev sl xs) (d + 1) 88 [.int b1, .int (h1 9 j6)] (SH, h1)) SH fun x8 h7 => if x8 = 0 then (if (nI 0) = 0 then (if x2 = 0 then (pm_Ev sl xs (d + 1) 65 27 [some (.ref 1), some (.int b1), some (.int b2), some (.int (b3 + (nI 1))), some (.int x2), some (.int (nI 0))] [] (SH, h7)) else (if (nI 0) = 0 then (pm_Ev sl xs (d + 1) 65 27 [some (.ref 1), some (.int b1), some (.int (b2 ||| ((nI 1) <<< (b3 &&& 31)))), some (.int (b3 + (nI 1))), some (.int x2), some (.int (nI 0))] [] (SH, h7)) else (pm_Ev sl xs (d + 1) 65 27 [some (.ref 1), some (.int b1), some (.int b2), some (.int (b3 + (nI 1))), some (.int x2), some (.int (nI 0))] [] (SH, h7)))) else (if x2 = 0 then (pm_ri (pm_cf (pm_Ev sl xs) (d + 1) 85 [.ref 1, .int (-1000000002)] (SH, h7)) SH fun x10 h9 => some (some (.int x10), (SH, h9))) else (if x2 = 0 then (pm_Ev sl xs (d + 1) 65 27 [some (.ref 1), some (.int b1), some (.int b2), some (.int (b3 + (nI 1))), some (.int x2), some (.int (nI 0))] [] (SH, h7)) else (if (nI 0) = 0 then (pm_Ev sl xs (d + 1) 65 27 [some (.ref 1), some (.int b1), some (.int (b2 ||| ((nI 1) <<< (b3 &&& 31)))), some (.int (b3 + (nI 1))), some (.int x2), some (.int (nI 0))] [] (SH, h7)) else (pm_Ev sl xs (d + 1) 65 27 [some (.ref 1), some (.int b1), some (.int b2), some (.int (b3 + (nI 1))), some (.int x2), some (.int (nI 0))] [] (SH, h7)))))) else (if (nI 1) = 0 then (if x2 = 0 then (pm_Ev sl xs (d + 1) 65 27 [some (.ref 1), some (.int b1), some (.int b2), some (.int (b3 + (nI 1))), some (.int x2), some (.int (nI 1))] [] (SH, h7)) else (if (nI 1) = 0 then (pm_Ev sl xs (d + 1) 65 27 [some (.ref 1), some (.int b1), some (.int (b2 ||| ((nI 1) <<< (b3 &&& 31)))), some (.int (b3 + (nI 1))), some (.int x2), some (.int (nI 1))] [] (SH, h7)) else (pm_Ev sl xs (d + 1) 65 27 [some (.ref 1), some (.int b1), some (.int b2), some (.int (b3 + (nI 1))), some (.int x2), some (.int (nI 1))] [] (SH, h7)))) else (if x2 = 0 then (pm_ri (pm_cf (pm_Ev sl xs) (d + 1) 85 [.ref 1, .int (-1000000002)] (SH, h7)) SH fun x12 h11 => some (some (.int x12), (SH, h11))) else (if x2 = 0 then (pm_Ev sl xs (d + 1) 65 27 [some (.ref 1), some (.int b1), some (.int b2), some (.int (b3 + (nI 1))), some (.int x2), some (.int (nI 1))] [] (SH, h7)) else (if (nI 1) = 0 then (pm_Ev sl xs (d + 1) 65 27 [some (.ref 1), some (.int b1), some (.int (b2 ||| ((nI 1) <<< (b3 &&& 31)))), some (.int (b3 + (nI 1))), some (.int x2), some (.int (nI 1))] [] (SH, h7)) else (pm_Ev sl xs (d + 1) 65 27 [some (.ref 1), some (.int b1), some (.int b2), some (.int (b3 + (nI 1))), some (.int x2), some (.int (nI 1))] [] (SH, h7)))))))) := by
  have hM : pm_mt 65 = some mt_65 := rfl
  refine e_iload_n (pc2 := 28) hM rfl rfl rfl ?_
  refine e_aload_n (pc2 := 29) hM rfl rfl rfl ?_
  refine e_getfr (pc2 := 32) (k := 0) (b := 8) hM rfl rfl rfl rfl rfl ?_
  refine e_getfi (pc2 := 35) (k := 7) (v := (h 7 0)) hM rfl rfl rfl rfl rfl rfl ?_
  refine e_icmp_ge (pc2 := 38) (tgt := 119) hM rfl rfl rfl ?_ ?_
  · refine e_iload_n (pc2 := 120) hM rfl rfl rfl ?_
    exact e_iret hM rfl rfl
  · refine e_iload_n (pc2 := 39) hM rfl rfl rfl ?_
    refine e_iload_n (pc2 := 40) hM rfl rfl rfl ?_
    refine e_csi (pc2 := 43) (As := [.int b1, .int b3]) (rest := []) hM rfl rfl rfl rfl rfl rfl rfl (fun x2 h1 => ?_)
    refine e_istore (pc2 := 45) (L2 := [some (.ref 1), some (.int b1), some (.int b2), some (.int b3), some (.int x2), o5]) hM rfl rfl rfl rfl ?_
    refine e_aload_n (pc2 := 46) hM rfl rfl rfl ?_
    refine e_getfr (pc2 := 49) (k := 0) (b := 8) hM rfl rfl rfl rfl rfl ?_
    refine e_getfr (pc2 := 52) (k := 7) (b := 10) hM rfl rfl rfl rfl rfl ?_
    refine e_iload_n (pc2 := 53) hM rfl rfl rfl ?_
    refine e_iald (pc2 := 54) (k := 9) (V := fun j3 => (h1 9 j3)) hM rfl rfl rfl (fun _ => rfl) (fun j3 => ?_)
    refine e_if_lt (pc2 := 57) (tgt := 77) hM rfl rfl rfl ?_ ?_
    · refine e_iconst (pc2 := 78) (v := nI 0) hM rfl rfl rfl ?_
      refine e_istore (pc2 := 80) (L2 := [some (.ref 1), some (.int b1), some (.int b2), some (.int b3), some (.int x2), some (.int (nI 0))]) hM rfl rfl rfl rfl ?_
      refine e_iload (pc2 := 82) hM rfl rfl rfl ?_
      refine e_if_eq (pc2 := 85) (tgt := 97) hM rfl rfl rfl ?_ ?_
      · refine e_iload (pc2 := 99) hM rfl rfl rfl ?_
        refine e_if_eq (pc2 := 102) (tgt := 113) hM rfl rfl rfl ?_ ?_
        · refine e_iinc (pc2 := 116) (v := nI 1) (L2 := [some (.ref 1), some (.int b1), some (.int b2), some (.int (b3 + (nI 1))), some (.int x2), some (.int (nI 0))]) hM rfl rfl rfl rfl rfl ?_
          refine e_goto (tgt := 27) hM rfl rfl ?_
          exact rfl
        · refine e_iload (pc2 := 104) hM rfl rfl rfl ?_
          refine e_if_ne (pc2 := 107) (tgt := 113) hM rfl rfl rfl ?_ ?_
          · refine e_iinc (pc2 := 116) (v := nI 1) (L2 := [some (.ref 1), some (.int b1), some (.int b2), some (.int (b3 + (nI 1))), some (.int x2), some (.int (nI 0))]) hM rfl rfl rfl rfl rfl ?_
            refine e_goto (tgt := 27) hM rfl rfl ?_
            exact rfl
          · refine e_iload_n (pc2 := 108) hM rfl rfl rfl ?_
            refine e_iconst (pc2 := 109) (v := nI 1) hM rfl rfl rfl ?_
            refine e_iload_n (pc2 := 110) hM rfl rfl rfl ?_
            refine e_ishl (pc2 := 111) hM rfl rfl ?_
            refine e_ior (pc2 := 112) hM rfl rfl ?_
            refine e_istore_n (pc2 := 113) (L2 := [some (.ref 1), some (.int b1), some (.int (b2 ||| ((nI 1) <<< (b3 &&& 31)))), some (.int b3), some (.int x2), some (.int (nI 0))]) hM rfl rfl rfl rfl ?_
            refine e_iinc (pc2 := 116) (v := nI 1) (L2 := [some (.ref 1), some (.int b1), some (.int (b2 ||| ((nI 1) <<< (b3 &&& 31)))), some (.int (b3 + (nI 1))), some (.int x2), some (.int (nI 0))]) hM rfl rfl rfl rfl rfl ?_
            refine e_goto (tgt := 27) hM rfl rfl ?_
            exact rfl
      · refine e_iload (pc2 := 87) hM rfl rfl rfl ?_
        refine e_if_ne (pc2 := 90) (tgt := 97) hM rfl rfl rfl ?_ ?_
        · refine e_iload (pc2 := 99) hM rfl rfl rfl ?_
          refine e_if_eq (pc2 := 102) (tgt := 113) hM rfl rfl rfl ?_ ?_
          · refine e_iinc (pc2 := 116) (v := nI 1) (L2 := [some (.ref 1), some (.int b1), some (.int b2), some (.int (b3 + (nI 1))), some (.int x2), some (.int (nI 0))]) hM rfl rfl rfl rfl rfl ?_
            refine e_goto (tgt := 27) hM rfl rfl ?_
            exact rfl
          · refine e_iload (pc2 := 104) hM rfl rfl rfl ?_
            refine e_if_ne (pc2 := 107) (tgt := 113) hM rfl rfl rfl ?_ ?_
            · refine e_iinc (pc2 := 116) (v := nI 1) (L2 := [some (.ref 1), some (.int b1), some (.int b2), some (.int (b3 + (nI 1))), some (.int x2), some (.int (nI 0))]) hM rfl rfl rfl rfl rfl ?_
              refine e_goto (tgt := 27) hM rfl rfl ?_
              exact rfl
            · refine e_iload_n (pc2 := 108) hM rfl rfl rfl ?_
              refine e_iconst (pc2 := 109) (v := nI 1) hM rfl rfl rfl ?_
              refine e_iload_n (pc2 := 110) hM rfl rfl rfl ?_
              refine e_ishl (pc2 := 111) hM rfl rfl ?_
              refine e_ior (pc2 := 112) hM rfl rfl ?_
              refine e_istore_n (pc2 := 113) (L2 := [some (.ref 1), some (.int b1), some (.int (b2 ||| ((nI 1) <<< (b3 &&& 31)))), some (.int b3), some (.int x2), some (.int (nI 0))]) hM rfl rfl rfl rfl ?_
              refine e_iinc (pc2 := 116) (v := nI 1) (L2 := [some (.ref 1), some (.int b1), some (.int (b2 ||| ((nI 1) <<< (b3 &&& 31)))), some (.int (b3 + (nI 1))), some (.int x2), some (.int (nI 0))]) hM rfl rfl rfl rfl rfl ?_
              refine e_goto (tgt := 27) hM rfl rfl ?_
              exact rfl
        · refine e_aload_n (pc2 := 91) hM rfl rfl rfl ?_
          refine e_ldc (pc2 := 93) (v := (-1000000002)) hM rfl rfl rfl ?_
          refine e_cvi (pc2 := 96) (k := 0) (As := [.ref 1, .int (-1000000002)]) (rest := []) hM rfl rfl rfl rfl rfl rfl rfl (fun x5 h4 => ?_)
          exact e_iret hM rfl rfl
    · refine e_iload_n (pc2 := 58) hM rfl rfl rfl ?_
      refine e_aload_n (pc2 := 59) hM rfl rfl rfl ?_
      refine e_getfr (pc2 := 62) (k := 0) (b := 8) hM rfl rfl rfl rfl rfl ?_
      refine e_getfr (pc2 := 65) (k := 7) (b := 10) hM rfl rfl rfl rfl rfl ?_
      refine e_iload_n (pc2 := 66) hM rfl rfl rfl ?_
      refine e_iald (pc2 := 67) (k := 9) (V := fun j6 => (h1 9 j6)) hM rfl rfl rfl (fun _ => rfl) (fun j6 => ?_)
      refine e_csi (pc2 := 70) (As := [.int b1, .int (h1 9 j6)]) (rest := []) hM rfl rfl rfl rfl rfl rfl rfl (fun x8 h7 => ?_)
      refine e_if_eq (pc2 := 73) (tgt := 77) hM rfl rfl rfl ?_ ?_
      · refine e_iconst (pc2 := 78) (v := nI 0) hM rfl rfl rfl ?_
        refine e_istore (pc2 := 80) (L2 := [some (.ref 1), some (.int b1), some (.int b2), some (.int b3), some (.int x2), some (.int (nI 0))]) hM rfl rfl rfl rfl ?_
        refine e_iload (pc2 := 82) hM rfl rfl rfl ?_
        refine e_if_eq (pc2 := 85) (tgt := 97) hM rfl rfl rfl ?_ ?_
        · refine e_iload (pc2 := 99) hM rfl rfl rfl ?_
          refine e_if_eq (pc2 := 102) (tgt := 113) hM rfl rfl rfl ?_ ?_
          · refine e_iinc (pc2 := 116) (v := nI 1) (L2 := [some (.ref 1), some (.int b1), some (.int b2), some (.int (b3 + (nI 1))), some (.int x2), some (.int (nI 0))]) hM rfl rfl rfl rfl rfl ?_
            refine e_goto (tgt := 27) hM rfl rfl ?_
            exact rfl
          · refine e_iload (pc2 := 104) hM rfl rfl rfl ?_
            refine e_if_ne (pc2 := 107) (tgt := 113) hM rfl rfl rfl ?_ ?_
            · refine e_iinc (pc2 := 116) (v := nI 1) (L2 := [some (.ref 1), some (.int b1), some (.int b2), some (.int (b3 + (nI 1))), some (.int x2), some (.int (nI 0))]) hM rfl rfl rfl rfl rfl ?_
              refine e_goto (tgt := 27) hM rfl rfl ?_
              exact rfl
            · refine e_iload_n (pc2 := 108) hM rfl rfl rfl ?_
              refine e_iconst (pc2 := 109) (v := nI 1) hM rfl rfl rfl ?_
              refine e_iload_n (pc2 := 110) hM rfl rfl rfl ?_
              refine e_ishl (pc2 := 111) hM rfl rfl ?_
              refine e_ior (pc2 := 112) hM rfl rfl ?_
              refine e_istore_n (pc2 := 113) (L2 := [some (.ref 1), some (.int b1), some (.int (b2 ||| ((nI 1) <<< (b3 &&& 31)))), some (.int b3), some (.int x2), some (.int (nI 0))]) hM rfl rfl rfl rfl ?_
              refine e_iinc (pc2 := 116) (v := nI 1) (L2 := [some (.ref 1), some (.int b1), some (.int (b2 ||| ((nI 1) <<< (b3 &&& 31)))), some (.int (b3 + (nI 1))), some (.int x2), some (.int (nI 0))]) hM rfl rfl rfl rfl rfl ?_
              refine e_goto (tgt := 27) hM rfl rfl ?_
              exact rfl
        · refine e_iload (pc2 := 87) hM rfl rfl rfl ?_
          refine e_if_ne (pc2 := 90) (tgt := 97) hM rfl rfl rfl ?_ ?_
          · refine e_iload (pc2 := 99) hM rfl rfl rfl ?_
            refine e_if_eq (pc2 := 102) (tgt := 113) hM rfl rfl rfl ?_ ?_
            · refine e_iinc (pc2 := 116) (v := nI 1) (L2 := [some (.ref 1), some (.int b1), some (.int b2), some (.int (b3 + (nI 1))), some (.int x2), some (.int (nI 0))]) hM rfl rfl rfl rfl rfl ?_
              refine e_goto (tgt := 27) hM rfl rfl ?_
              exact rfl
            · refine e_iload (pc2 := 104) hM rfl rfl rfl ?_
              refine e_if_ne (pc2 := 107) (tgt := 113) hM rfl rfl rfl ?_ ?_
              · refine e_iinc (pc2 := 116) (v := nI 1) (L2 := [some (.ref 1), some (.int b1), some (.int b2), some (.int (b3 + (nI 1))), some (.int x2), some (.int (nI 0))]) hM rfl rfl rfl rfl rfl ?_
                refine e_goto (tgt := 27) hM rfl rfl ?_
                exact rfl
              · refine e_iload_n (pc2 := 108) hM rfl rfl rfl ?_
                refine e_iconst (pc2 := 109) (v := nI 1) hM rfl rfl rfl ?_
                refine e_iload_n (pc2 := 110) hM rfl rfl rfl ?_
                refine e_ishl (pc2 := 111) hM rfl rfl ?_
                refine e_ior (pc2 := 112) hM rfl rfl ?_
                refine e_istore_n (pc2 := 113) (L2 := [some (.ref 1), some (.int b1), some (.int (b2 ||| ((nI 1) <<< (b3 &&& 31)))), some (.int b3), some (.int x2), some (.int (nI 0))]) hM rfl rfl rfl rfl ?_
                refine e_iinc (pc2 := 116) (v := nI 1) (L2 := [some (.ref 1), some (.int b1), some (.int (b2 ||| ((nI 1) <<< (b3 &&& 31)))), some (.int (b3 + (nI 1))), some (.int x2), some (.int (nI 0))]) hM rfl rfl rfl rfl rfl ?_
                refine e_goto (tgt := 27) hM rfl rfl ?_
                exact rfl
          · refine e_aload_n (pc2 := 91) hM rfl rfl rfl ?_
            refine e_ldc (pc2 := 93) (v := (-1000000002)) hM rfl rfl rfl ?_
            refine e_cvi (pc2 := 96) (k := 0) (As := [.ref 1, .int (-1000000002)]) (rest := []) hM rfl rfl rfl rfl rfl rfl rfl (fun x10 h9 => ?_)
            exact e_iret hM rfl rfl
      · refine e_iconst (pc2 := 74) (v := nI 1) hM rfl rfl rfl ?_
        refine e_goto (tgt := 78) hM rfl rfl ?_
        refine e_istore (pc2 := 80) (L2 := [some (.ref 1), some (.int b1), some (.int b2), some (.int b3), some (.int x2), some (.int (nI 1))]) hM rfl rfl rfl rfl ?_
        refine e_iload (pc2 := 82) hM rfl rfl rfl ?_
        refine e_if_eq (pc2 := 85) (tgt := 97) hM rfl rfl rfl ?_ ?_
        · refine e_iload (pc2 := 99) hM rfl rfl rfl ?_
          refine e_if_eq (pc2 := 102) (tgt := 113) hM rfl rfl rfl ?_ ?_
          · refine e_iinc (pc2 := 116) (v := nI 1) (L2 := [some (.ref 1), some (.int b1), some (.int b2), some (.int (b3 + (nI 1))), some (.int x2), some (.int (nI 1))]) hM rfl rfl rfl rfl rfl ?_
            refine e_goto (tgt := 27) hM rfl rfl ?_
            exact rfl
          · refine e_iload (pc2 := 104) hM rfl rfl rfl ?_
            refine e_if_ne (pc2 := 107) (tgt := 113) hM rfl rfl rfl ?_ ?_
            · refine e_iinc (pc2 := 116) (v := nI 1) (L2 := [some (.ref 1), some (.int b1), some (.int b2), some (.int (b3 + (nI 1))), some (.int x2), some (.int (nI 1))]) hM rfl rfl rfl rfl rfl ?_
              refine e_goto (tgt := 27) hM rfl rfl ?_
              exact rfl
            · refine e_iload_n (pc2 := 108) hM rfl rfl rfl ?_
              refine e_iconst (pc2 := 109) (v := nI 1) hM rfl rfl rfl ?_
              refine e_iload_n (pc2 := 110) hM rfl rfl rfl ?_
              refine e_ishl (pc2 := 111) hM rfl rfl ?_
              refine e_ior (pc2 := 112) hM rfl rfl ?_
              refine e_istore_n (pc2 := 113) (L2 := [some (.ref 1), some (.int b1), some (.int (b2 ||| ((nI 1) <<< (b3 &&& 31)))), some (.int b3), some (.int x2), some (.int (nI 1))]) hM rfl rfl rfl rfl ?_
              refine e_iinc (pc2 := 116) (v := nI 1) (L2 := [some (.ref 1), some (.int b1), some (.int (b2 ||| ((nI 1) <<< (b3 &&& 31)))), some (.int (b3 + (nI 1))), some (.int x2), some (.int (nI 1))]) hM rfl rfl rfl rfl rfl ?_
              refine e_goto (tgt := 27) hM rfl rfl ?_
              exact rfl
        · refine e_iload (pc2 := 87) hM rfl rfl rfl ?_
          refine e_if_ne (pc2 := 90) (tgt := 97) hM rfl rfl rfl ?_ ?_
          · refine e_iload (pc2 := 99) hM rfl rfl rfl ?_
            refine e_if_eq (pc2 := 102) (tgt := 113) hM rfl rfl rfl ?_ ?_
            · refine e_iinc (pc2 := 116) (v := nI 1) (L2 := [some (.ref 1), some (.int b1), some (.int b2), some (.int (b3 + (nI 1))), some (.int x2), some (.int (nI 1))]) hM rfl rfl rfl rfl rfl ?_
              refine e_goto (tgt := 27) hM rfl rfl ?_
              exact rfl
            · refine e_iload (pc2 := 104) hM rfl rfl rfl ?_
              refine e_if_ne (pc2 := 107) (tgt := 113) hM rfl rfl rfl ?_ ?_
              · refine e_iinc (pc2 := 116) (v := nI 1) (L2 := [some (.ref 1), some (.int b1), some (.int b2), some (.int (b3 + (nI 1))), some (.int x2), some (.int (nI 1))]) hM rfl rfl rfl rfl rfl ?_
                refine e_goto (tgt := 27) hM rfl rfl ?_
                exact rfl
              · refine e_iload_n (pc2 := 108) hM rfl rfl rfl ?_
                refine e_iconst (pc2 := 109) (v := nI 1) hM rfl rfl rfl ?_
                refine e_iload_n (pc2 := 110) hM rfl rfl rfl ?_
                refine e_ishl (pc2 := 111) hM rfl rfl ?_
                refine e_ior (pc2 := 112) hM rfl rfl ?_
                refine e_istore_n (pc2 := 113) (L2 := [some (.ref 1), some (.int b1), some (.int (b2 ||| ((nI 1) <<< (b3 &&& 31)))), some (.int b3), some (.int x2), some (.int (nI 1))]) hM rfl rfl rfl rfl ?_
                refine e_iinc (pc2 := 116) (v := nI 1) (L2 := [some (.ref 1), some (.int b1), some (.int (b2 ||| ((nI 1) <<< (b3 &&& 31)))), some (.int (b3 + (nI 1))), some (.int x2), some (.int (nI 1))]) hM rfl rfl rfl rfl rfl ?_
                refine e_goto (tgt := 27) hM rfl rfl ?_
                exact rfl
          · refine e_aload_n (pc2 := 91) hM rfl rfl rfl ?_
            refine e_ldc (pc2 := 93) (v := (-1000000002)) hM rfl rfl rfl ?_
            refine e_cvi (pc2 := 96) (k := 0) (As := [.ref 1, .int (-1000000002)]) (rest := []) hM rfl rfl rfl rfl rfl rfl rfl (fun x12 h11 => ?_)
            exact e_iret hM rfl rfl
theorem qX7_look_0 {sl : Nat} {xs : Nat → Int32} {d : Nat} {a0 a1 a2 : Int32} {h : pmH} : pm_cf (pm_Ev sl xs) (d + 2) 66 [.ref 1, .int a0, .int a1, .int a2] (SH, h) = pm_ri (pm_cf (pm_Ev sl xs) (d + 1) 41 [.ref 8, .int a0, .int a1] (SH, h)) SH fun x2 h1 => if x2 = 0 then (pm_ri (pm_cf (pm_Ev sl xs) (d + 1) 85 [.ref 1, .int (-1000000001)] (SH, h1)) SH fun x4 h3 => some (some (.int x4), (SH, h3))) else (pm_ri (pm_cf (pm_Ev sl xs) (d + 1) 86 [.int a2, .int (nI 0), .int (nI 1)] (SH, h1)) SH fun x6 h5 => if x6 = 0 then (pm_ri (pm_cf (pm_Ev sl xs) (d + 1) 85 [.ref 1, .int (-1000000001)] (SH, h5)) SH fun x33 h32 => some (some (.int x33), (SH, h32))) else (pm_ix none a0 24 fun j7 => if (h5 16 j7) = 0 then (pm_ri (pm_cf (pm_Ev sl xs) (d + 1) 85 [.ref 1, .int (-1000000003)] (SH, h5)) SH fun x31 h30 => some (some (.int x31), (SH, h30))) else (if a2 = (nI 1) then (pm_ix none a0 24 fun j19 => if a2 = 0 then (pm_ix none a0 24 fun j25 => if (if (h5 17 j19) < (a1 + (nI 1)) then (a1 + (nI 1)) else (h5 17 j19)) ≤ (if a1 < (h5 18 j25) then a1 else (h5 18 j25)) then (pm_ix none a0 24 fun j26 => pm_ix none a0 24 fun j27 => some (some (.int (((if a1 < (h5 18 j25) then a1 else (h5 18 j25)) - (if (h5 17 j19) < (a1 + (nI 1)) then (a1 + (nI 1)) else (h5 17 j19))) + (nI 1))), (SH, (pm_up (pm_up h5 17 j26 (if (h5 17 j19) < (a1 + (nI 1)) then (a1 + (nI 1)) else (h5 17 j19))) 18 j27 (if a1 < (h5 18 j25) then a1 else (h5 18 j25)))))) else (pm_ri (pm_cf (pm_Ev sl xs) (d + 1) 85 [.ref 1, .int (-1000000002)] (SH, h5)) SH fun x29 h28 => some (some (.int x29), (SH, h28)))) else (pm_ix none a0 24 fun j20 => if (if (h5 17 j19) < (a1 + (nI 1)) then (a1 + (nI 1)) else (h5 17 j19)) ≤ (h5 18 j20) then (pm_ix none a0 24 fun j21 => pm_ix none a0 24 fun j22 => some (some (.int (((h5 18 j20) - (if (h5 17 j19) < (a1 + (nI 1)) then (a1 + (nI 1)) else (h5 17 j19))) + (nI 1))), (SH, (pm_up (pm_up h5 17 j21 (if (h5 17 j19) < (a1 + (nI 1)) then (a1 + (nI 1)) else (h5 17 j19))) 18 j22 (h5 18 j20))))) else (pm_ri (pm_cf (pm_Ev sl xs) (d + 1) 85 [.ref 1, .int (-1000000002)] (SH, h5)) SH fun x24 h23 => some (some (.int x24), (SH, h23))))) else (pm_ix none a0 24 fun j8 => if a2 = 0 then (pm_ix none a0 24 fun j14 => if (h5 17 j8) ≤ (if a1 < (h5 18 j14) then a1 else (h5 18 j14)) then (pm_ix none a0 24 fun j15 => pm_ix none a0 24 fun j16 => some (some (.int (((if a1 < (h5 18 j14) then a1 else (h5 18 j14)) - (h5 17 j8)) + (nI 1))), (SH, (pm_up (pm_up h5 17 j15 (h5 17 j8)) 18 j16 (if a1 < (h5 18 j14) then a1 else (h5 18 j14)))))) else (pm_ri (pm_cf (pm_Ev sl xs) (d + 1) 85 [.ref 1, .int (-1000000002)] (SH, h5)) SH fun x18 h17 => some (some (.int x18), (SH, h17)))) else (pm_ix none a0 24 fun j9 => if (h5 17 j8) ≤ (h5 18 j9) then (pm_ix none a0 24 fun j10 => pm_ix none a0 24 fun j11 => some (some (.int (((h5 18 j9) - (h5 17 j8)) + (nI 1))), (SH, (pm_up (pm_up h5 17 j10 (h5 17 j8)) 18 j11 (h5 18 j9))))) else (pm_ri (pm_cf (pm_Ev sl xs) (d + 1) 85 [.ref 1, .int (-1000000002)] (SH, h5)) SH fun x13 h12 => some (some (.int x13), (SH, h12)))))))) := by
  have hM : pm_mt 66 = some mt_66 := rfl
  refine e_call (L := [some (.ref 1), some (.int a0), some (.int a1), some (.int a2), none, none]) hM rfl rfl ?_
  refine e_aload_n (pc2 := 1) hM rfl rfl rfl ?_
  refine e_getfr (pc2 := 4) (k := 0) (b := 8) hM rfl rfl rfl rfl rfl ?_
  refine e_iload_n (pc2 := 5) hM rfl rfl rfl ?_
  refine e_iload_n (pc2 := 6) hM rfl rfl rfl ?_
  refine e_cvi (pc2 := 9) (k := 7) (As := [.ref 8, .int a0, .int a1]) (rest := []) hM rfl rfl rfl rfl rfl rfl rfl (fun x2 h1 => ?_)
  refine e_if_eq (pc2 := 12) (tgt := 21) hM rfl rfl rfl ?_ ?_
  · refine e_aload_n (pc2 := 22) hM rfl rfl rfl ?_
    refine e_ldc (pc2 := 24) (v := (-1000000001)) hM rfl rfl rfl ?_
    refine e_cvi (pc2 := 27) (k := 0) (As := [.ref 1, .int (-1000000001)]) (rest := []) hM rfl rfl rfl rfl rfl rfl rfl (fun x4 h3 => ?_)
    exact e_iret hM rfl rfl
  · refine e_iload_n (pc2 := 13) hM rfl rfl rfl ?_
    refine e_iconst (pc2 := 14) (v := nI 0) hM rfl rfl rfl ?_
    refine e_iconst (pc2 := 15) (v := nI 1) hM rfl rfl rfl ?_
    refine e_csi (pc2 := 18) (As := [.int a2, .int (nI 0), .int (nI 1)]) (rest := []) hM rfl rfl rfl rfl rfl rfl rfl (fun x6 h5 => ?_)
    refine e_if_ne (pc2 := 21) (tgt := 28) hM rfl rfl rfl ?_ ?_
    · refine e_aload_n (pc2 := 29) hM rfl rfl rfl ?_
      refine e_getfr (pc2 := 32) (k := 0) (b := 8) hM rfl rfl rfl rfl rfl ?_
      refine e_getfr (pc2 := 35) (k := 7) (b := 17) hM rfl rfl rfl rfl rfl ?_
      refine e_iload_n (pc2 := 36) hM rfl rfl rfl ?_
      refine e_bald (pc2 := 37) (k := 16) (V := fun j7 => (h5 16 j7)) hM rfl rfl rfl (fun _ => rfl) (fun j7 => ?_)
      refine e_if_ne (pc2 := 40) (tgt := 47) hM rfl rfl rfl ?_ ?_
      · refine e_iload_n (pc2 := 48) hM rfl rfl rfl ?_
        refine e_iconst (pc2 := 49) (v := nI 1) hM rfl rfl rfl ?_
        refine e_icmp_ne (pc2 := 52) (tgt := 70) hM rfl rfl rfl ?_ ?_
        · refine e_aload_n (pc2 := 71) hM rfl rfl rfl ?_
          refine e_getfr (pc2 := 74) (k := 0) (b := 8) hM rfl rfl rfl rfl rfl ?_
          refine e_getfr (pc2 := 77) (k := 7) (b := 18) hM rfl rfl rfl rfl rfl ?_
          refine e_iload_n (pc2 := 78) hM rfl rfl rfl ?_
          refine e_iald (pc2 := 79) (k := 17) (V := fun j8 => (h5 17 j8)) hM rfl rfl rfl (fun _ => rfl) (fun j8 => ?_)
          refine e_istore (pc2 := 81) (L2 := [some (.ref 1), some (.int a0), some (.int a1), some (.int a2), some (.int (h5 17 j8)), none]) hM rfl rfl rfl rfl ?_
          refine e_iload_n (pc2 := 82) hM rfl rfl rfl ?_
          refine e_if_ne (pc2 := 85) (tgt := 101) hM rfl rfl rfl ?_ ?_
          · refine e_aload_n (pc2 := 102) hM rfl rfl rfl ?_
            refine e_getfr (pc2 := 105) (k := 0) (b := 8) hM rfl rfl rfl rfl rfl ?_
            refine e_getfr (pc2 := 108) (k := 7) (b := 19) hM rfl rfl rfl rfl rfl ?_
            refine e_iload_n (pc2 := 109) hM rfl rfl rfl ?_
            refine e_iald (pc2 := 110) (k := 18) (V := fun j9 => (h5 18 j9)) hM rfl rfl rfl (fun _ => rfl) (fun j9 => ?_)
            refine e_istore (pc2 := 112) (L2 := [some (.ref 1), some (.int a0), some (.int a1), some (.int a2), some (.int (h5 17 j8)), some (.int (h5 18 j9))]) hM rfl rfl rfl rfl ?_
            refine e_iload (pc2 := 114) hM rfl rfl rfl ?_
            refine e_iload (pc2 := 116) hM rfl rfl rfl ?_
            refine e_icmp_le (pc2 := 119) (tgt := 126) hM rfl rfl rfl ?_ ?_
            · refine e_aload_n (pc2 := 127) hM rfl rfl rfl ?_
              refine e_getfr (pc2 := 130) (k := 0) (b := 8) hM rfl rfl rfl rfl rfl ?_
              refine e_getfr (pc2 := 133) (k := 7) (b := 18) hM rfl rfl rfl rfl rfl ?_
              refine e_iload_n (pc2 := 134) hM rfl rfl rfl ?_
              refine e_iload (pc2 := 136) hM rfl rfl rfl ?_
              refine e_iast (pc2 := 137) (k := 17) hM rfl rfl rfl (fun j10 => ?_)
              refine e_aload_n (pc2 := 138) hM rfl rfl rfl ?_
              refine e_getfr (pc2 := 141) (k := 0) (b := 8) hM rfl rfl rfl rfl rfl ?_
              refine e_getfr (pc2 := 144) (k := 7) (b := 19) hM rfl rfl rfl rfl rfl ?_
              refine e_iload_n (pc2 := 145) hM rfl rfl rfl ?_
              refine e_iload (pc2 := 147) hM rfl rfl rfl ?_
              refine e_iast (pc2 := 148) (k := 18) hM rfl rfl rfl (fun j11 => ?_)
              refine e_iload (pc2 := 150) hM rfl rfl rfl ?_
              refine e_iload (pc2 := 152) hM rfl rfl rfl ?_
              refine e_isub (pc2 := 153) hM rfl rfl ?_
              refine e_iconst (pc2 := 154) (v := nI 1) hM rfl rfl rfl ?_
              refine e_iadd (pc2 := 155) hM rfl rfl ?_
              exact e_iret hM rfl rfl
            · refine e_aload_n (pc2 := 120) hM rfl rfl rfl ?_
              refine e_ldc (pc2 := 122) (v := (-1000000002)) hM rfl rfl rfl ?_
              refine e_cvi (pc2 := 125) (k := 0) (As := [.ref 1, .int (-1000000002)]) (rest := []) hM rfl rfl rfl rfl rfl rfl rfl (fun x13 h12 => ?_)
              exact e_iret hM rfl rfl
          · refine e_aload_n (pc2 := 86) hM rfl rfl rfl ?_
            refine e_getfr (pc2 := 89) (k := 0) (b := 8) hM rfl rfl rfl rfl rfl ?_
            refine e_getfr (pc2 := 92) (k := 7) (b := 19) hM rfl rfl rfl rfl rfl ?_
            refine e_iload_n (pc2 := 93) hM rfl rfl rfl ?_
            refine e_iald (pc2 := 94) (k := 18) (V := fun j14 => (h5 18 j14)) hM rfl rfl rfl (fun _ => rfl) (fun j14 => ?_)
            refine e_iload_n (pc2 := 95) hM rfl rfl rfl ?_
            refine e_min (pc2 := 98) hM rfl rfl rfl rfl ?_
            refine e_goto (tgt := 110) hM rfl rfl ?_
            refine e_istore (pc2 := 112) (L2 := [some (.ref 1), some (.int a0), some (.int a1), some (.int a2), some (.int (h5 17 j8)), some (.int (if a1 < (h5 18 j14) then a1 else (h5 18 j14)))]) hM rfl rfl rfl rfl ?_
            refine e_iload (pc2 := 114) hM rfl rfl rfl ?_
            refine e_iload (pc2 := 116) hM rfl rfl rfl ?_
            refine e_icmp_le (pc2 := 119) (tgt := 126) hM rfl rfl rfl ?_ ?_
            · refine e_aload_n (pc2 := 127) hM rfl rfl rfl ?_
              refine e_getfr (pc2 := 130) (k := 0) (b := 8) hM rfl rfl rfl rfl rfl ?_
              refine e_getfr (pc2 := 133) (k := 7) (b := 18) hM rfl rfl rfl rfl rfl ?_
              refine e_iload_n (pc2 := 134) hM rfl rfl rfl ?_
              refine e_iload (pc2 := 136) hM rfl rfl rfl ?_
              refine e_iast (pc2 := 137) (k := 17) hM rfl rfl rfl (fun j15 => ?_)
              refine e_aload_n (pc2 := 138) hM rfl rfl rfl ?_
              refine e_getfr (pc2 := 141) (k := 0) (b := 8) hM rfl rfl rfl rfl rfl ?_
              refine e_getfr (pc2 := 144) (k := 7) (b := 19) hM rfl rfl rfl rfl rfl ?_
              refine e_iload_n (pc2 := 145) hM rfl rfl rfl ?_
              refine e_iload (pc2 := 147) hM rfl rfl rfl ?_
              refine e_iast (pc2 := 148) (k := 18) hM rfl rfl rfl (fun j16 => ?_)
              refine e_iload (pc2 := 150) hM rfl rfl rfl ?_
              refine e_iload (pc2 := 152) hM rfl rfl rfl ?_
              refine e_isub (pc2 := 153) hM rfl rfl ?_
              refine e_iconst (pc2 := 154) (v := nI 1) hM rfl rfl rfl ?_
              refine e_iadd (pc2 := 155) hM rfl rfl ?_
              exact e_iret hM rfl rfl
            · refine e_aload_n (pc2 := 120) hM rfl rfl rfl ?_
              refine e_ldc (pc2 := 122) (v := (-1000000002)) hM rfl rfl rfl ?_
              refine e_cvi (pc2 := 125) (k := 0) (As := [.ref 1, .int (-1000000002)]) (rest := []) hM rfl rfl rfl rfl rfl rfl rfl (fun x18 h17 => ?_)
              exact e_iret hM rfl rfl
        · refine e_aload_n (pc2 := 53) hM rfl rfl rfl ?_
          refine e_getfr (pc2 := 56) (k := 0) (b := 8) hM rfl rfl rfl rfl rfl ?_
          refine e_getfr (pc2 := 59) (k := 7) (b := 18) hM rfl rfl rfl rfl rfl ?_
          refine e_iload_n (pc2 := 60) hM rfl rfl rfl ?_
          refine e_iald (pc2 := 61) (k := 17) (V := fun j19 => (h5 17 j19)) hM rfl rfl rfl (fun _ => rfl) (fun j19 => ?_)
          refine e_iload_n (pc2 := 62) hM rfl rfl rfl ?_
          refine e_iconst (pc2 := 63) (v := nI 1) hM rfl rfl rfl ?_
          refine e_iadd (pc2 := 64) hM rfl rfl ?_
          refine e_max (pc2 := 67) hM rfl rfl rfl rfl ?_
          refine e_goto (tgt := 79) hM rfl rfl ?_
          refine e_istore (pc2 := 81) (L2 := [some (.ref 1), some (.int a0), some (.int a1), some (.int a2), some (.int (if (h5 17 j19) < (a1 + (nI 1)) then (a1 + (nI 1)) else (h5 17 j19))), none]) hM rfl rfl rfl rfl ?_
          refine e_iload_n (pc2 := 82) hM rfl rfl rfl ?_
          refine e_if_ne (pc2 := 85) (tgt := 101) hM rfl rfl rfl ?_ ?_
          · refine e_aload_n (pc2 := 102) hM rfl rfl rfl ?_
            refine e_getfr (pc2 := 105) (k := 0) (b := 8) hM rfl rfl rfl rfl rfl ?_
            refine e_getfr (pc2 := 108) (k := 7) (b := 19) hM rfl rfl rfl rfl rfl ?_
            refine e_iload_n (pc2 := 109) hM rfl rfl rfl ?_
            refine e_iald (pc2 := 110) (k := 18) (V := fun j20 => (h5 18 j20)) hM rfl rfl rfl (fun _ => rfl) (fun j20 => ?_)
            refine e_istore (pc2 := 112) (L2 := [some (.ref 1), some (.int a0), some (.int a1), some (.int a2), some (.int (if (h5 17 j19) < (a1 + (nI 1)) then (a1 + (nI 1)) else (h5 17 j19))), some (.int (h5 18 j20))]) hM rfl rfl rfl rfl ?_
            refine e_iload (pc2 := 114) hM rfl rfl rfl ?_
            refine e_iload (pc2 := 116) hM rfl rfl rfl ?_
            refine e_icmp_le (pc2 := 119) (tgt := 126) hM rfl rfl rfl ?_ ?_
            · refine e_aload_n (pc2 := 127) hM rfl rfl rfl ?_
              refine e_getfr (pc2 := 130) (k := 0) (b := 8) hM rfl rfl rfl rfl rfl ?_
              refine e_getfr (pc2 := 133) (k := 7) (b := 18) hM rfl rfl rfl rfl rfl ?_
              refine e_iload_n (pc2 := 134) hM rfl rfl rfl ?_
              refine e_iload (pc2 := 136) hM rfl rfl rfl ?_
              refine e_iast (pc2 := 137) (k := 17) hM rfl rfl rfl (fun j21 => ?_)
              refine e_aload_n (pc2 := 138) hM rfl rfl rfl ?_
              refine e_getfr (pc2 := 141) (k := 0) (b := 8) hM rfl rfl rfl rfl rfl ?_
              refine e_getfr (pc2 := 144) (k := 7) (b := 19) hM rfl rfl rfl rfl rfl ?_
              refine e_iload_n (pc2 := 145) hM rfl rfl rfl ?_
              refine e_iload (pc2 := 147) hM rfl rfl rfl ?_
              refine e_iast (pc2 := 148) (k := 18) hM rfl rfl rfl (fun j22 => ?_)
              refine e_iload (pc2 := 150) hM rfl rfl rfl ?_
              refine e_iload (pc2 := 152) hM rfl rfl rfl ?_
              refine e_isub (pc2 := 153) hM rfl rfl ?_
              refine e_iconst (pc2 := 154) (v := nI 1) hM rfl rfl rfl ?_
              refine e_iadd (pc2 := 155) hM rfl rfl ?_
              exact e_iret hM rfl rfl
            · refine e_aload_n (pc2 := 120) hM rfl rfl rfl ?_
              refine e_ldc (pc2 := 122) (v := (-1000000002)) hM rfl rfl rfl ?_
              refine e_cvi (pc2 := 125) (k := 0) (As := [.ref 1, .int (-1000000002)]) (rest := []) hM rfl rfl rfl rfl rfl rfl rfl (fun x24 h23 => ?_)
              exact e_iret hM rfl rfl
          · refine e_aload_n (pc2 := 86) hM rfl rfl rfl ?_
            refine e_getfr (pc2 := 89) (k := 0) (b := 8) hM rfl rfl rfl rfl rfl ?_
            refine e_getfr (pc2 := 92) (k := 7) (b := 19) hM rfl rfl rfl rfl rfl ?_
            refine e_iload_n (pc2 := 93) hM rfl rfl rfl ?_
            refine e_iald (pc2 := 94) (k := 18) (V := fun j25 => (h5 18 j25)) hM rfl rfl rfl (fun _ => rfl) (fun j25 => ?_)
            refine e_iload_n (pc2 := 95) hM rfl rfl rfl ?_
            refine e_min (pc2 := 98) hM rfl rfl rfl rfl ?_
            refine e_goto (tgt := 110) hM rfl rfl ?_
            refine e_istore (pc2 := 112) (L2 := [some (.ref 1), some (.int a0), some (.int a1), some (.int a2), some (.int (if (h5 17 j19) < (a1 + (nI 1)) then (a1 + (nI 1)) else (h5 17 j19))), some (.int (if a1 < (h5 18 j25) then a1 else (h5 18 j25)))]) hM rfl rfl rfl rfl ?_
            refine e_iload (pc2 := 114) hM rfl rfl rfl ?_
            refine e_iload (pc2 := 116) hM rfl rfl rfl ?_
            refine e_icmp_le (pc2 := 119) (tgt := 126) hM rfl rfl rfl ?_ ?_
            · refine e_aload_n (pc2 := 127) hM rfl rfl rfl ?_
              refine e_getfr (pc2 := 130) (k := 0) (b := 8) hM rfl rfl rfl rfl rfl ?_
              refine e_getfr (pc2 := 133) (k := 7) (b := 18) hM rfl rfl rfl rfl rfl ?_
              refine e_iload_n (pc2 := 134) hM rfl rfl rfl ?_
              refine e_iload (pc2 := 136) hM rfl rfl rfl ?_
              refine e_iast (pc2 := 137) (k := 17) hM rfl rfl rfl (fun j26 => ?_)
              refine e_aload_n (pc2 := 138) hM rfl rfl rfl ?_
              refine e_getfr (pc2 := 141) (k := 0) (b := 8) hM rfl rfl rfl rfl rfl ?_
              refine e_getfr (pc2 := 144) (k := 7) (b := 19) hM rfl rfl rfl rfl rfl ?_
              refine e_iload_n (pc2 := 145) hM rfl rfl rfl ?_
              refine e_iload (pc2 := 147) hM rfl rfl rfl ?_
              refine e_iast (pc2 := 148) (k := 18) hM rfl rfl rfl (fun j27 => ?_)
              refine e_iload (pc2 := 150) hM rfl rfl rfl ?_
              refine e_iload (pc2 := 152) hM rfl rfl rfl ?_
              refine e_isub (pc2 := 153) hM rfl rfl ?_
              refine e_iconst (pc2 := 154) (v := nI 1) hM rfl rfl rfl ?_
              refine e_iadd (pc2 := 155) hM rfl rfl ?_
              exact e_iret hM rfl rfl
            · refine e_aload_n (pc2 := 120) hM rfl rfl rfl ?_
              refine e_ldc (pc2 := 122) (v := (-1000000002)) hM rfl rfl rfl ?_
              refine e_cvi (pc2 := 125) (k := 0) (As := [.ref 1, .int (-1000000002)]) (rest := []) hM rfl rfl rfl rfl rfl rfl rfl (fun x29 h28 => ?_)
              exact e_iret hM rfl rfl
      · refine e_aload_n (pc2 := 41) hM rfl rfl rfl ?_
        refine e_ldc (pc2 := 43) (v := (-1000000003)) hM rfl rfl rfl ?_
        refine e_cvi (pc2 := 46) (k := 0) (As := [.ref 1, .int (-1000000003)]) (rest := []) hM rfl rfl rfl rfl rfl rfl rfl (fun x31 h30 => ?_)
        exact e_iret hM rfl rfl
    · refine e_aload_n (pc2 := 22) hM rfl rfl rfl ?_
      refine e_ldc (pc2 := 24) (v := (-1000000001)) hM rfl rfl rfl ?_
      refine e_cvi (pc2 := 27) (k := 0) (As := [.ref 1, .int (-1000000001)]) (rest := []) hM rfl rfl rfl rfl rfl rfl rfl (fun x33 h32 => ?_)
      exact e_iret hM rfl rfl
theorem qX7_next_0 {sl : Nat} {xs : Nat → Int32} {d : Nat} {a0 : Int32} {h : pmH} : pm_cf (pm_Ev sl xs) (d + 2) 67 [.ref 1, .int a0] (SH, h) = pm_ri (pm_cf (pm_Ev sl xs) (d + 1) 40 [.ref 8, .int a0] (SH, h)) SH fun x2 h1 => if x2 = 0 then (pm_ri (pm_cf (pm_Ev sl xs) (d + 1) 85 [.ref 1, .int (-1000000001)] (SH, h1)) SH fun x13 h12 => some (some (.int x13), (SH, h12))) else (pm_ix none a0 24 fun j3 => if (h1 16 j3) = 0 then (pm_ri (pm_cf (pm_Ev sl xs) (d + 1) 85 [.ref 1, .int (-1000000003)] (SH, h1)) SH fun x11 h10 => some (some (.int x11), (SH, h10))) else (pm_ix none a0 24 fun j4 => pm_ix none a0 24 fun j5 => if (h1 17 j4) = (h1 18 j5) then (pm_ri (pm_cf (pm_Ev sl xs) (d + 1) 85 [.ref 1, .int (-1000000002)] (SH, h1)) SH fun x9 h8 => some (some (.int x9), (SH, h8))) else (pm_ix none a0 24 fun j6 => pm_ix none a0 24 fun j7 => if nI 2 = 0 then none else (some (some (.int (((h1 17 j6) + (h1 18 j7)) / (nI 2))), (SH, h1)))))) := by
  have hM : pm_mt 67 = some mt_67 := rfl
  refine e_call (L := [some (.ref 1), some (.int a0)]) hM rfl rfl ?_
  refine e_aload_n (pc2 := 1) hM rfl rfl rfl ?_
  refine e_getfr (pc2 := 4) (k := 0) (b := 8) hM rfl rfl rfl rfl rfl ?_
  refine e_iload_n (pc2 := 5) hM rfl rfl rfl ?_
  refine e_cvi (pc2 := 8) (k := 7) (As := [.ref 8, .int a0]) (rest := []) hM rfl rfl rfl rfl rfl rfl rfl (fun x2 h1 => ?_)
  refine e_if_ne (pc2 := 11) (tgt := 18) hM rfl rfl rfl ?_ ?_
  · refine e_aload_n (pc2 := 19) hM rfl rfl rfl ?_
    refine e_getfr (pc2 := 22) (k := 0) (b := 8) hM rfl rfl rfl rfl rfl ?_
    refine e_getfr (pc2 := 25) (k := 7) (b := 17) hM rfl rfl rfl rfl rfl ?_
    refine e_iload_n (pc2 := 26) hM rfl rfl rfl ?_
    refine e_bald (pc2 := 27) (k := 16) (V := fun j3 => (h1 16 j3)) hM rfl rfl rfl (fun _ => rfl) (fun j3 => ?_)
    refine e_if_ne (pc2 := 30) (tgt := 37) hM rfl rfl rfl ?_ ?_
    · refine e_aload_n (pc2 := 38) hM rfl rfl rfl ?_
      refine e_getfr (pc2 := 41) (k := 0) (b := 8) hM rfl rfl rfl rfl rfl ?_
      refine e_getfr (pc2 := 44) (k := 7) (b := 18) hM rfl rfl rfl rfl rfl ?_
      refine e_iload_n (pc2 := 45) hM rfl rfl rfl ?_
      refine e_iald (pc2 := 46) (k := 17) (V := fun j4 => (h1 17 j4)) hM rfl rfl rfl (fun _ => rfl) (fun j4 => ?_)
      refine e_aload_n (pc2 := 47) hM rfl rfl rfl ?_
      refine e_getfr (pc2 := 50) (k := 0) (b := 8) hM rfl rfl rfl rfl rfl ?_
      refine e_getfr (pc2 := 53) (k := 7) (b := 19) hM rfl rfl rfl rfl rfl ?_
      refine e_iload_n (pc2 := 54) hM rfl rfl rfl ?_
      refine e_iald (pc2 := 55) (k := 18) (V := fun j5 => (h1 18 j5)) hM rfl rfl rfl (fun _ => rfl) (fun j5 => ?_)
      refine e_icmp_ne (pc2 := 58) (tgt := 65) hM rfl rfl rfl ?_ ?_
      · refine e_aload_n (pc2 := 66) hM rfl rfl rfl ?_
        refine e_getfr (pc2 := 69) (k := 0) (b := 8) hM rfl rfl rfl rfl rfl ?_
        refine e_getfr (pc2 := 72) (k := 7) (b := 18) hM rfl rfl rfl rfl rfl ?_
        refine e_iload_n (pc2 := 73) hM rfl rfl rfl ?_
        refine e_iald (pc2 := 74) (k := 17) (V := fun j6 => (h1 17 j6)) hM rfl rfl rfl (fun _ => rfl) (fun j6 => ?_)
        refine e_aload_n (pc2 := 75) hM rfl rfl rfl ?_
        refine e_getfr (pc2 := 78) (k := 0) (b := 8) hM rfl rfl rfl rfl rfl ?_
        refine e_getfr (pc2 := 81) (k := 7) (b := 19) hM rfl rfl rfl rfl rfl ?_
        refine e_iload_n (pc2 := 82) hM rfl rfl rfl ?_
        refine e_iald (pc2 := 83) (k := 18) (V := fun j7 => (h1 18 j7)) hM rfl rfl rfl (fun _ => rfl) (fun j7 => ?_)
        refine e_iadd (pc2 := 84) hM rfl rfl ?_
        refine e_iconst (pc2 := 85) (v := nI 2) hM rfl rfl rfl ?_
        refine e_idiv (pc2 := 86) hM rfl rfl ?_
        exact e_iret hM rfl rfl
      · refine e_aload_n (pc2 := 59) hM rfl rfl rfl ?_
        refine e_ldc (pc2 := 61) (v := (-1000000002)) hM rfl rfl rfl ?_
        refine e_cvi (pc2 := 64) (k := 0) (As := [.ref 1, .int (-1000000002)]) (rest := []) hM rfl rfl rfl rfl rfl rfl rfl (fun x9 h8 => ?_)
        exact e_iret hM rfl rfl
    · refine e_aload_n (pc2 := 31) hM rfl rfl rfl ?_
      refine e_ldc (pc2 := 33) (v := (-1000000003)) hM rfl rfl rfl ?_
      refine e_cvi (pc2 := 36) (k := 0) (As := [.ref 1, .int (-1000000003)]) (rest := []) hM rfl rfl rfl rfl rfl rfl rfl (fun x11 h10 => ?_)
      exact e_iret hM rfl rfl
  · refine e_aload_n (pc2 := 12) hM rfl rfl rfl ?_
    refine e_ldc (pc2 := 14) (v := (-1000000001)) hM rfl rfl rfl ?_
    refine e_cvi (pc2 := 17) (k := 0) (As := [.ref 1, .int (-1000000001)]) (rest := []) hM rfl rfl rfl rfl rfl rfl rfl (fun x13 h12 => ?_)
    exact e_iret hM rfl rfl
theorem qX7_fault_0 {sl : Nat} {xs : Nat → Int32} {d : Nat} {a0 a1 : Int32} {h : pmH} : pm_cf (pm_Ev sl xs) (d + 2) 68 [.ref 1, .int a0, .int a1] (SH, h) = pm_ri (pm_cf (pm_Ev sl xs) (d + 1) 40 [.ref 8, .int a0] (SH, h)) SH fun x2 h1 => if x2 = 0 then (pm_ri (pm_cf (pm_Ev sl xs) (d + 1) 85 [.ref 1, .int (-1000000001)] (SH, h1)) SH fun x9 h8 => some (some (.int x9), (SH, h8))) else (pm_ix none a0 24 fun j3 => if (h1 16 j3) = 0 then (pm_ri (pm_cf (pm_Ev sl xs) (d + 1) 85 [.ref 1, .int (-1000000003)] (SH, h1)) SH fun x7 h6 => some (some (.int x7), (SH, h6))) else (if a1 = 0 then (pm_ix none a0 24 fun j4 => some (some (.int (h1 17 j4)), (SH, h1))) else (pm_ix none a0 24 fun j5 => some (some (.int (h1 18 j5)), (SH, h1))))) := by
  have hM : pm_mt 68 = some mt_68 := rfl
  refine e_call (L := [some (.ref 1), some (.int a0), some (.int a1)]) hM rfl rfl ?_
  refine e_aload_n (pc2 := 1) hM rfl rfl rfl ?_
  refine e_getfr (pc2 := 4) (k := 0) (b := 8) hM rfl rfl rfl rfl rfl ?_
  refine e_iload_n (pc2 := 5) hM rfl rfl rfl ?_
  refine e_cvi (pc2 := 8) (k := 7) (As := [.ref 8, .int a0]) (rest := []) hM rfl rfl rfl rfl rfl rfl rfl (fun x2 h1 => ?_)
  refine e_if_ne (pc2 := 11) (tgt := 18) hM rfl rfl rfl ?_ ?_
  · refine e_aload_n (pc2 := 19) hM rfl rfl rfl ?_
    refine e_getfr (pc2 := 22) (k := 0) (b := 8) hM rfl rfl rfl rfl rfl ?_
    refine e_getfr (pc2 := 25) (k := 7) (b := 17) hM rfl rfl rfl rfl rfl ?_
    refine e_iload_n (pc2 := 26) hM rfl rfl rfl ?_
    refine e_bald (pc2 := 27) (k := 16) (V := fun j3 => (h1 16 j3)) hM rfl rfl rfl (fun _ => rfl) (fun j3 => ?_)
    refine e_if_ne (pc2 := 30) (tgt := 37) hM rfl rfl rfl ?_ ?_
    · refine e_iload_n (pc2 := 38) hM rfl rfl rfl ?_
      refine e_if_eq (pc2 := 41) (tgt := 53) hM rfl rfl rfl ?_ ?_
      · refine e_aload_n (pc2 := 54) hM rfl rfl rfl ?_
        refine e_getfr (pc2 := 57) (k := 0) (b := 8) hM rfl rfl rfl rfl rfl ?_
        refine e_getfr (pc2 := 60) (k := 7) (b := 18) hM rfl rfl rfl rfl rfl ?_
        refine e_iload_n (pc2 := 61) hM rfl rfl rfl ?_
        refine e_iald (pc2 := 62) (k := 17) (V := fun j4 => (h1 17 j4)) hM rfl rfl rfl (fun _ => rfl) (fun j4 => ?_)
        exact e_iret hM rfl rfl
      · refine e_aload_n (pc2 := 42) hM rfl rfl rfl ?_
        refine e_getfr (pc2 := 45) (k := 0) (b := 8) hM rfl rfl rfl rfl rfl ?_
        refine e_getfr (pc2 := 48) (k := 7) (b := 19) hM rfl rfl rfl rfl rfl ?_
        refine e_iload_n (pc2 := 49) hM rfl rfl rfl ?_
        refine e_iald (pc2 := 50) (k := 18) (V := fun j5 => (h1 18 j5)) hM rfl rfl rfl (fun _ => rfl) (fun j5 => ?_)
        refine e_goto (tgt := 62) hM rfl rfl ?_
        exact e_iret hM rfl rfl
    · refine e_aload_n (pc2 := 31) hM rfl rfl rfl ?_
      refine e_ldc (pc2 := 33) (v := (-1000000003)) hM rfl rfl rfl ?_
      refine e_cvi (pc2 := 36) (k := 0) (As := [.ref 1, .int (-1000000003)]) (rest := []) hM rfl rfl rfl rfl rfl rfl rfl (fun x7 h6 => ?_)
      exact e_iret hM rfl rfl
  · refine e_aload_n (pc2 := 12) hM rfl rfl rfl ?_
    refine e_ldc (pc2 := 14) (v := (-1000000001)) hM rfl rfl rfl ?_
    refine e_cvi (pc2 := 17) (k := 0) (As := [.ref 1, .int (-1000000001)]) (rest := []) hM rfl rfl rfl rfl rfl rfl rfl (fun x9 h8 => ?_)
    exact e_iret hM rfl rfl
theorem qX7_crews_0 {sl : Nat} {xs : Nat → Int32} {d : Nat} {a0 a1 : Int32} {h : pmH} : pm_cf (pm_Ev sl xs) (d + 2) 69 [.ref 1, .int a0, .int a1] (SH, h) = pm_ri (pm_cf (pm_Ev sl xs) (d + 1) 86 [.int a0, .int (nI 1), .int (nI 3)] (SH, h)) SH fun x2 h1 => if x2 = 0 then (pm_ri (pm_cf (pm_Ev sl xs) (d + 1) 85 [.ref 1, .int (-1000000001)] (SH, h1)) SH fun x4 h3 => some (some (.int x4), (SH, h3))) else (pm_ri (pm_cf (pm_Ev sl xs) (d + 1) 86 [.int a1, .int (nI 1), .int (nI 12)] (SH, h1)) SH fun x6 h5 => if x6 = 0 then (pm_ri (pm_cf (pm_Ev sl xs) (d + 1) 85 [.ref 1, .int (-1000000001)] (SH, h5)) SH fun x8 h7 => some (some (.int x8), (SH, h7))) else (some (some (.int (nI 1)), (SH, (pm_up (pm_up h5 28 1 a0) 28 2 a1))))) := by
  have hM : pm_mt 69 = some mt_69 := rfl
  refine e_call (L := [some (.ref 1), some (.int a0), some (.int a1)]) hM rfl rfl ?_
  refine e_iload_n (pc2 := 1) hM rfl rfl rfl ?_
  refine e_iconst (pc2 := 2) (v := nI 1) hM rfl rfl rfl ?_
  refine e_iconst (pc2 := 3) (v := nI 3) hM rfl rfl rfl ?_
  refine e_csi (pc2 := 6) (As := [.int a0, .int (nI 1), .int (nI 3)]) (rest := []) hM rfl rfl rfl rfl rfl rfl rfl (fun x2 h1 => ?_)
  refine e_if_eq (pc2 := 9) (tgt := 19) hM rfl rfl rfl ?_ ?_
  · refine e_aload_n (pc2 := 20) hM rfl rfl rfl ?_
    refine e_ldc (pc2 := 22) (v := (-1000000001)) hM rfl rfl rfl ?_
    refine e_cvi (pc2 := 25) (k := 0) (As := [.ref 1, .int (-1000000001)]) (rest := []) hM rfl rfl rfl rfl rfl rfl rfl (fun x4 h3 => ?_)
    exact e_iret hM rfl rfl
  · refine e_iload_n (pc2 := 10) hM rfl rfl rfl ?_
    refine e_iconst (pc2 := 11) (v := nI 1) hM rfl rfl rfl ?_
    refine e_bipush (pc2 := 13) (v := nI 12) hM rfl rfl rfl rfl ?_
    refine e_csi (pc2 := 16) (As := [.int a1, .int (nI 1), .int (nI 12)]) (rest := []) hM rfl rfl rfl rfl rfl rfl rfl (fun x6 h5 => ?_)
    refine e_if_ne (pc2 := 19) (tgt := 26) hM rfl rfl rfl ?_ ?_
    · refine e_aload_n (pc2 := 27) hM rfl rfl rfl ?_
      refine e_getfr (pc2 := 30) (k := 0) (b := 29) hM rfl rfl rfl rfl rfl ?_
      refine e_iload_n (pc2 := 31) hM rfl rfl rfl ?_
      refine e_putf (pc2 := 34) (k := 28) hM rfl rfl rfl rfl rfl rfl ?_
      refine e_aload_n (pc2 := 35) hM rfl rfl rfl ?_
      refine e_getfr (pc2 := 38) (k := 0) (b := 29) hM rfl rfl rfl rfl rfl ?_
      refine e_iload_n (pc2 := 39) hM rfl rfl rfl ?_
      refine e_putf (pc2 := 42) (k := 28) hM rfl rfl rfl rfl rfl rfl ?_
      refine e_iconst (pc2 := 43) (v := nI 1) hM rfl rfl rfl ?_
      exact e_iret hM rfl rfl
    · refine e_aload_n (pc2 := 20) hM rfl rfl rfl ?_
      refine e_ldc (pc2 := 22) (v := (-1000000001)) hM rfl rfl rfl ?_
      refine e_cvi (pc2 := 25) (k := 0) (As := [.ref 1, .int (-1000000001)]) (rest := []) hM rfl rfl rfl rfl rfl rfl rfl (fun x8 h7 => ?_)
      exact e_iret hM rfl rfl
theorem qX7_open_0 {sl : Nat} {xs : Nat → Int32} {d : Nat} {a0 a1 : Int32} {h : pmH} : pm_cf (pm_Ev sl xs) (d + 2) 70 [.ref 1, .int a0, .int a1] (SH, h) = pm_ri (pm_cf (pm_Ev sl xs) (d + 1) 86 [.int a0, .int (nI 0), .int (nI 7)] (SH, h)) SH fun x2 h1 => if x2 = 0 then (pm_ri (pm_cf (pm_Ev sl xs) (d + 1) 85 [.ref 1, .int (-1000000001)] (SH, h1)) SH fun x4 h3 => some (some (.int x4), (SH, h3))) else (pm_ri (pm_cf (pm_Ev sl xs) (d + 1) 86 [.int a1, .int (nI 0), .int (nI 127)] (SH, h1)) SH fun x6 h5 => if x6 = 0 then (pm_ri (pm_cf (pm_Ev sl xs) (d + 1) 85 [.ref 1, .int (-1000000001)] (SH, h5)) SH fun x10 h9 => some (some (.int x10), (SH, h9))) else (pm_ix none a0 8 fun j7 => pm_ix none a0 8 fun j8 => some (some (.int (h5 29 j7)), (SH, (pm_up h5 29 j8 a1))))) := by
  have hM : pm_mt 70 = some mt_70 := rfl
  refine e_call (L := [some (.ref 1), some (.int a0), some (.int a1), none]) hM rfl rfl ?_
  refine e_iload_n (pc2 := 1) hM rfl rfl rfl ?_
  refine e_iconst (pc2 := 2) (v := nI 0) hM rfl rfl rfl ?_
  refine e_bipush (pc2 := 4) (v := nI 7) hM rfl rfl rfl rfl ?_
  refine e_csi (pc2 := 7) (As := [.int a0, .int (nI 0), .int (nI 7)]) (rest := []) hM rfl rfl rfl rfl rfl rfl rfl (fun x2 h1 => ?_)
  refine e_if_eq (pc2 := 10) (tgt := 20) hM rfl rfl rfl ?_ ?_
  · refine e_aload_n (pc2 := 21) hM rfl rfl rfl ?_
    refine e_ldc (pc2 := 23) (v := (-1000000001)) hM rfl rfl rfl ?_
    refine e_cvi (pc2 := 26) (k := 0) (As := [.ref 1, .int (-1000000001)]) (rest := []) hM rfl rfl rfl rfl rfl rfl rfl (fun x4 h3 => ?_)
    exact e_iret hM rfl rfl
  · refine e_iload_n (pc2 := 11) hM rfl rfl rfl ?_
    refine e_iconst (pc2 := 12) (v := nI 0) hM rfl rfl rfl ?_
    refine e_bipush (pc2 := 14) (v := nI 127) hM rfl rfl rfl rfl ?_
    refine e_csi (pc2 := 17) (As := [.int a1, .int (nI 0), .int (nI 127)]) (rest := []) hM rfl rfl rfl rfl rfl rfl rfl (fun x6 h5 => ?_)
    refine e_if_ne (pc2 := 20) (tgt := 27) hM rfl rfl rfl ?_ ?_
    · refine e_aload_n (pc2 := 28) hM rfl rfl rfl ?_
      refine e_getfr (pc2 := 31) (k := 0) (b := 29) hM rfl rfl rfl rfl rfl ?_
      refine e_getfr (pc2 := 34) (k := 28) (b := 30) hM rfl rfl rfl rfl rfl ?_
      refine e_iload_n (pc2 := 35) hM rfl rfl rfl ?_
      refine e_iald (pc2 := 36) (k := 29) (V := fun j7 => (h5 29 j7)) hM rfl rfl rfl (fun _ => rfl) (fun j7 => ?_)
      refine e_istore_n (pc2 := 37) (L2 := [some (.ref 1), some (.int a0), some (.int a1), some (.int (h5 29 j7))]) hM rfl rfl rfl rfl ?_
      refine e_aload_n (pc2 := 38) hM rfl rfl rfl ?_
      refine e_getfr (pc2 := 41) (k := 0) (b := 29) hM rfl rfl rfl rfl rfl ?_
      refine e_getfr (pc2 := 44) (k := 28) (b := 30) hM rfl rfl rfl rfl rfl ?_
      refine e_iload_n (pc2 := 45) hM rfl rfl rfl ?_
      refine e_iload_n (pc2 := 46) hM rfl rfl rfl ?_
      refine e_iast (pc2 := 47) (k := 29) hM rfl rfl rfl (fun j8 => ?_)
      refine e_iload_n (pc2 := 48) hM rfl rfl rfl ?_
      exact e_iret hM rfl rfl
    · refine e_aload_n (pc2 := 21) hM rfl rfl rfl ?_
      refine e_ldc (pc2 := 23) (v := (-1000000001)) hM rfl rfl rfl ?_
      refine e_cvi (pc2 := 26) (k := 0) (As := [.ref 1, .int (-1000000001)]) (rest := []) hM rfl rfl rfl rfl rfl rfl rfl (fun x10 h9 => ?_)
      exact e_iret hM rfl rfl
theorem qX7_order_0 {sl : Nat} {xs : Nat → Int32} {d : Nat} {a0 a1 : Int32} {h : pmH} : pm_cf (pm_Ev sl xs) (d + 2) 71 [.ref 1, .int a0, .int a1] (SH, h) = pm_ri (pm_cf (pm_Ev sl xs) (d + 1) 40 [.ref 8, .int a0] (SH, h)) SH fun x2 h1 => if x2 = 0 then (pm_ri (pm_cf (pm_Ev sl xs) (d + 1) 85 [.ref 1, .int (-1000000001)] (SH, h1)) SH fun x4 h3 => some (some (.int x4), (SH, h3))) else (pm_ri (pm_cf (pm_Ev sl xs) (d + 1) 40 [.ref 8, .int a1] (SH, h1)) SH fun x6 h5 => if x6 = 0 then (pm_ri (pm_cf (pm_Ev sl xs) (d + 1) 85 [.ref 1, .int (-1000000001)] (SH, h5)) SH fun x10 h9 => some (some (.int x10), (SH, h9))) else (pm_ri (pm_cf (pm_Ev sl xs) (d + 1) 30 [.ref 29, .int a0, .int a1] (SH, h5)) SH fun x8 h7 => some (some (.int x8), (SH, h7)))) := by
  have hM : pm_mt 71 = some mt_71 := rfl
  refine e_call (L := [some (.ref 1), some (.int a0), some (.int a1)]) hM rfl rfl ?_
  refine e_aload_n (pc2 := 1) hM rfl rfl rfl ?_
  refine e_getfr (pc2 := 4) (k := 0) (b := 8) hM rfl rfl rfl rfl rfl ?_
  refine e_iload_n (pc2 := 5) hM rfl rfl rfl ?_
  refine e_cvi (pc2 := 8) (k := 7) (As := [.ref 8, .int a0]) (rest := []) hM rfl rfl rfl rfl rfl rfl rfl (fun x2 h1 => ?_)
  refine e_if_eq (pc2 := 11) (tgt := 22) hM rfl rfl rfl ?_ ?_
  · refine e_aload_n (pc2 := 23) hM rfl rfl rfl ?_
    refine e_ldc (pc2 := 25) (v := (-1000000001)) hM rfl rfl rfl ?_
    refine e_cvi (pc2 := 28) (k := 0) (As := [.ref 1, .int (-1000000001)]) (rest := []) hM rfl rfl rfl rfl rfl rfl rfl (fun x4 h3 => ?_)
    exact e_iret hM rfl rfl
  · refine e_aload_n (pc2 := 12) hM rfl rfl rfl ?_
    refine e_getfr (pc2 := 15) (k := 0) (b := 8) hM rfl rfl rfl rfl rfl ?_
    refine e_iload_n (pc2 := 16) hM rfl rfl rfl ?_
    refine e_cvi (pc2 := 19) (k := 7) (As := [.ref 8, .int a1]) (rest := []) hM rfl rfl rfl rfl rfl rfl rfl (fun x6 h5 => ?_)
    refine e_if_ne (pc2 := 22) (tgt := 29) hM rfl rfl rfl ?_ ?_
    · refine e_aload_n (pc2 := 30) hM rfl rfl rfl ?_
      refine e_getfr (pc2 := 33) (k := 0) (b := 29) hM rfl rfl rfl rfl rfl ?_
      refine e_iload_n (pc2 := 34) hM rfl rfl rfl ?_
      refine e_iload_n (pc2 := 35) hM rfl rfl rfl ?_
      refine e_cvi (pc2 := 38) (k := 28) (As := [.ref 29, .int a0, .int a1]) (rest := []) hM rfl rfl rfl rfl rfl rfl rfl (fun x8 h7 => ?_)
      exact e_iret hM rfl rfl
    · refine e_aload_n (pc2 := 23) hM rfl rfl rfl ?_
      refine e_ldc (pc2 := 25) (v := (-1000000001)) hM rfl rfl rfl ?_
      refine e_cvi (pc2 := 28) (k := 0) (As := [.ref 1, .int (-1000000001)]) (rest := []) hM rfl rfl rfl rfl rfl rfl rfl (fun x10 h9 => ?_)
      exact e_iret hM rfl rfl
theorem qX7_plan_0 {sl : Nat} {xs : Nat → Int32} {d : Nat} {h : pmH} : pm_cf (pm_Ev sl xs) (d + 2) 72 [.ref 1] (SH, h) = pm_ri (pm_cf (pm_Ev sl xs) (d + 1) 31 [.ref 29] (SH, h)) SH fun x2 h1 => some (some (.int x2), (SH, h1)) := by
  have hM : pm_mt 72 = some mt_72 := rfl
  refine e_call (L := [some (.ref 1)]) hM rfl rfl ?_
  refine e_aload_n (pc2 := 1) hM rfl rfl rfl ?_
  refine e_getfr (pc2 := 4) (k := 0) (b := 29) hM rfl rfl rfl rfl rfl ?_
  refine e_cvi (pc2 := 7) (k := 28) (As := [.ref 29]) (rest := []) hM rfl rfl rfl rfl rfl rfl rfl (fun x2 h1 => ?_)
  exact e_iret hM rfl rfl
theorem qX7_hung_0 {sl : Nat} {xs : Nat → Int32} {d : Nat} {a0 a1 : Int32} {h : pmH} : pm_cf (pm_Ev sl xs) (d + 2) 73 [.ref 1, .int a0, .int a1] (SH, h) = pm_ri (pm_cf (pm_Ev sl xs) (d + 1) 40 [.ref 8, .int a0] (SH, h)) SH fun x2 h1 => if x2 = 0 then (pm_ri (pm_cf (pm_Ev sl xs) (d + 1) 85 [.ref 1, .int (-1000000001)] (SH, h1)) SH fun x4 h3 => some (some (.int x4), (SH, h3))) else (pm_ri (pm_cf (pm_Ev sl xs) (d + 1) 86 [.int a1, .int (nI 0), .int (nI 3)] (SH, h1)) SH fun x6 h5 => if x6 = 0 then (pm_ri (pm_cf (pm_Ev sl xs) (d + 1) 85 [.ref 1, .int (-1000000001)] (SH, h5)) SH fun x16 h15 => some (some (.int x16), (SH, h15))) else (pm_ri (pm_cf (pm_Ev sl xs) (d + 1) 31 [.ref 29] (SH, h5)) SH fun x8 h7 => if a1 = nI 0 then (pm_ix none a0 24 fun j14 => some (some (.int (h7 31 j14)), (SH, h7))) else (if a1 = nI 1 then (pm_ix none a0 24 fun j13 => some (some (.int (h7 32 j13)), (SH, h7))) else (if a1 = nI 2 then (pm_ri (pm_cf (pm_Ev sl xs) (d + 1) 29 [.ref 29, .int a0] (SH, h7)) SH fun x12 h11 => some (some (.int x12), (SH, h11))) else (pm_ri (pm_cf (pm_Ev sl xs) (d + 1) 48 [.ref 8, .int a0] (SH, h7)) SH fun x10 h9 => some (some (.int x10), (SH, h9))))))) := by
  have hM : pm_mt 73 = some mt_73 := rfl
  refine e_call (L := [some (.ref 1), some (.int a0), some (.int a1)]) hM rfl rfl ?_
  refine e_aload_n (pc2 := 1) hM rfl rfl rfl ?_
  refine e_getfr (pc2 := 4) (k := 0) (b := 8) hM rfl rfl rfl rfl rfl ?_
  refine e_iload_n (pc2 := 5) hM rfl rfl rfl ?_
  refine e_cvi (pc2 := 8) (k := 7) (As := [.ref 8, .int a0]) (rest := []) hM rfl rfl rfl rfl rfl rfl rfl (fun x2 h1 => ?_)
  refine e_if_eq (pc2 := 11) (tgt := 20) hM rfl rfl rfl ?_ ?_
  · refine e_aload_n (pc2 := 21) hM rfl rfl rfl ?_
    refine e_ldc (pc2 := 23) (v := (-1000000001)) hM rfl rfl rfl ?_
    refine e_cvi (pc2 := 26) (k := 0) (As := [.ref 1, .int (-1000000001)]) (rest := []) hM rfl rfl rfl rfl rfl rfl rfl (fun x4 h3 => ?_)
    exact e_iret hM rfl rfl
  · refine e_iload_n (pc2 := 12) hM rfl rfl rfl ?_
    refine e_iconst (pc2 := 13) (v := nI 0) hM rfl rfl rfl ?_
    refine e_iconst (pc2 := 14) (v := nI 3) hM rfl rfl rfl ?_
    refine e_csi (pc2 := 17) (As := [.int a1, .int (nI 0), .int (nI 3)]) (rest := []) hM rfl rfl rfl rfl rfl rfl rfl (fun x6 h5 => ?_)
    refine e_if_ne (pc2 := 20) (tgt := 27) hM rfl rfl rfl ?_ ?_
    · refine e_aload_n (pc2 := 28) hM rfl rfl rfl ?_
      refine e_getfr (pc2 := 31) (k := 0) (b := 29) hM rfl rfl rfl rfl rfl ?_
      refine e_cvi (pc2 := 34) (k := 28) (As := [.ref 29]) (rest := []) hM rfl rfl rfl rfl rfl rfl rfl (fun x8 h7 => ?_)
      refine e_pop (pc2 := 35) hM rfl rfl rfl ?_
      refine e_iload_n (pc2 := 36) hM rfl rfl rfl ?_
      refine e_switch hM rfl rfl ?_
      refine s_cons (tgt := 64) rfl ?_ ?_
      · refine e_aload_n (pc2 := 65) hM rfl rfl rfl ?_
        refine e_getfr (pc2 := 68) (k := 0) (b := 29) hM rfl rfl rfl rfl rfl ?_
        refine e_getfr (pc2 := 71) (k := 28) (b := 32) hM rfl rfl rfl rfl rfl ?_
        refine e_iload_n (pc2 := 72) hM rfl rfl rfl ?_
        refine e_iald (pc2 := 73) (k := 31) (V := fun j14 => (h7 31 j14)) hM rfl rfl rfl (fun _ => rfl) (fun j14 => ?_)
        exact e_iret hM rfl rfl
      refine s_cons (tgt := 74) rfl ?_ ?_
      · refine e_aload_n (pc2 := 75) hM rfl rfl rfl ?_
        refine e_getfr (pc2 := 78) (k := 0) (b := 29) hM rfl rfl rfl rfl rfl ?_
        refine e_getfr (pc2 := 81) (k := 28) (b := 33) hM rfl rfl rfl rfl rfl ?_
        refine e_iload_n (pc2 := 82) hM rfl rfl rfl ?_
        refine e_iald (pc2 := 83) (k := 32) (V := fun j13 => (h7 32 j13)) hM rfl rfl rfl (fun _ => rfl) (fun j13 => ?_)
        exact e_iret hM rfl rfl
      refine s_cons (tgt := 84) rfl ?_ ?_
      · refine e_aload_n (pc2 := 85) hM rfl rfl rfl ?_
        refine e_getfr (pc2 := 88) (k := 0) (b := 29) hM rfl rfl rfl rfl rfl ?_
        refine e_iload_n (pc2 := 89) hM rfl rfl rfl ?_
        refine e_cvi (pc2 := 92) (k := 28) (As := [.ref 29, .int a0]) (rest := []) hM rfl rfl rfl rfl rfl rfl rfl (fun x12 h11 => ?_)
        exact e_iret hM rfl rfl
      refine s_nil (tgt := 93) rfl ?_
      refine e_aload_n (pc2 := 94) hM rfl rfl rfl ?_
      refine e_getfr (pc2 := 97) (k := 0) (b := 8) hM rfl rfl rfl rfl rfl ?_
      refine e_iload_n (pc2 := 98) hM rfl rfl rfl ?_
      refine e_cvi (pc2 := 101) (k := 7) (As := [.ref 8, .int a0]) (rest := []) hM rfl rfl rfl rfl rfl rfl rfl (fun x10 h9 => ?_)
      exact e_iret hM rfl rfl
    · refine e_aload_n (pc2 := 21) hM rfl rfl rfl ?_
      refine e_ldc (pc2 := 23) (v := (-1000000001)) hM rfl rfl rfl ?_
      refine e_cvi (pc2 := 26) (k := 0) (As := [.ref 1, .int (-1000000001)]) (rest := []) hM rfl rfl rfl rfl rfl rfl rfl (fun x16 h15 => ?_)
      exact e_iret hM rfl rfl
theorem qX7_best_0 {sl : Nat} {xs : Nat → Int32} {d : Nat} {h : pmH} : pm_cf (pm_Ev sl xs) (d + 2) 74 [.ref 1] (SH, h) = if (h 7 0) ≤ (nI 6) then (pm_ri (pm_cf (pm_Ev sl xs) (d + 1) 36 [.ref 29] (SH, h)) SH fun x2 h1 => some (some (.int x2), (SH, h1))) else (pm_ri (pm_cf (pm_Ev sl xs) (d + 1) 85 [.ref 1, .int (-1000000003)] (SH, h)) SH fun x4 h3 => some (some (.int x4), (SH, h3))) := by
  have hM : pm_mt 74 = some mt_74 := rfl
  refine e_call (L := [some (.ref 1)]) hM rfl rfl ?_
  refine e_aload_n (pc2 := 1) hM rfl rfl rfl ?_
  refine e_getfr (pc2 := 4) (k := 0) (b := 8) hM rfl rfl rfl rfl rfl ?_
  refine e_getfi (pc2 := 7) (k := 7) (v := (h 7 0)) hM rfl rfl rfl rfl rfl rfl ?_
  refine e_bipush (pc2 := 9) (v := nI 6) hM rfl rfl rfl rfl ?_
  refine e_icmp_le (pc2 := 12) (tgt := 19) hM rfl rfl rfl ?_ ?_
  · refine e_aload_n (pc2 := 20) hM rfl rfl rfl ?_
    refine e_getfr (pc2 := 23) (k := 0) (b := 29) hM rfl rfl rfl rfl rfl ?_
    refine e_cvi (pc2 := 26) (k := 28) (As := [.ref 29]) (rest := []) hM rfl rfl rfl rfl rfl rfl rfl (fun x2 h1 => ?_)
    exact e_iret hM rfl rfl
  · refine e_aload_n (pc2 := 13) hM rfl rfl rfl ?_
    refine e_ldc (pc2 := 15) (v := (-1000000003)) hM rfl rfl rfl ?_
    refine e_cvi (pc2 := 18) (k := 0) (As := [.ref 1, .int (-1000000003)]) (rest := []) hM rfl rfl rfl rfl rfl rfl rfl (fun x4 h3 => ?_)
    exact e_iret hM rfl rfl
theorem qX7_front_0 {sl : Nat} {xs : Nat → Int32} {d : Nat} {a0 a1 : Int32} {h : pmH} : pm_cf (pm_Ev sl xs) (d + 2) 75 [.ref 1, .int a0, .int a1] (SH, h) = pm_ri (pm_cf (pm_Ev sl xs) (d + 1) 86 [.int a0, .int (nI 0), .int (nI 7)] (SH, h)) SH fun x2 h1 => if x2 = 0 then (pm_ri (pm_cf (pm_Ev sl xs) (d + 1) 85 [.ref 1, .int (-1000000001)] (SH, h1)) SH fun x4 h3 => some (some (.int x4), (SH, h3))) else (pm_ri (pm_cf (pm_Ev sl xs) (d + 1) 86 [.int a1, .int (nI 0), .int (nI 1000)] (SH, h1)) SH fun x6 h5 => if x6 = 0 then (pm_ri (pm_cf (pm_Ev sl xs) (d + 1) 85 [.ref 1, .int (-1000000001)] (SH, h5)) SH fun x10 h9 => some (some (.int x10), (SH, h9))) else (pm_ix none a0 8 fun j7 => pm_ix none a0 8 fun j8 => some (some (.int (h5 36 j7)), (SH, (pm_up h5 36 j8 a1))))) := by
  have hM : pm_mt 75 = some mt_75 := rfl
  refine e_call (L := [some (.ref 1), some (.int a0), some (.int a1), none]) hM rfl rfl ?_
  refine e_iload_n (pc2 := 1) hM rfl rfl rfl ?_
  refine e_iconst (pc2 := 2) (v := nI 0) hM rfl rfl rfl ?_
  refine e_bipush (pc2 := 4) (v := nI 7) hM rfl rfl rfl rfl ?_
  refine e_csi (pc2 := 7) (As := [.int a0, .int (nI 0), .int (nI 7)]) (rest := []) hM rfl rfl rfl rfl rfl rfl rfl (fun x2 h1 => ?_)
  refine e_if_eq (pc2 := 10) (tgt := 21) hM rfl rfl rfl ?_ ?_
  · refine e_aload_n (pc2 := 22) hM rfl rfl rfl ?_
    refine e_ldc (pc2 := 24) (v := (-1000000001)) hM rfl rfl rfl ?_
    refine e_cvi (pc2 := 27) (k := 0) (As := [.ref 1, .int (-1000000001)]) (rest := []) hM rfl rfl rfl rfl rfl rfl rfl (fun x4 h3 => ?_)
    exact e_iret hM rfl rfl
  · refine e_iload_n (pc2 := 11) hM rfl rfl rfl ?_
    refine e_iconst (pc2 := 12) (v := nI 0) hM rfl rfl rfl ?_
    refine e_sipush (pc2 := 15) (v := nI 1000) hM rfl rfl rfl rfl ?_
    refine e_csi (pc2 := 18) (As := [.int a1, .int (nI 0), .int (nI 1000)]) (rest := []) hM rfl rfl rfl rfl rfl rfl rfl (fun x6 h5 => ?_)
    refine e_if_ne (pc2 := 21) (tgt := 28) hM rfl rfl rfl ?_ ?_
    · refine e_aload_n (pc2 := 29) hM rfl rfl rfl ?_
      refine e_getfr (pc2 := 32) (k := 0) (b := 36) hM rfl rfl rfl rfl rfl ?_
      refine e_getfr (pc2 := 35) (k := 35) (b := 37) hM rfl rfl rfl rfl rfl ?_
      refine e_iload_n (pc2 := 36) hM rfl rfl rfl ?_
      refine e_iald (pc2 := 37) (k := 36) (V := fun j7 => (h5 36 j7)) hM rfl rfl rfl (fun _ => rfl) (fun j7 => ?_)
      refine e_istore_n (pc2 := 38) (L2 := [some (.ref 1), some (.int a0), some (.int a1), some (.int (h5 36 j7))]) hM rfl rfl rfl rfl ?_
      refine e_aload_n (pc2 := 39) hM rfl rfl rfl ?_
      refine e_getfr (pc2 := 42) (k := 0) (b := 36) hM rfl rfl rfl rfl rfl ?_
      refine e_getfr (pc2 := 45) (k := 35) (b := 37) hM rfl rfl rfl rfl rfl ?_
      refine e_iload_n (pc2 := 46) hM rfl rfl rfl ?_
      refine e_iload_n (pc2 := 47) hM rfl rfl rfl ?_
      refine e_iast (pc2 := 48) (k := 36) hM rfl rfl rfl (fun j8 => ?_)
      refine e_iload_n (pc2 := 49) hM rfl rfl rfl ?_
      exact e_iret hM rfl rfl
    · refine e_aload_n (pc2 := 22) hM rfl rfl rfl ?_
      refine e_ldc (pc2 := 24) (v := (-1000000001)) hM rfl rfl rfl ?_
      refine e_cvi (pc2 := 27) (k := 0) (As := [.ref 1, .int (-1000000001)]) (rest := []) hM rfl rfl rfl rfl rfl rfl rfl (fun x10 h9 => ?_)
      exact e_iret hM rfl rfl
theorem qX7_part_0 {sl : Nat} {xs : Nat → Int32} {d : Nat} {a0 : Int32} {h : pmH} : pm_cf (pm_Ev sl xs) (d + 2) 76 [.ref 1, .int a0] (SH, h) = pm_ri (pm_cf (pm_Ev sl xs) (d + 1) 86 [.int a0, .int (nI 0), .int (nI 100)] (SH, h)) SH fun x2 h1 => if x2 = 0 then (pm_ri (pm_cf (pm_Ev sl xs) (d + 1) 85 [.ref 1, .int (-1000000001)] (SH, h1)) SH fun x4 h3 => some (some (.int x4), (SH, h3))) else (some (some (.int (h1 35 1)), (SH, (pm_up h1 35 1 a0)))) := by
  have hM : pm_mt 76 = some mt_76 := rfl
  refine e_call (L := [some (.ref 1), some (.int a0), none]) hM rfl rfl ?_
  refine e_iload_n (pc2 := 1) hM rfl rfl rfl ?_
  refine e_iconst (pc2 := 2) (v := nI 0) hM rfl rfl rfl ?_
  refine e_bipush (pc2 := 4) (v := nI 100) hM rfl rfl rfl rfl ?_
  refine e_csi (pc2 := 7) (As := [.int a0, .int (nI 0), .int (nI 100)]) (rest := []) hM rfl rfl rfl rfl rfl rfl rfl (fun x2 h1 => ?_)
  refine e_if_ne (pc2 := 10) (tgt := 17) hM rfl rfl rfl ?_ ?_
  · refine e_aload_n (pc2 := 18) hM rfl rfl rfl ?_
    refine e_getfr (pc2 := 21) (k := 0) (b := 36) hM rfl rfl rfl rfl rfl ?_
    refine e_getfi (pc2 := 24) (k := 35) (v := (h1 35 1)) hM rfl rfl rfl rfl rfl rfl ?_
    refine e_istore_n (pc2 := 25) (L2 := [some (.ref 1), some (.int a0), some (.int (h1 35 1))]) hM rfl rfl rfl rfl ?_
    refine e_aload_n (pc2 := 26) hM rfl rfl rfl ?_
    refine e_getfr (pc2 := 29) (k := 0) (b := 36) hM rfl rfl rfl rfl rfl ?_
    refine e_iload_n (pc2 := 30) hM rfl rfl rfl ?_
    refine e_putf (pc2 := 33) (k := 35) hM rfl rfl rfl rfl rfl rfl ?_
    refine e_iload_n (pc2 := 34) hM rfl rfl rfl ?_
    exact e_iret hM rfl rfl
  · refine e_aload_n (pc2 := 11) hM rfl rfl rfl ?_
    refine e_ldc (pc2 := 13) (v := (-1000000001)) hM rfl rfl rfl ?_
    refine e_cvi (pc2 := 16) (k := 0) (As := [.ref 1, .int (-1000000001)]) (rest := []) hM rfl rfl rfl rfl rfl rfl rfl (fun x4 h3 => ?_)
    exact e_iret hM rfl rfl
theorem qX7_share_0 {sl : Nat} {xs : Nat → Int32} {d : Nat} {a0 a1 : Int32} {h : pmH} : pm_cf (pm_Ev sl xs) (d + 2) 77 [.ref 1, .int a0, .int a1] (SH, h) = pm_ri (pm_cf (pm_Ev sl xs) (d + 1) 86 [.int a0, .int (-nI 1), .int (nI 7)] (SH, h)) SH fun x2 h1 => if x2 = 0 then (pm_ri (pm_cf (pm_Ev sl xs) (d + 1) 85 [.ref 1, .int (-1000000001)] (SH, h1)) SH fun x4 h3 => some (some (.int x4), (SH, h3))) else (pm_ri (pm_cf (pm_Ev sl xs) (d + 1) 86 [.int a1, .int (nI 0), .int 1000000] (SH, h1)) SH fun x6 h5 => if x6 = 0 then (pm_ri (pm_cf (pm_Ev sl xs) (d + 1) 85 [.ref 1, .int (-1000000001)] (SH, h5)) SH fun x12 h11 => some (some (.int x12), (SH, h11))) else (if 0 ≤ a0 then (pm_ri (pm_cf (pm_Ev sl xs) (d + 1) 3 [.ref 36, .int a0, .int a1] (SH, h5)) SH fun x8 h7 => some (some (.int x8), (SH, h7))) else (pm_ri (pm_cf (pm_Ev sl xs) (d + 1) 2 [.ref 36, .int a1] (SH, h5)) SH fun x10 h9 => some (some (.int x10), (SH, h9))))) := by
  have hM : pm_mt 77 = some mt_77 := rfl
  refine e_call (L := [some (.ref 1), some (.int a0), some (.int a1)]) hM rfl rfl ?_
  refine e_iload_n (pc2 := 1) hM rfl rfl rfl ?_
  refine e_iconst (pc2 := 2) (v := -nI 1) hM rfl rfl rfl ?_
  refine e_bipush (pc2 := 4) (v := nI 7) hM rfl rfl rfl rfl ?_
  refine e_csi (pc2 := 7) (As := [.int a0, .int (-nI 1), .int (nI 7)]) (rest := []) hM rfl rfl rfl rfl rfl rfl rfl (fun x2 h1 => ?_)
  refine e_if_eq (pc2 := 10) (tgt := 20) hM rfl rfl rfl ?_ ?_
  · refine e_aload_n (pc2 := 21) hM rfl rfl rfl ?_
    refine e_ldc (pc2 := 23) (v := (-1000000001)) hM rfl rfl rfl ?_
    refine e_cvi (pc2 := 26) (k := 0) (As := [.ref 1, .int (-1000000001)]) (rest := []) hM rfl rfl rfl rfl rfl rfl rfl (fun x4 h3 => ?_)
    exact e_iret hM rfl rfl
  · refine e_iload_n (pc2 := 11) hM rfl rfl rfl ?_
    refine e_iconst (pc2 := 12) (v := nI 0) hM rfl rfl rfl ?_
    refine e_ldc (pc2 := 14) (v := 1000000) hM rfl rfl rfl ?_
    refine e_csi (pc2 := 17) (As := [.int a1, .int (nI 0), .int 1000000]) (rest := []) hM rfl rfl rfl rfl rfl rfl rfl (fun x6 h5 => ?_)
    refine e_if_ne (pc2 := 20) (tgt := 27) hM rfl rfl rfl ?_ ?_
    · refine e_iload_n (pc2 := 28) hM rfl rfl rfl ?_
      refine e_if_ge (pc2 := 31) (tgt := 42) hM rfl rfl rfl ?_ ?_
      · refine e_aload_n (pc2 := 43) hM rfl rfl rfl ?_
        refine e_getfr (pc2 := 46) (k := 0) (b := 36) hM rfl rfl rfl rfl rfl ?_
        refine e_iload_n (pc2 := 47) hM rfl rfl rfl ?_
        refine e_iload_n (pc2 := 48) hM rfl rfl rfl ?_
        refine e_cvi (pc2 := 51) (k := 35) (As := [.ref 36, .int a0, .int a1]) (rest := []) hM rfl rfl rfl rfl rfl rfl rfl (fun x8 h7 => ?_)
        exact e_iret hM rfl rfl
      · refine e_aload_n (pc2 := 32) hM rfl rfl rfl ?_
        refine e_getfr (pc2 := 35) (k := 0) (b := 36) hM rfl rfl rfl rfl rfl ?_
        refine e_iload_n (pc2 := 36) hM rfl rfl rfl ?_
        refine e_cvi (pc2 := 39) (k := 35) (As := [.ref 36, .int a1]) (rest := []) hM rfl rfl rfl rfl rfl rfl rfl (fun x10 h9 => ?_)
        refine e_goto (tgt := 51) hM rfl rfl ?_
        exact e_iret hM rfl rfl
    · refine e_aload_n (pc2 := 21) hM rfl rfl rfl ?_
      refine e_ldc (pc2 := 23) (v := (-1000000001)) hM rfl rfl rfl ?_
      refine e_cvi (pc2 := 26) (k := 0) (As := [.ref 1, .int (-1000000001)]) (rest := []) hM rfl rfl rfl rfl rfl rfl rfl (fun x12 h11 => ?_)
      exact e_iret hM rfl rfl
theorem qX7_lamp_0 {sl : Nat} {xs : Nat → Int32} {d : Nat} {a0 a1 : Int32} {h : pmH} : pm_cf (pm_Ev sl xs) (d + 2) 78 [.ref 1, .int a0, .int a1] (SH, h) = pm_ri (pm_cf (pm_Ev sl xs) (d + 1) 41 [.ref 8, .int a0, .int a1] (SH, h)) SH fun x2 h1 => if x2 = 0 then (pm_ri (pm_cf (pm_Ev sl xs) (d + 1) 85 [.ref 1, .int (-1000000001)] (SH, h1)) SH fun x6 h5 => some (some (.int x6), (SH, h5))) else (pm_ri (pm_cf (pm_Ev sl xs) (d + 1) 43 [.ref 8, .int a0, .int a1] (SH, h1)) SH fun x4 h3 => some (some (.int x4), (SH, h3))) := by
  have hM : pm_mt 78 = some mt_78 := rfl
  refine e_call (L := [some (.ref 1), some (.int a0), some (.int a1)]) hM rfl rfl ?_
  refine e_aload_n (pc2 := 1) hM rfl rfl rfl ?_
  refine e_getfr (pc2 := 4) (k := 0) (b := 8) hM rfl rfl rfl rfl rfl ?_
  refine e_iload_n (pc2 := 5) hM rfl rfl rfl ?_
  refine e_iload_n (pc2 := 6) hM rfl rfl rfl ?_
  refine e_cvi (pc2 := 9) (k := 7) (As := [.ref 8, .int a0, .int a1]) (rest := []) hM rfl rfl rfl rfl rfl rfl rfl (fun x2 h1 => ?_)
  refine e_if_ne (pc2 := 12) (tgt := 19) hM rfl rfl rfl ?_ ?_
  · refine e_aload_n (pc2 := 20) hM rfl rfl rfl ?_
    refine e_getfr (pc2 := 23) (k := 0) (b := 8) hM rfl rfl rfl rfl rfl ?_
    refine e_iload_n (pc2 := 24) hM rfl rfl rfl ?_
    refine e_iload_n (pc2 := 25) hM rfl rfl rfl ?_
    refine e_cvi (pc2 := 28) (k := 7) (As := [.ref 8, .int a0, .int a1]) (rest := []) hM rfl rfl rfl rfl rfl rfl rfl (fun x4 h3 => ?_)
    exact e_iret hM rfl rfl
  · refine e_aload_n (pc2 := 13) hM rfl rfl rfl ?_
    refine e_ldc (pc2 := 15) (v := (-1000000001)) hM rfl rfl rfl ?_
    refine e_cvi (pc2 := 18) (k := 0) (As := [.ref 1, .int (-1000000001)]) (rest := []) hM rfl rfl rfl rfl rfl rfl rfl (fun x6 h5 => ?_)
    exact e_iret hM rfl rfl
theorem qX7_replace_0 {sl : Nat} {xs : Nat → Int32} {d : Nat} {a0 a1 : Int32} {h : pmH} : pm_cf (pm_Ev sl xs) (d + 2) 79 [.ref 1, .int a0, .int a1] (SH, h) = pm_ri (pm_cf (pm_Ev sl xs) (d + 1) 41 [.ref 8, .int a0, .int a1] (SH, h)) SH fun x2 h1 => if x2 = 0 then (pm_ri (pm_cf (pm_Ev sl xs) (d + 1) 85 [.ref 1, .int (-1000000001)] (SH, h1)) SH fun x14 h13 => some (some (.int x14), (SH, h13))) else (pm_ri (pm_cf (pm_Ev sl xs) (d + 1) 15 [.ref 3] (SH, h1)) SH fun x4 h3 => if x4 = 0 then (pm_ri (pm_cf (pm_Ev sl xs) (d + 1) 85 [.ref 1, .int (-1000000003)] (SH, h3)) SH fun x12 h11 => some (some (.int x12), (SH, h11))) else (pm_ri (pm_cf (pm_Ev sl xs) (d + 1) 16 [.ref 3] (SH, h3)) SH fun x6 h5 => pm_ri (pm_cf (pm_Ev sl xs) (d + 1) 43 [.ref 8, .int a0, .int a1] (SH, h5)) SH fun x8 h7 => pm_rv (pm_cf (pm_Ev sl xs) (d + 1) 17 [.ref 3, .int x8] (SH, h7)) SH fun h9 => pm_rv (pm_cf (pm_Ev sl xs) (d + 1) 44 [.ref 8, .int a0, .int a1, .int x6] (SH, h9)) SH fun h10 => some (some (.int x6), (SH, h10)))) := by
  have hM : pm_mt 79 = some mt_79 := rfl
  refine e_call (L := [some (.ref 1), some (.int a0), some (.int a1), none]) hM rfl rfl ?_
  refine e_aload_n (pc2 := 1) hM rfl rfl rfl ?_
  refine e_getfr (pc2 := 4) (k := 0) (b := 8) hM rfl rfl rfl rfl rfl ?_
  refine e_iload_n (pc2 := 5) hM rfl rfl rfl ?_
  refine e_iload_n (pc2 := 6) hM rfl rfl rfl ?_
  refine e_cvi (pc2 := 9) (k := 7) (As := [.ref 8, .int a0, .int a1]) (rest := []) hM rfl rfl rfl rfl rfl rfl rfl (fun x2 h1 => ?_)
  refine e_if_ne (pc2 := 12) (tgt := 19) hM rfl rfl rfl ?_ ?_
  · refine e_aload_n (pc2 := 20) hM rfl rfl rfl ?_
    refine e_getfr (pc2 := 23) (k := 0) (b := 3) hM rfl rfl rfl rfl rfl ?_
    refine e_cvi (pc2 := 26) (k := 2) (As := [.ref 3]) (rest := []) hM rfl rfl rfl rfl rfl rfl rfl (fun x4 h3 => ?_)
    refine e_if_ne (pc2 := 29) (tgt := 36) hM rfl rfl rfl ?_ ?_
    · refine e_aload_n (pc2 := 37) hM rfl rfl rfl ?_
      refine e_getfr (pc2 := 40) (k := 0) (b := 3) hM rfl rfl rfl rfl rfl ?_
      refine e_cvi (pc2 := 43) (k := 2) (As := [.ref 3]) (rest := []) hM rfl rfl rfl rfl rfl rfl rfl (fun x6 h5 => ?_)
      refine e_istore_n (pc2 := 44) (L2 := [some (.ref 1), some (.int a0), some (.int a1), some (.int x6)]) hM rfl rfl rfl rfl ?_
      refine e_aload_n (pc2 := 45) hM rfl rfl rfl ?_
      refine e_getfr (pc2 := 48) (k := 0) (b := 3) hM rfl rfl rfl rfl rfl ?_
      refine e_aload_n (pc2 := 49) hM rfl rfl rfl ?_
      refine e_getfr (pc2 := 52) (k := 0) (b := 8) hM rfl rfl rfl rfl rfl ?_
      refine e_iload_n (pc2 := 53) hM rfl rfl rfl ?_
      refine e_iload_n (pc2 := 54) hM rfl rfl rfl ?_
      refine e_cvi (pc2 := 57) (k := 7) (As := [.ref 8, .int a0, .int a1]) (rest := [.ref 3]) hM rfl rfl rfl rfl rfl rfl rfl (fun x8 h7 => ?_)
      refine e_cvv (pc2 := 60) (k := 2) (As := [.ref 3, .int x8]) (rest := []) hM rfl rfl rfl rfl rfl rfl rfl (fun h9 => ?_)
      refine e_aload_n (pc2 := 61) hM rfl rfl rfl ?_
      refine e_getfr (pc2 := 64) (k := 0) (b := 8) hM rfl rfl rfl rfl rfl ?_
      refine e_iload_n (pc2 := 65) hM rfl rfl rfl ?_
      refine e_iload_n (pc2 := 66) hM rfl rfl rfl ?_
      refine e_iload_n (pc2 := 67) hM rfl rfl rfl ?_
      refine e_cvv (pc2 := 70) (k := 7) (As := [.ref 8, .int a0, .int a1, .int x6]) (rest := []) hM rfl rfl rfl rfl rfl rfl rfl (fun h10 => ?_)
      refine e_iload_n (pc2 := 71) hM rfl rfl rfl ?_
      exact e_iret hM rfl rfl
    · refine e_aload_n (pc2 := 30) hM rfl rfl rfl ?_
      refine e_ldc (pc2 := 32) (v := (-1000000003)) hM rfl rfl rfl ?_
      refine e_cvi (pc2 := 35) (k := 0) (As := [.ref 1, .int (-1000000003)]) (rest := []) hM rfl rfl rfl rfl rfl rfl rfl (fun x12 h11 => ?_)
      exact e_iret hM rfl rfl
  · refine e_aload_n (pc2 := 13) hM rfl rfl rfl ?_
    refine e_ldc (pc2 := 15) (v := (-1000000001)) hM rfl rfl rfl ?_
    refine e_cvi (pc2 := 18) (k := 0) (As := [.ref 1, .int (-1000000001)]) (rest := []) hM rfl rfl rfl rfl rfl rfl rfl (fun x14 h13 => ?_)
    exact e_iret hM rfl rfl
theorem qX7_box_0 {sl : Nat} {xs : Nat → Int32} {d : Nat} {a0 a1 : Int32} {h : pmH} : pm_cf (pm_Ev sl xs) (d + 2) 80 [.ref 1, .int a0, .int a1] (SH, h) = pm_ri (pm_cf (pm_Ev sl xs) (d + 1) 13 [.ref 3, .int a0] (SH, h)) SH fun x2 h1 => if x2 = 0 then (pm_ri (pm_cf (pm_Ev sl xs) (d + 1) 85 [.ref 1, .int (-1000000001)] (SH, h1)) SH fun x10 h9 => some (some (.int x10), (SH, h9))) else (if a1 = nI 0 then (pm_ix none a0 12 fun j8 => some (some (.int (h1 3 j8)), (SH, h1))) else (if a1 = nI 1 then (pm_ix none a0 12 fun j7 => some (some (.int (h1 4 j7)), (SH, h1))) else (if a1 = nI 2 then (pm_ix none a0 12 fun j6 => some (some (.int (h1 5 j6)), (SH, h1))) else (if a1 = nI 3 then (pm_ix none a0 12 fun j5 => some (some (.int (h1 6 j5)), (SH, h1))) else (pm_ri (pm_cf (pm_Ev sl xs) (d + 1) 85 [.ref 1, .int (-1000000001)] (SH, h1)) SH fun x4 h3 => some (some (.int x4), (SH, h3))))))) := by
  have hM : pm_mt 80 = some mt_80 := rfl
  refine e_call (L := [some (.ref 1), some (.int a0), some (.int a1)]) hM rfl rfl ?_
  refine e_aload_n (pc2 := 1) hM rfl rfl rfl ?_
  refine e_getfr (pc2 := 4) (k := 0) (b := 3) hM rfl rfl rfl rfl rfl ?_
  refine e_iload_n (pc2 := 5) hM rfl rfl rfl ?_
  refine e_cvi (pc2 := 8) (k := 2) (As := [.ref 3, .int a0]) (rest := []) hM rfl rfl rfl rfl rfl rfl rfl (fun x2 h1 => ?_)
  refine e_if_ne (pc2 := 11) (tgt := 18) hM rfl rfl rfl ?_ ?_
  · refine e_iload_n (pc2 := 19) hM rfl rfl rfl ?_
    refine e_switch hM rfl rfl ?_
    refine s_cons (tgt := 48) rfl ?_ ?_
    · refine e_aload_n (pc2 := 49) hM rfl rfl rfl ?_
      refine e_getfr (pc2 := 52) (k := 0) (b := 3) hM rfl rfl rfl rfl rfl ?_
      refine e_getfr (pc2 := 55) (k := 2) (b := 4) hM rfl rfl rfl rfl rfl ?_
      refine e_iload_n (pc2 := 56) hM rfl rfl rfl ?_
      refine e_iald (pc2 := 57) (k := 3) (V := fun j8 => (h1 3 j8)) hM rfl rfl rfl (fun _ => rfl) (fun j8 => ?_)
      exact e_iret hM rfl rfl
    refine s_cons (tgt := 58) rfl ?_ ?_
    · refine e_aload_n (pc2 := 59) hM rfl rfl rfl ?_
      refine e_getfr (pc2 := 62) (k := 0) (b := 3) hM rfl rfl rfl rfl rfl ?_
      refine e_getfr (pc2 := 65) (k := 2) (b := 5) hM rfl rfl rfl rfl rfl ?_
      refine e_iload_n (pc2 := 66) hM rfl rfl rfl ?_
      refine e_iald (pc2 := 67) (k := 4) (V := fun j7 => (h1 4 j7)) hM rfl rfl rfl (fun _ => rfl) (fun j7 => ?_)
      exact e_iret hM rfl rfl
    refine s_cons (tgt := 68) rfl ?_ ?_
    · refine e_aload_n (pc2 := 69) hM rfl rfl rfl ?_
      refine e_getfr (pc2 := 72) (k := 0) (b := 3) hM rfl rfl rfl rfl rfl ?_
      refine e_getfr (pc2 := 75) (k := 2) (b := 6) hM rfl rfl rfl rfl rfl ?_
      refine e_iload_n (pc2 := 76) hM rfl rfl rfl ?_
      refine e_iald (pc2 := 77) (k := 5) (V := fun j6 => (h1 5 j6)) hM rfl rfl rfl (fun _ => rfl) (fun j6 => ?_)
      exact e_iret hM rfl rfl
    refine s_cons (tgt := 78) rfl ?_ ?_
    · refine e_aload_n (pc2 := 79) hM rfl rfl rfl ?_
      refine e_getfr (pc2 := 82) (k := 0) (b := 3) hM rfl rfl rfl rfl rfl ?_
      refine e_getfr (pc2 := 85) (k := 2) (b := 7) hM rfl rfl rfl rfl rfl ?_
      refine e_iload_n (pc2 := 86) hM rfl rfl rfl ?_
      refine e_iald (pc2 := 87) (k := 6) (V := fun j5 => (h1 6 j5)) hM rfl rfl rfl (fun _ => rfl) (fun j5 => ?_)
      exact e_iret hM rfl rfl
    refine s_nil (tgt := 88) rfl ?_
    refine e_aload_n (pc2 := 89) hM rfl rfl rfl ?_
    refine e_ldc (pc2 := 91) (v := (-1000000001)) hM rfl rfl rfl ?_
    refine e_cvi (pc2 := 94) (k := 0) (As := [.ref 1, .int (-1000000001)]) (rest := []) hM rfl rfl rfl rfl rfl rfl rfl (fun x4 h3 => ?_)
    exact e_iret hM rfl rfl
  · refine e_aload_n (pc2 := 12) hM rfl rfl rfl ?_
    refine e_ldc (pc2 := 14) (v := (-1000000001)) hM rfl rfl rfl ?_
    refine e_cvi (pc2 := 17) (k := 0) (As := [.ref 1, .int (-1000000001)]) (rest := []) hM rfl rfl rfl rfl rfl rfl rfl (fun x10 h9 => ?_)
    exact e_iret hM rfl rfl
theorem qX7_tell_0 {sl : Nat} {xs : Nat → Int32} {d : Nat} {a0 : Int32} {h : pmH} : pm_cf (pm_Ev sl xs) (d + 2) 81 [.ref 1, .int a0] (SH, h) = if (h 37 0) < (nI 24) then (pm_ri (pm_cf (pm_Ev sl xs) (d + 1) 51 [.ref 38, .int a0] (SH, h)) SH fun x2 h1 => some (some (.int x2), (SH, h1))) else (pm_ri (pm_cf (pm_Ev sl xs) (d + 1) 85 [.ref 1, .int (-1000000004)] (SH, h)) SH fun x4 h3 => some (some (.int x4), (SH, h3))) := by
  have hM : pm_mt 81 = some mt_81 := rfl
  refine e_call (L := [some (.ref 1), some (.int a0)]) hM rfl rfl ?_
  refine e_aload_n (pc2 := 1) hM rfl rfl rfl ?_
  refine e_getfr (pc2 := 4) (k := 0) (b := 38) hM rfl rfl rfl rfl rfl ?_
  refine e_getfi (pc2 := 7) (k := 37) (v := (h 37 0)) hM rfl rfl rfl rfl rfl rfl ?_
  refine e_bipush (pc2 := 9) (v := nI 24) hM rfl rfl rfl rfl ?_
  refine e_icmp_lt (pc2 := 12) (tgt := 19) hM rfl rfl rfl ?_ ?_
  · refine e_aload_n (pc2 := 20) hM rfl rfl rfl ?_
    refine e_getfr (pc2 := 23) (k := 0) (b := 38) hM rfl rfl rfl rfl rfl ?_
    refine e_iload_n (pc2 := 24) hM rfl rfl rfl ?_
    refine e_cvi (pc2 := 27) (k := 37) (As := [.ref 38, .int a0]) (rest := []) hM rfl rfl rfl rfl rfl rfl rfl (fun x2 h1 => ?_)
    exact e_iret hM rfl rfl
  · refine e_aload_n (pc2 := 13) hM rfl rfl rfl ?_
    refine e_ldc (pc2 := 15) (v := (-1000000004)) hM rfl rfl rfl ?_
    refine e_cvi (pc2 := 18) (k := 0) (As := [.ref 1, .int (-1000000004)]) (rest := []) hM rfl rfl rfl rfl rfl rfl rfl (fun x4 h3 => ?_)
    exact e_iret hM rfl rfl
theorem qX7_check_0 {sl : Nat} {xs : Nat → Int32} {d : Nat} {h : pmH} : pm_cf (pm_Ev sl xs) (d + 2) 82 [.ref 1] (SH, h) = pm_ri (pm_cf (pm_Ev sl xs) (d + 1) 19 [.ref 27] (SH, h)) SH fun x2 h1 => if x2 = 0 then (pm_ri (pm_cf (pm_Ev sl xs) (d + 1) 85 [.ref 1, .int (-1000000002)] (SH, h1)) SH fun x4 h3 => some (some (.int x4), (SH, (pm_up h3 37 0 (nI 0))))) else (pm_ri (pm_cf (pm_Ev sl xs) (d + 1) 25 [.ref 27] (SH, h1)) SH fun x6 h5 => pm_ri (pm_cf (pm_Ev sl xs) (d + 1) 52 [.ref 38, .int x6] (SH, h5)) SH fun x8 h7 => some (some (.int x8), (SH, (pm_up h7 37 0 (nI 0))))) := by
  have hM : pm_mt 82 = some mt_82 := rfl
  refine e_call (L := [some (.ref 1), none, none]) hM rfl rfl ?_
  refine e_aload_n (pc2 := 1) hM rfl rfl rfl ?_
  refine e_getfr (pc2 := 4) (k := 0) (b := 27) hM rfl rfl rfl rfl rfl ?_
  refine e_cvi (pc2 := 7) (k := 26) (As := [.ref 27]) (rest := []) hM rfl rfl rfl rfl rfl rfl rfl (fun x2 h1 => ?_)
  refine e_istore_n (pc2 := 8) (L2 := [some (.ref 1), some (.int x2), none]) hM rfl rfl rfl rfl ?_
  refine e_iload_n (pc2 := 9) hM rfl rfl rfl ?_
  refine e_if_eq (pc2 := 12) (tgt := 29) hM rfl rfl rfl ?_ ?_
  · refine e_aload_n (pc2 := 30) hM rfl rfl rfl ?_
    refine e_ldc (pc2 := 32) (v := (-1000000002)) hM rfl rfl rfl ?_
    refine e_cvi (pc2 := 35) (k := 0) (As := [.ref 1, .int (-1000000002)]) (rest := []) hM rfl rfl rfl rfl rfl rfl rfl (fun x4 h3 => ?_)
    refine e_istore_n (pc2 := 36) (L2 := [some (.ref 1), some (.int x2), some (.int x4)]) hM rfl rfl rfl rfl ?_
    refine e_aload_n (pc2 := 37) hM rfl rfl rfl ?_
    refine e_getfr (pc2 := 40) (k := 0) (b := 38) hM rfl rfl rfl rfl rfl ?_
    refine e_iconst (pc2 := 41) (v := nI 0) hM rfl rfl rfl ?_
    refine e_putf (pc2 := 44) (k := 37) hM rfl rfl rfl rfl rfl rfl ?_
    refine e_iload_n (pc2 := 45) hM rfl rfl rfl ?_
    exact e_iret hM rfl rfl
  · refine e_aload_n (pc2 := 13) hM rfl rfl rfl ?_
    refine e_getfr (pc2 := 16) (k := 0) (b := 38) hM rfl rfl rfl rfl rfl ?_
    refine e_aload_n (pc2 := 17) hM rfl rfl rfl ?_
    refine e_getfr (pc2 := 20) (k := 0) (b := 27) hM rfl rfl rfl rfl rfl ?_
    refine e_cvi (pc2 := 23) (k := 26) (As := [.ref 27]) (rest := [.ref 38]) hM rfl rfl rfl rfl rfl rfl rfl (fun x6 h5 => ?_)
    refine e_cvi (pc2 := 26) (k := 37) (As := [.ref 38, .int x6]) (rest := []) hM rfl rfl rfl rfl rfl rfl rfl (fun x8 h7 => ?_)
    refine e_goto (tgt := 35) hM rfl rfl ?_
    refine e_istore_n (pc2 := 36) (L2 := [some (.ref 1), some (.int x2), some (.int x8)]) hM rfl rfl rfl rfl ?_
    refine e_aload_n (pc2 := 37) hM rfl rfl rfl ?_
    refine e_getfr (pc2 := 40) (k := 0) (b := 38) hM rfl rfl rfl rfl rfl ?_
    refine e_iconst (pc2 := 41) (v := nI 0) hM rfl rfl rfl ?_
    refine e_putf (pc2 := 44) (k := 37) hM rfl rfl rfl rfl rfl rfl ?_
    refine e_iload_n (pc2 := 45) hM rfl rfl rfl ?_
    exact e_iret hM rfl rfl
theorem qX7_count_0 {sl : Nat} {xs : Nat → Int32} {d : Nat} {a0 : Int32} {h : pmH} : pm_cf (pm_Ev sl xs) (d + 2) 83 [.ref 1, .int a0] (SH, h) = if a0 = nI 0 then (some (some (.int (h 7 0)), (SH, h))) else (if a0 = nI 1 then (some (some (.int (h 2 0)), (SH, h))) else (if a0 = nI 2 then (pm_ri (pm_cf (pm_Ev sl xs) (d + 1) 92 [.ref 1] (SH, h)) SH fun x8 h7 => some (some (.int x8), (SH, h7))) else (if a0 = nI 3 then (pm_ri (pm_cf (pm_Ev sl xs) (d + 1) 93 [.ref 1] (SH, h)) SH fun x6 h5 => some (some (.int x6), (SH, h5))) else (if a0 = nI 4 then (some (some (.int (h 37 0)), (SH, h))) else (if a0 = nI 5 then (pm_ri (pm_cf (pm_Ev sl xs) (d + 1) 15 [.ref 3] (SH, h)) SH fun x4 h3 => some (some (.int x4), (SH, h3))) else (pm_ri (pm_cf (pm_Ev sl xs) (d + 1) 85 [.ref 1, .int (-1000000001)] (SH, h)) SH fun x2 h1 => some (some (.int x2), (SH, h1)))))))) := by
  have hM : pm_mt 83 = some mt_83 := rfl
  refine e_call (L := [some (.ref 1), some (.int a0)]) hM rfl rfl ?_
  refine e_iload_n (pc2 := 1) hM rfl rfl rfl ?_
  refine e_switch hM rfl rfl ?_
  refine s_cons (tgt := 40) rfl ?_ ?_
  · refine e_aload_n (pc2 := 41) hM rfl rfl rfl ?_
    refine e_getfr (pc2 := 44) (k := 0) (b := 8) hM rfl rfl rfl rfl rfl ?_
    refine e_getfi (pc2 := 47) (k := 7) (v := (h 7 0)) hM rfl rfl rfl rfl rfl rfl ?_
    exact e_iret hM rfl rfl
  refine s_cons (tgt := 48) rfl ?_ ?_
  · refine e_aload_n (pc2 := 49) hM rfl rfl rfl ?_
    refine e_getfr (pc2 := 52) (k := 0) (b := 3) hM rfl rfl rfl rfl rfl ?_
    refine e_getfi (pc2 := 55) (k := 2) (v := (h 2 0)) hM rfl rfl rfl rfl rfl rfl ?_
    exact e_iret hM rfl rfl
  refine s_cons (tgt := 56) rfl ?_ ?_
  · refine e_aload_n (pc2 := 57) hM rfl rfl rfl ?_
    refine e_cvi (pc2 := 60) (k := 0) (As := [.ref 1]) (rest := []) hM rfl rfl rfl rfl rfl rfl rfl (fun x8 h7 => ?_)
    exact e_iret hM rfl rfl
  refine s_cons (tgt := 61) rfl ?_ ?_
  · refine e_aload_n (pc2 := 62) hM rfl rfl rfl ?_
    refine e_cvi (pc2 := 65) (k := 0) (As := [.ref 1]) (rest := []) hM rfl rfl rfl rfl rfl rfl rfl (fun x6 h5 => ?_)
    exact e_iret hM rfl rfl
  refine s_cons (tgt := 66) rfl ?_ ?_
  · refine e_aload_n (pc2 := 67) hM rfl rfl rfl ?_
    refine e_getfr (pc2 := 70) (k := 0) (b := 38) hM rfl rfl rfl rfl rfl ?_
    refine e_getfi (pc2 := 73) (k := 37) (v := (h 37 0)) hM rfl rfl rfl rfl rfl rfl ?_
    exact e_iret hM rfl rfl
  refine s_cons (tgt := 74) rfl ?_ ?_
  · refine e_aload_n (pc2 := 75) hM rfl rfl rfl ?_
    refine e_getfr (pc2 := 78) (k := 0) (b := 3) hM rfl rfl rfl rfl rfl ?_
    refine e_cvi (pc2 := 81) (k := 2) (As := [.ref 3]) (rest := []) hM rfl rfl rfl rfl rfl rfl rfl (fun x4 h3 => ?_)
    exact e_iret hM rfl rfl
  refine s_nil (tgt := 82) rfl ?_
  refine e_aload_n (pc2 := 83) hM rfl rfl rfl ?_
  refine e_ldc (pc2 := 85) (v := (-1000000001)) hM rfl rfl rfl ?_
  refine e_cvi (pc2 := 88) (k := 0) (As := [.ref 1, .int (-1000000001)]) (rest := []) hM rfl rfl rfl rfl rfl rfl rfl (fun x2 h1 => ?_)
  exact e_iret hM rfl rfl
theorem qX7_found_0 {sl : Nat} {xs : Nat → Int32} {d : Nat} {a0 : Int32} {h : pmH} : pm_cf (pm_Ev sl xs) (d + 2) 84 [.ref 1, .int a0] (SH, h) = pm_ri (pm_cf (pm_Ev sl xs) (d + 1) 86 [.int a0, .int (nI 1), .int (nI 5)] (SH, h)) SH fun x2 h1 => if x2 = 0 then (pm_ri (pm_cf (pm_Ev sl xs) (d + 1) 85 [.ref 1, .int (-1000000001)] (SH, h1)) SH fun x5 h4 => some (some (.int x5), (SH, h4))) else (pm_ix none a0 6 fun j3 => some (some (.int (h1 1 j3)), (SH, h1))) := by
  have hM : pm_mt 84 = some mt_84 := rfl
  refine e_call (L := [some (.ref 1), some (.int a0)]) hM rfl rfl ?_
  refine e_iload_n (pc2 := 1) hM rfl rfl rfl ?_
  refine e_iconst (pc2 := 2) (v := nI 1) hM rfl rfl rfl ?_
  refine e_iconst (pc2 := 3) (v := nI 5) hM rfl rfl rfl ?_
  refine e_csi (pc2 := 6) (As := [.int a0, .int (nI 1), .int (nI 5)]) (rest := []) hM rfl rfl rfl rfl rfl rfl rfl (fun x2 h1 => ?_)
  refine e_if_ne (pc2 := 9) (tgt := 16) hM rfl rfl rfl ?_ ?_
  · refine e_aload_n (pc2 := 17) hM rfl rfl rfl ?_
    refine e_getfr (pc2 := 20) (k := 0) (b := 2) hM rfl rfl rfl rfl rfl ?_
    refine e_iload_n (pc2 := 21) hM rfl rfl rfl ?_
    refine e_iald (pc2 := 22) (k := 1) (V := fun j3 => (h1 1 j3)) hM rfl rfl rfl (fun _ => rfl) (fun j3 => ?_)
    exact e_iret hM rfl rfl
  · refine e_aload_n (pc2 := 10) hM rfl rfl rfl ?_
    refine e_ldc (pc2 := 12) (v := (-1000000001)) hM rfl rfl rfl ?_
    refine e_cvi (pc2 := 15) (k := 0) (As := [.ref 1, .int (-1000000001)]) (rest := []) hM rfl rfl rfl rfl rfl rfl rfl (fun x5 h4 => ?_)
    exact e_iret hM rfl rfl
theorem qX7_finding_0 {sl : Nat} {xs : Nat → Int32} {d : Nat} {a0 : Int32} {h : pmH} : pm_cf (pm_Ev sl xs) (d + 2) 85 [.ref 1, .int a0] (SH, h) = pm_ri (pm_cf (pm_Ev sl xs) (d + 1) 86 [.int ((-1000000000) - a0), .int (nI 1), .int (nI 5)] (SH, h)) SH fun x2 h1 => if x2 = 0 then (some (some (.int a0), (SH, h1))) else (pm_ix none ((-1000000000) - a0) 6 fun j3 => pm_ix none ((-1000000000) - a0) 6 fun j4 => some (some (.int a0), (SH, (pm_up h1 1 j4 ((h1 1 j3) + (nI 1)))))) := by
  have hM : pm_mt 85 = some mt_85 := rfl
  refine e_call (L := [some (.ref 1), some (.int a0), none]) hM rfl rfl ?_
  refine e_ldc_w (pc2 := 3) (v := (-1000000000)) hM rfl rfl rfl ?_
  refine e_iload_n (pc2 := 4) hM rfl rfl rfl ?_
  refine e_isub (pc2 := 5) hM rfl rfl ?_
  refine e_istore_n (pc2 := 6) (L2 := [some (.ref 1), some (.int a0), some (.int ((-1000000000) - a0))]) hM rfl rfl rfl rfl ?_
  refine e_iload_n (pc2 := 7) hM rfl rfl rfl ?_
  refine e_iconst (pc2 := 8) (v := nI 1) hM rfl rfl rfl ?_
  refine e_iconst (pc2 := 9) (v := nI 5) hM rfl rfl rfl ?_
  refine e_csi (pc2 := 12) (As := [.int ((-1000000000) - a0), .int (nI 1), .int (nI 5)]) (rest := []) hM rfl rfl rfl rfl rfl rfl rfl (fun x2 h1 => ?_)
  refine e_if_eq (pc2 := 15) (tgt := 25) hM rfl rfl rfl ?_ ?_
  · refine e_iload_n (pc2 := 26) hM rfl rfl rfl ?_
    exact e_iret hM rfl rfl
  · refine e_aload_n (pc2 := 16) hM rfl rfl rfl ?_
    refine e_getfr (pc2 := 19) (k := 0) (b := 2) hM rfl rfl rfl rfl rfl ?_
    refine e_iload_n (pc2 := 20) hM rfl rfl rfl ?_
    refine e_dup2 (pc2 := 21) hM rfl rfl rfl rfl ?_
    refine e_iald (pc2 := 22) (k := 1) (V := fun j3 => (h1 1 j3)) hM rfl rfl rfl (fun _ => rfl) (fun j3 => ?_)
    refine e_iconst (pc2 := 23) (v := nI 1) hM rfl rfl rfl ?_
    refine e_iadd (pc2 := 24) hM rfl rfl ?_
    refine e_iast (pc2 := 25) (k := 1) hM rfl rfl rfl (fun j4 => ?_)
    refine e_iload_n (pc2 := 26) hM rfl rfl rfl ?_
    exact e_iret hM rfl rfl
theorem qX7_within_0 {sl : Nat} {xs : Nat → Int32} {d : Nat} {a0 a1 a2 : Int32} {h : pmH} : pm_cf (pm_Ev sl xs) (d + 1) 86 [.int a0, .int a1, .int a2] (SH, h) = if a0 < a1 then (some (some (.int (nI 0)), (SH, h))) else (if a2 < a0 then (some (some (.int (nI 0)), (SH, h))) else (some (some (.int (nI 1)), (SH, h)))) := by
  have hM : pm_mt 86 = some mt_86 := rfl
  refine e_call (L := [some (.int a0), some (.int a1), some (.int a2)]) hM rfl rfl ?_
  refine e_iload_n (pc2 := 1) hM rfl rfl rfl ?_
  refine e_iload_n (pc2 := 2) hM rfl rfl rfl ?_
  refine e_icmp_lt (pc2 := 5) (tgt := 14) hM rfl rfl rfl ?_ ?_
  · refine e_iconst (pc2 := 15) (v := nI 0) hM rfl rfl rfl ?_
    exact e_zret hM rfl rfl pm_01a
  · refine e_iload_n (pc2 := 6) hM rfl rfl rfl ?_
    refine e_iload_n (pc2 := 7) hM rfl rfl rfl ?_
    refine e_icmp_gt (pc2 := 10) (tgt := 14) hM rfl rfl rfl ?_ ?_
    · refine e_iconst (pc2 := 15) (v := nI 0) hM rfl rfl rfl ?_
      exact e_zret hM rfl rfl pm_01a
    · refine e_iconst (pc2 := 11) (v := nI 1) hM rfl rfl rfl ?_
      refine e_goto (tgt := 15) hM rfl rfl ?_
      exact e_zret hM rfl rfl pm_01b
theorem qX7_bit_0 {sl : Nat} {xs : Nat → Int32} {d : Nat} {a0 : Int32} {h : pmH} : pm_cf (pm_Ev sl xs) (d + 1) 87 [.int a0] (SH, h) = if a0 = 0 then (some (some (.int (nI 0)), (SH, h))) else (some (some (.int (nI 1)), (SH, h))) := by
  have hM : pm_mt 87 = some mt_87 := rfl
  refine e_call (L := [some (.int a0)]) hM rfl rfl ?_
  refine e_iload_n (pc2 := 1) hM rfl rfl rfl ?_
  refine e_if_eq (pc2 := 4) (tgt := 8) hM rfl rfl rfl ?_ ?_
  · refine e_iconst (pc2 := 9) (v := nI 0) hM rfl rfl rfl ?_
    exact e_iret hM rfl rfl
  · refine e_iconst (pc2 := 5) (v := nI 1) hM rfl rfl rfl ?_
    refine e_goto (tgt := 9) hM rfl rfl ?_
    exact e_iret hM rfl rfl
theorem qX7_hasBit_0 {sl : Nat} {xs : Nat → Int32} {d : Nat} {a0 a1 : Int32} {h : pmH} : pm_cf (pm_Ev sl xs) (d + 1) 88 [.int a0, .int a1] (SH, h) = if ((a0 >>> (a1 &&& 31)) &&& (nI 1)) = (nI 1) then (some (some (.int (nI 1)), (SH, h))) else (some (some (.int (nI 0)), (SH, h))) := by
  have hM : pm_mt 88 = some mt_88 := rfl
  refine e_call (L := [some (.int a0), some (.int a1)]) hM rfl rfl ?_
  refine e_iload_n (pc2 := 1) hM rfl rfl rfl ?_
  refine e_iload_n (pc2 := 2) hM rfl rfl rfl ?_
  refine e_ishr (pc2 := 3) hM rfl rfl ?_
  refine e_iconst (pc2 := 4) (v := nI 1) hM rfl rfl rfl ?_
  refine e_iand (pc2 := 5) hM rfl rfl ?_
  refine e_iconst (pc2 := 6) (v := nI 1) hM rfl rfl rfl ?_
  refine e_icmp_ne (pc2 := 9) (tgt := 13) hM rfl rfl rfl ?_ ?_
  · refine e_iconst (pc2 := 14) (v := nI 0) hM rfl rfl rfl ?_
    exact e_zret hM rfl rfl pm_01a
  · refine e_iconst (pc2 := 10) (v := nI 1) hM rfl rfl rfl ?_
    refine e_goto (tgt := 14) hM rfl rfl ?_
    exact e_zret hM rfl rfl pm_01b
theorem qX7_isHow_0 {sl : Nat} {xs : Nat → Int32} {d : Nat} {a0 : Int32} {h : pmH} : pm_cf (pm_Ev sl xs) (d + 1) 89 [.int a0] (SH, h) = if a0 < 0 then (some (some (.int (nI 0)), (SH, h))) else (if nI 100 = 0 then none else (if (nI 8) ≤ (a0 / (nI 100)) then (some (some (.int (nI 0)), (SH, h))) else (if nI 10 = 0 then none else (if nI 10 = 0 then none else (if (nI 2) < ((a0 / (nI 10)) - (a0 / (nI 10)) / (nI 10) * (nI 10)) then (some (some (.int (nI 0)), (SH, h))) else (if nI 10 = 0 then none else (if (nI 1) < (a0 - a0 / (nI 10) * (nI 10)) then (some (some (.int (nI 0)), (SH, h))) else (some (some (.int (nI 1)), (SH, h)))))))))) := by
  have hM : pm_mt 89 = some mt_89 := rfl
  refine e_call (L := [some (.int a0)]) hM rfl rfl ?_
  refine e_iload_n (pc2 := 1) hM rfl rfl rfl ?_
  refine e_if_lt (pc2 := 4) (tgt := 36) hM rfl rfl rfl ?_ ?_
  · refine e_iconst (pc2 := 37) (v := nI 0) hM rfl rfl rfl ?_
    exact e_zret hM rfl rfl pm_01a
  · refine e_iload_n (pc2 := 5) hM rfl rfl rfl ?_
    refine e_bipush (pc2 := 7) (v := nI 100) hM rfl rfl rfl rfl ?_
    refine e_idiv (pc2 := 8) hM rfl rfl ?_
    refine e_bipush (pc2 := 10) (v := nI 8) hM rfl rfl rfl rfl ?_
    refine e_icmp_ge (pc2 := 13) (tgt := 36) hM rfl rfl rfl ?_ ?_
    · refine e_iconst (pc2 := 37) (v := nI 0) hM rfl rfl rfl ?_
      exact e_zret hM rfl rfl pm_01a
    · refine e_iload_n (pc2 := 14) hM rfl rfl rfl ?_
      refine e_bipush (pc2 := 16) (v := nI 10) hM rfl rfl rfl rfl ?_
      refine e_idiv (pc2 := 17) hM rfl rfl ?_
      refine e_bipush (pc2 := 19) (v := nI 10) hM rfl rfl rfl rfl ?_
      refine e_irem (pc2 := 20) hM rfl rfl ?_
      refine e_iconst (pc2 := 21) (v := nI 2) hM rfl rfl rfl ?_
      refine e_icmp_gt (pc2 := 24) (tgt := 36) hM rfl rfl rfl ?_ ?_
      · refine e_iconst (pc2 := 37) (v := nI 0) hM rfl rfl rfl ?_
        exact e_zret hM rfl rfl pm_01a
      · refine e_iload_n (pc2 := 25) hM rfl rfl rfl ?_
        refine e_bipush (pc2 := 27) (v := nI 10) hM rfl rfl rfl rfl ?_
        refine e_irem (pc2 := 28) hM rfl rfl ?_
        refine e_iconst (pc2 := 29) (v := nI 1) hM rfl rfl rfl ?_
        refine e_icmp_gt (pc2 := 32) (tgt := 36) hM rfl rfl rfl ?_ ?_
        · refine e_iconst (pc2 := 37) (v := nI 0) hM rfl rfl rfl ?_
          exact e_zret hM rfl rfl pm_01a
        · refine e_iconst (pc2 := 33) (v := nI 1) hM rfl rfl rfl ?_
          refine e_goto (tgt := 37) hM rfl rfl ?_
          exact e_zret hM rfl rfl pm_01b
theorem qX7_isUp_0 {sl : Nat} {xs : Nat → Int32} {d : Nat} {a0 a1 : Int32} {h : pmH} : pm_cf (pm_Ev sl xs) (d + 2) 90 [.ref 1, .int a0, .int a1] (SH, h) = if a0 = (nI 1) then (pm_ri (pm_cf (pm_Ev sl xs) (d + 1) 40 [.ref 8, .int a1] (SH, h)) SH fun x2 h1 => if x2 = 0 ∨ x2 = 1 then some (some (.int x2), (SH, h1)) else none) else (if a1 = 0 then (some (some (.int (nI 1)), (SH, h))) else (some (some (.int (nI 0)), (SH, h)))) := by
  have hM : pm_mt 90 = some mt_90 := rfl
  refine e_call (L := [some (.ref 1), some (.int a0), some (.int a1)]) hM rfl rfl ?_
  refine e_iload_n (pc2 := 1) hM rfl rfl rfl ?_
  refine e_iconst (pc2 := 2) (v := nI 1) hM rfl rfl rfl ?_
  refine e_icmp_ne (pc2 := 5) (tgt := 16) hM rfl rfl rfl ?_ ?_
  · refine e_iload_n (pc2 := 17) hM rfl rfl rfl ?_
    refine e_if_ne (pc2 := 20) (tgt := 24) hM rfl rfl rfl ?_ ?_
    · refine e_iconst (pc2 := 25) (v := nI 0) hM rfl rfl rfl ?_
      exact e_zret hM rfl rfl pm_01a
    · refine e_iconst (pc2 := 21) (v := nI 1) hM rfl rfl rfl ?_
      refine e_goto (tgt := 25) hM rfl rfl ?_
      exact e_zret hM rfl rfl pm_01b
  · refine e_aload_n (pc2 := 6) hM rfl rfl rfl ?_
    refine e_getfr (pc2 := 9) (k := 0) (b := 8) hM rfl rfl rfl rfl rfl ?_
    refine e_iload_n (pc2 := 10) hM rfl rfl rfl ?_
    refine e_cvi (pc2 := 13) (k := 7) (As := [.ref 8, .int a1]) (rest := []) hM rfl rfl rfl rfl rfl rfl rfl (fun x2 h1 => ?_)
    refine e_goto (tgt := 25) hM rfl rfl ?_
    exact e_zretX hM rfl rfl
theorem qX7_darkNow_0 {sl : Nat} {xs : Nat → Int32} {d : Nat} {a0 : Int32} {h : pmH} : pm_cf (pm_Ev sl xs) (d + 2) 91 [.ref 1, .int a0] (SH, h) = pm_rv (pm_cf (pm_Ev sl xs) (d + 1) 5 [.ref 21] (SH, h)) SH fun h1 => pm_ix none a0 24 fun j2 => if (h1 21 j2) = 0 ∨ (h1 21 j2) = 1 then some (some (.int (h1 21 j2)), (SH, h1)) else none := by
  have hM : pm_mt 91 = some mt_91 := rfl
  refine e_call (L := [some (.ref 1), some (.int a0)]) hM rfl rfl ?_
  refine e_aload_n (pc2 := 1) hM rfl rfl rfl ?_
  refine e_getfr (pc2 := 4) (k := 0) (b := 21) hM rfl rfl rfl rfl rfl ?_
  refine e_cvv (pc2 := 7) (k := 20) (As := [.ref 21]) (rest := []) hM rfl rfl rfl rfl rfl rfl rfl (fun h1 => ?_)
  refine e_aload_n (pc2 := 8) hM rfl rfl rfl ?_
  refine e_getfr (pc2 := 11) (k := 0) (b := 21) hM rfl rfl rfl rfl rfl ?_
  refine e_getfr (pc2 := 14) (k := 20) (b := 22) hM rfl rfl rfl rfl rfl ?_
  refine e_iload_n (pc2 := 15) hM rfl rfl rfl ?_
  refine e_bald (pc2 := 16) (k := 21) (V := fun j2 => (h1 21 j2)) hM rfl rfl rfl (fun _ => rfl) (fun j2 => ?_)
  exact e_zretX hM rfl rfl
theorem qX7_countDead_0 {sl : Nat} {xs : Nat → Int32} {d : Nat} {h : pmH} : pm_cf (pm_Ev sl xs) (d + 2) 92 [.ref 1] (SH, h) = pm_Ev sl xs (d + 1) 92 4 [some (.ref 1), some (.int (nI 0)), some (.int (nI 0))] [] (SH, h) := by
  have hM : pm_mt 92 = some mt_92 := rfl
  refine e_call (L := [some (.ref 1), none, none]) hM rfl rfl ?_
  refine e_iconst (pc2 := 1) (v := nI 0) hM rfl rfl rfl ?_
  refine e_istore_n (pc2 := 2) (L2 := [some (.ref 1), some (.int (nI 0)), none]) hM rfl rfl rfl rfl ?_
  refine e_iconst (pc2 := 3) (v := nI 0) hM rfl rfl rfl ?_
  refine e_istore_n (pc2 := 4) (L2 := [some (.ref 1), some (.int (nI 0)), some (.int (nI 0))]) hM rfl rfl rfl rfl ?_
  exact rfl
theorem qX7_countDead_4 {sl : Nat} {xs : Nat → Int32} {d : Nat} {b1 b2 : Int32} {h : pmH} : pm_Ev sl xs (d + 1) 92 4 [some (.ref 1), some (.int b1), some (.int b2)] [] (SH, h) = if (h 7 0) ≤ b2 then (some (some (.int b1), (SH, h))) else (pm_ix none b2 24 fun j1 => pm_ri (pm_cf (pm_Ev sl xs) (d + 1) 87 [.int (h 16 j1)] (SH, h)) SH fun x3 h2 => pm_Ev sl xs (d + 1) 92 4 [some (.ref 1), some (.int (b1 + x3)), some (.int (b2 + (nI 1)))] [] (SH, h2)) := by
  have hM : pm_mt 92 = some mt_92 := rfl
  refine e_iload_n (pc2 := 5) hM rfl rfl rfl ?_
  refine e_aload_n (pc2 := 6) hM rfl rfl rfl ?_
  refine e_getfr (pc2 := 9) (k := 0) (b := 8) hM rfl rfl rfl rfl rfl ?_
  refine e_getfi (pc2 := 12) (k := 7) (v := (h 7 0)) hM rfl rfl rfl rfl rfl rfl ?_
  refine e_icmp_ge (pc2 := 15) (tgt := 36) hM rfl rfl rfl ?_ ?_
  · refine e_iload_n (pc2 := 37) hM rfl rfl rfl ?_
    exact e_iret hM rfl rfl
  · refine e_iload_n (pc2 := 16) hM rfl rfl rfl ?_
    refine e_aload_n (pc2 := 17) hM rfl rfl rfl ?_
    refine e_getfr (pc2 := 20) (k := 0) (b := 8) hM rfl rfl rfl rfl rfl ?_
    refine e_getfr (pc2 := 23) (k := 7) (b := 17) hM rfl rfl rfl rfl rfl ?_
    refine e_iload_n (pc2 := 24) hM rfl rfl rfl ?_
    refine e_bald (pc2 := 25) (k := 16) (V := fun j1 => (h 16 j1)) hM rfl rfl rfl (fun _ => rfl) (fun j1 => ?_)
    refine e_csi (pc2 := 28) (As := [.int (h 16 j1)]) (rest := [.int b1]) hM rfl rfl rfl rfl rfl rfl rfl (fun x3 h2 => ?_)
    refine e_iadd (pc2 := 29) hM rfl rfl ?_
    refine e_istore_n (pc2 := 30) (L2 := [some (.ref 1), some (.int (b1 + x3)), some (.int b2)]) hM rfl rfl rfl rfl ?_
    refine e_iinc (pc2 := 33) (v := nI 1) (L2 := [some (.ref 1), some (.int (b1 + x3)), some (.int (b2 + (nI 1)))]) hM rfl rfl rfl rfl rfl ?_
    refine e_goto (tgt := 4) hM rfl rfl ?_
    exact rfl
theorem qX7_countDark_0 {sl : Nat} {xs : Nat → Int32} {d : Nat} {h : pmH} : pm_cf (pm_Ev sl xs) (d + 2) 93 [.ref 1] (SH, h) = pm_rv (pm_cf (pm_Ev sl xs) (d + 1) 5 [.ref 21] (SH, h)) SH fun h1 => pm_Ev sl xs (d + 1) 93 11 [some (.ref 1), some (.int (nI 0)), some (.int (nI 0))] [] (SH, h1) := by
  have hM : pm_mt 93 = some mt_93 := rfl
  refine e_call (L := [some (.ref 1), none, none]) hM rfl rfl ?_
  refine e_aload_n (pc2 := 1) hM rfl rfl rfl ?_
  refine e_getfr (pc2 := 4) (k := 0) (b := 21) hM rfl rfl rfl rfl rfl ?_
  refine e_cvv (pc2 := 7) (k := 20) (As := [.ref 21]) (rest := []) hM rfl rfl rfl rfl rfl rfl rfl (fun h1 => ?_)
  refine e_iconst (pc2 := 8) (v := nI 0) hM rfl rfl rfl ?_
  refine e_istore_n (pc2 := 9) (L2 := [some (.ref 1), some (.int (nI 0)), none]) hM rfl rfl rfl rfl ?_
  refine e_iconst (pc2 := 10) (v := nI 0) hM rfl rfl rfl ?_
  refine e_istore_n (pc2 := 11) (L2 := [some (.ref 1), some (.int (nI 0)), some (.int (nI 0))]) hM rfl rfl rfl rfl ?_
  exact rfl
theorem qX7_countDark_11 {sl : Nat} {xs : Nat → Int32} {d : Nat} {b1 b2 : Int32} {h : pmH} : pm_Ev sl xs (d + 1) 93 11 [some (.ref 1), some (.int b1), some (.int b2)] [] (SH, h) = if (h 7 0) ≤ b2 then (some (some (.int b1), (SH, h))) else (pm_ix none b2 24 fun j1 => pm_ri (pm_cf (pm_Ev sl xs) (d + 1) 87 [.int (h 21 j1)] (SH, h)) SH fun x3 h2 => pm_Ev sl xs (d + 1) 93 11 [some (.ref 1), some (.int (b1 + x3)), some (.int (b2 + (nI 1)))] [] (SH, h2)) := by
  have hM : pm_mt 93 = some mt_93 := rfl
  refine e_iload_n (pc2 := 12) hM rfl rfl rfl ?_
  refine e_aload_n (pc2 := 13) hM rfl rfl rfl ?_
  refine e_getfr (pc2 := 16) (k := 0) (b := 8) hM rfl rfl rfl rfl rfl ?_
  refine e_getfi (pc2 := 19) (k := 7) (v := (h 7 0)) hM rfl rfl rfl rfl rfl rfl ?_
  refine e_icmp_ge (pc2 := 22) (tgt := 43) hM rfl rfl rfl ?_ ?_
  · refine e_iload_n (pc2 := 44) hM rfl rfl rfl ?_
    exact e_iret hM rfl rfl
  · refine e_iload_n (pc2 := 23) hM rfl rfl rfl ?_
    refine e_aload_n (pc2 := 24) hM rfl rfl rfl ?_
    refine e_getfr (pc2 := 27) (k := 0) (b := 21) hM rfl rfl rfl rfl rfl ?_
    refine e_getfr (pc2 := 30) (k := 20) (b := 22) hM rfl rfl rfl rfl rfl ?_
    refine e_iload_n (pc2 := 31) hM rfl rfl rfl ?_
    refine e_bald (pc2 := 32) (k := 21) (V := fun j1 => (h 21 j1)) hM rfl rfl rfl (fun _ => rfl) (fun j1 => ?_)
    refine e_csi (pc2 := 35) (As := [.int (h 21 j1)]) (rest := [.int b1]) hM rfl rfl rfl rfl rfl rfl rfl (fun x3 h2 => ?_)
    refine e_iadd (pc2 := 36) hM rfl rfl ?_
    refine e_istore_n (pc2 := 37) (L2 := [some (.ref 1), some (.int (b1 + x3)), some (.int b2)]) hM rfl rfl rfl rfl ?_
    refine e_iinc (pc2 := 40) (v := nI 1) (L2 := [some (.ref 1), some (.int (b1 + x3)), some (.int (b2 + (nI 1)))]) hM rfl rfl rfl rfl rfl ?_
    refine e_goto (tgt := 11) hM rfl rfl ?_
    exact rfl
theorem qJ7_fill_53178_28_0 {sl : Nat} {xs : Nat → Int32} {d : Nat} {a0 : Int32} {h : pmH} : pm_cf (pm_Ev sl xs) (d + 1) 151 [.ref 28, .int a0] (SH, h) = pm_Ev sl xs d 151 5 [some (.ref 28), some (.int a0), some (.int (nI 0)), some (.int (nI 576))] [] (SH, h) := by
  have hM : pm_mt 151 = some mt_151 := rfl
  refine e_call (L := [some (.ref 28), some (.int a0), none, none]) hM rfl rfl ?_
  refine e_iconst (pc2 := 1) (v := nI 0) hM rfl rfl rfl ?_
  refine e_istore_n (pc2 := 2) (L2 := [some (.ref 28), some (.int a0), some (.int (nI 0)), none]) hM rfl rfl rfl rfl ?_
  refine e_aload_n (pc2 := 3) hM rfl rfl rfl ?_
  refine e_alen (pc2 := 4) (k := 27) hM rfl rfl rfl ?_
  refine e_istore_n (pc2 := 5) (L2 := [some (.ref 28), some (.int a0), some (.int (nI 0)), some (.int (nI 576))]) hM rfl rfl rfl rfl ?_
  exact rfl
theorem qJ7_fill_53178_28_5 {sl : Nat} {xs : Nat → Int32} {d : Nat} {b1 b2 b3 : Int32} {h : pmH} : pm_Ev sl xs d 151 5 [some (.ref 28), some (.int b1), some (.int b2), some (.int b3)] [] (SH, h) = if b3 ≤ b2 then (some (none, (SH, h))) else (pm_ix none b2 576 fun j1 => pm_Ev sl xs d 151 5 [some (.ref 28), some (.int b1), some (.int (b2 + (nI 1))), some (.int b3)] [] (SH, (pm_up h 27 j1 b1))) := by
  have hM : pm_mt 151 = some mt_151 := rfl
  refine e_iload_n (pc2 := 6) hM rfl rfl rfl ?_
  refine e_iload_n (pc2 := 7) hM rfl rfl rfl ?_
  refine e_icmp_ge (pc2 := 10) (tgt := 20) hM rfl rfl rfl ?_ ?_
  · exact e_ret hM rfl rfl
  · refine e_aload_n (pc2 := 11) hM rfl rfl rfl ?_
    refine e_iload_n (pc2 := 12) hM rfl rfl rfl ?_
    refine e_iload_n (pc2 := 13) hM rfl rfl rfl ?_
    refine e_iast (pc2 := 14) (k := 27) hM rfl rfl rfl (fun j1 => ?_)
    refine e_iinc (pc2 := 17) (v := nI 1) (L2 := [some (.ref 28), some (.int b1), some (.int (b2 + (nI 1))), some (.int b3)]) hM rfl rfl rfl rfl rfl ?_
    refine e_goto (tgt := 5) hM rfl rfl ?_
    exact rfl
theorem qJ7_fill_53178_32_0 {sl : Nat} {xs : Nat → Int32} {d : Nat} {a0 : Int32} {h : pmH} : pm_cf (pm_Ev sl xs) (d + 1) 151 [.ref 32, .int a0] (SH, h) = pm_Ev sl xs d 151 5 [some (.ref 32), some (.int a0), some (.int (nI 0)), some (.int (nI 24))] [] (SH, h) := by
  have hM : pm_mt 151 = some mt_151 := rfl
  refine e_call (L := [some (.ref 32), some (.int a0), none, none]) hM rfl rfl ?_
  refine e_iconst (pc2 := 1) (v := nI 0) hM rfl rfl rfl ?_
  refine e_istore_n (pc2 := 2) (L2 := [some (.ref 32), some (.int a0), some (.int (nI 0)), none]) hM rfl rfl rfl rfl ?_
  refine e_aload_n (pc2 := 3) hM rfl rfl rfl ?_
  refine e_alen (pc2 := 4) (k := 31) hM rfl rfl rfl ?_
  refine e_istore_n (pc2 := 5) (L2 := [some (.ref 32), some (.int a0), some (.int (nI 0)), some (.int (nI 24))]) hM rfl rfl rfl rfl ?_
  exact rfl
theorem qJ7_fill_53178_32_5 {sl : Nat} {xs : Nat → Int32} {d : Nat} {b1 b2 b3 : Int32} {h : pmH} : pm_Ev sl xs d 151 5 [some (.ref 32), some (.int b1), some (.int b2), some (.int b3)] [] (SH, h) = if b3 ≤ b2 then (some (none, (SH, h))) else (pm_ix none b2 24 fun j1 => pm_Ev sl xs d 151 5 [some (.ref 32), some (.int b1), some (.int (b2 + (nI 1))), some (.int b3)] [] (SH, (pm_up h 31 j1 b1))) := by
  have hM : pm_mt 151 = some mt_151 := rfl
  refine e_iload_n (pc2 := 6) hM rfl rfl rfl ?_
  refine e_iload_n (pc2 := 7) hM rfl rfl rfl ?_
  refine e_icmp_ge (pc2 := 10) (tgt := 20) hM rfl rfl rfl ?_ ?_
  · exact e_ret hM rfl rfl
  · refine e_aload_n (pc2 := 11) hM rfl rfl rfl ?_
    refine e_iload_n (pc2 := 12) hM rfl rfl rfl ?_
    refine e_iload_n (pc2 := 13) hM rfl rfl rfl ?_
    refine e_iast (pc2 := 14) (k := 31) hM rfl rfl rfl (fun j1 => ?_)
    refine e_iinc (pc2 := 17) (v := nI 1) (L2 := [some (.ref 32), some (.int b1), some (.int (b2 + (nI 1))), some (.int b3)]) hM rfl rfl rfl rfl rfl ?_
    refine e_goto (tgt := 5) hM rfl rfl ?_
    exact rfl
theorem qJ7_fill_53178_33_0 {sl : Nat} {xs : Nat → Int32} {d : Nat} {a0 : Int32} {h : pmH} : pm_cf (pm_Ev sl xs) (d + 1) 151 [.ref 33, .int a0] (SH, h) = pm_Ev sl xs d 151 5 [some (.ref 33), some (.int a0), some (.int (nI 0)), some (.int (nI 24))] [] (SH, h) := by
  have hM : pm_mt 151 = some mt_151 := rfl
  refine e_call (L := [some (.ref 33), some (.int a0), none, none]) hM rfl rfl ?_
  refine e_iconst (pc2 := 1) (v := nI 0) hM rfl rfl rfl ?_
  refine e_istore_n (pc2 := 2) (L2 := [some (.ref 33), some (.int a0), some (.int (nI 0)), none]) hM rfl rfl rfl rfl ?_
  refine e_aload_n (pc2 := 3) hM rfl rfl rfl ?_
  refine e_alen (pc2 := 4) (k := 32) hM rfl rfl rfl ?_
  refine e_istore_n (pc2 := 5) (L2 := [some (.ref 33), some (.int a0), some (.int (nI 0)), some (.int (nI 24))]) hM rfl rfl rfl rfl ?_
  exact rfl
theorem qJ7_fill_53178_33_5 {sl : Nat} {xs : Nat → Int32} {d : Nat} {b1 b2 b3 : Int32} {h : pmH} : pm_Ev sl xs d 151 5 [some (.ref 33), some (.int b1), some (.int b2), some (.int b3)] [] (SH, h) = if b3 ≤ b2 then (some (none, (SH, h))) else (pm_ix none b2 24 fun j1 => pm_Ev sl xs d 151 5 [some (.ref 33), some (.int b1), some (.int (b2 + (nI 1))), some (.int b3)] [] (SH, (pm_up h 32 j1 b1))) := by
  have hM : pm_mt 151 = some mt_151 := rfl
  refine e_iload_n (pc2 := 6) hM rfl rfl rfl ?_
  refine e_iload_n (pc2 := 7) hM rfl rfl rfl ?_
  refine e_icmp_ge (pc2 := 10) (tgt := 20) hM rfl rfl rfl ?_ ?_
  · exact e_ret hM rfl rfl
  · refine e_aload_n (pc2 := 11) hM rfl rfl rfl ?_
    refine e_iload_n (pc2 := 12) hM rfl rfl rfl ?_
    refine e_iload_n (pc2 := 13) hM rfl rfl rfl ?_
    refine e_iast (pc2 := 14) (k := 32) hM rfl rfl rfl (fun j1 => ?_)
    refine e_iinc (pc2 := 17) (v := nI 1) (L2 := [some (.ref 33), some (.int b1), some (.int (b2 + (nI 1))), some (.int b3)]) hM rfl rfl rfl rfl rfl ?_
    refine e_goto (tgt := 5) hM rfl rfl ?_
    exact rfl
theorem qJ7_fill_53178_34_0 {sl : Nat} {xs : Nat → Int32} {d : Nat} {a0 : Int32} {h : pmH} : pm_cf (pm_Ev sl xs) (d + 1) 151 [.ref 34, .int a0] (SH, h) = pm_Ev sl xs d 151 5 [some (.ref 34), some (.int a0), some (.int (nI 0)), some (.int (nI 180))] [] (SH, h) := by
  have hM : pm_mt 151 = some mt_151 := rfl
  refine e_call (L := [some (.ref 34), some (.int a0), none, none]) hM rfl rfl ?_
  refine e_iconst (pc2 := 1) (v := nI 0) hM rfl rfl rfl ?_
  refine e_istore_n (pc2 := 2) (L2 := [some (.ref 34), some (.int a0), some (.int (nI 0)), none]) hM rfl rfl rfl rfl ?_
  refine e_aload_n (pc2 := 3) hM rfl rfl rfl ?_
  refine e_alen (pc2 := 4) (k := 33) hM rfl rfl rfl ?_
  refine e_istore_n (pc2 := 5) (L2 := [some (.ref 34), some (.int a0), some (.int (nI 0)), some (.int (nI 180))]) hM rfl rfl rfl rfl ?_
  exact rfl
theorem qJ7_fill_53178_34_5 {sl : Nat} {xs : Nat → Int32} {d : Nat} {b1 b2 b3 : Int32} {h : pmH} : pm_Ev sl xs d 151 5 [some (.ref 34), some (.int b1), some (.int b2), some (.int b3)] [] (SH, h) = if b3 ≤ b2 then (some (none, (SH, h))) else (pm_ix none b2 180 fun j1 => pm_Ev sl xs d 151 5 [some (.ref 34), some (.int b1), some (.int (b2 + (nI 1))), some (.int b3)] [] (SH, (pm_up h 33 j1 b1))) := by
  have hM : pm_mt 151 = some mt_151 := rfl
  refine e_iload_n (pc2 := 6) hM rfl rfl rfl ?_
  refine e_iload_n (pc2 := 7) hM rfl rfl rfl ?_
  refine e_icmp_ge (pc2 := 10) (tgt := 20) hM rfl rfl rfl ?_ ?_
  · exact e_ret hM rfl rfl
  · refine e_aload_n (pc2 := 11) hM rfl rfl rfl ?_
    refine e_iload_n (pc2 := 12) hM rfl rfl rfl ?_
    refine e_iload_n (pc2 := 13) hM rfl rfl rfl ?_
    refine e_iast (pc2 := 14) (k := 33) hM rfl rfl rfl (fun j1 => ?_)
    refine e_iinc (pc2 := 17) (v := nI 1) (L2 := [some (.ref 34), some (.int b1), some (.int (b2 + (nI 1))), some (.int b3)]) hM rfl rfl rfl rfl rfl ?_
    refine e_goto (tgt := 5) hM rfl rfl ?_
    exact rfl
