section PMP0
variable {cI cZ : ClassId} {b base k n : Nat} {sh : List pmS} {h : pmH} {fl : List (Option (Option Nat))}
theorem pm_ws_i (hk : sh[k]? = some (0, n, fl)) : (pm_ws cI cZ b base (sh, h))[k]? = some (base + k, .inl (cI, n, .inl (h k))) := pm_ws_get (w := (sh, h)) hk
theorem pm_ws_z (hk : sh[k]? = some (1, n, fl)) : (pm_ws cI cZ b base (sh, h))[k]? = some (base + k, .inl (cZ, n, .inl (h k))) := pm_ws_get (w := (sh, h)) hk
theorem pm_ws_o (hk : sh[k]? = some (2, n, fl)) : (pm_ws cI cZ b base (sh, h))[k]? = some (base + k, .inr (n, pm_fv (pm_ad b base) (h k) fl)) := pm_ws_get (w := (sh, h)) hk
end PMP0
section PMP
variable {p : Program} {l : Launch} {e : Env} {R : Room} {s : State} {m : MethodId} {args : Array Value} {below : List Frame} {meth : Method} {c : Code} {Q : State → Prop}
variable {D : va_G} {cI cZ : ClassId} {b base n0 s0 sl own pc len nL : Nat} {xs : Nat → Int32} {bytes : ByteArray} {ret : Option FieldType} {ini hdB : Bool} {L : pmL} {st : List Value} {sh : List pmS} {h : pmH}
set_option maxHeartbeats 4000000 in
theorem pw_iconst {n : Int} (hX : pm_X p s m args meth c own bytes ret ini D cI cZ b base n0 sl xs nL) (hdp : hdB = true → 1 ≤ R.frames ∧ 40 ≤ R.locals) (hd : decode bytes pc = .ok (.iconst n, len)) (hln : len = pm_ln (.iconst n) len) (hF : pm_F False (pm_T1 p l e R s m args below meth c Q D cI cZ b base n0 s0 bytes ret) (pm_K p l e R s m args below meth c Q D cI cZ b base n0 s0) (pm_C1 p l e R s m args below meth c Q D cI cZ b base n0 s0 sl xs) sl xs own ret ini hdB (.iconst n) pc L st sh h) : pm_K p l e R s m args below meth c Q D cI cZ b base n0 s0 pc L st (sh, h) := by
  obtain ⟨hx, hb, hml, hown, hts, hK, hXs, hbb, hsz, hini, hNw⟩ := hX
  have hl1 : len = 1 := hln
  subst hl1
  exact ⟨hF.1, fun hLn H locs ls cells slots hP hS hL hc hs => lv_iconst hx hb hd (pm_int_eq n) (hF.2 hLn H locs ls cells slots hP hS hL hc hs)⟩
set_option maxHeartbeats 4000000 in
theorem pw_bipush {n : Int} (hX : pm_X p s m args meth c own bytes ret ini D cI cZ b base n0 sl xs nL) (hdp : hdB = true → 1 ≤ R.frames ∧ 40 ≤ R.locals) (hd : decode bytes pc = .ok (.bipush n, len)) (hln : len = pm_ln (.bipush n) len) (hF : pm_F False (pm_T1 p l e R s m args below meth c Q D cI cZ b base n0 s0 bytes ret) (pm_K p l e R s m args below meth c Q D cI cZ b base n0 s0) (pm_C1 p l e R s m args below meth c Q D cI cZ b base n0 s0 sl xs) sl xs own ret ini hdB (.bipush n) pc L st sh h) : pm_K p l e R s m args below meth c Q D cI cZ b base n0 s0 pc L st (sh, h) := by
  obtain ⟨hx, hb, hml, hown, hts, hK, hXs, hbb, hsz, hini, hNw⟩ := hX
  have hl1 : len = 2 := hln
  subst hl1
  replace hF := pm_b_F hF
  obtain ⟨hb1, hF⟩ := hF
  simp only [Bool.and_eq_true, decide_eq_true_eq] at hb1
  exact ⟨hF.1, fun hLn H locs ls cells slots hP hS hL hc hs => lv_bipush hx hb hd (pm_int_b hb1.1 hb1.2) (hF.2 hLn H locs ls cells slots hP hS hL hc hs)⟩
set_option maxHeartbeats 4000000 in
theorem pw_sipush {n : Int} (hX : pm_X p s m args meth c own bytes ret ini D cI cZ b base n0 sl xs nL) (hdp : hdB = true → 1 ≤ R.frames ∧ 40 ≤ R.locals) (hd : decode bytes pc = .ok (.sipush n, len)) (hln : len = pm_ln (.sipush n) len) (hF : pm_F False (pm_T1 p l e R s m args below meth c Q D cI cZ b base n0 s0 bytes ret) (pm_K p l e R s m args below meth c Q D cI cZ b base n0 s0) (pm_C1 p l e R s m args below meth c Q D cI cZ b base n0 s0 sl xs) sl xs own ret ini hdB (.sipush n) pc L st sh h) : pm_K p l e R s m args below meth c Q D cI cZ b base n0 s0 pc L st (sh, h) := by
  obtain ⟨hx, hb, hml, hown, hts, hK, hXs, hbb, hsz, hini, hNw⟩ := hX
  have hl1 : len = 3 := hln
  subst hl1
  replace hF := pm_b_F hF
  obtain ⟨hb1, hF⟩ := hF
  simp only [Bool.and_eq_true, decide_eq_true_eq] at hb1
  exact ⟨hF.1, fun hLn H locs ls cells slots hP hS hL hc hs => lv_sipush hx hb hd (pm_int_s hb1.1 hb1.2) (hF.2 hLn H locs ls cells slots hP hS hL hc hs)⟩
set_option maxHeartbeats 4000000 in
theorem pw_ldc {i : Nat} (hX : pm_X p s m args meth c own bytes ret ini D cI cZ b base n0 sl xs nL) (hdp : hdB = true → 1 ≤ R.frames ∧ 40 ≤ R.locals) (hd : decode bytes pc = .ok (.ldc i, len)) (hln : len = pm_ln (.ldc i) len) (hF : pm_F False (pm_T1 p l e R s m args below meth c Q D cI cZ b base n0 s0 bytes ret) (pm_K p l e R s m args below meth c Q D cI cZ b base n0 s0) (pm_C1 p l e R s m args below meth c Q D cI cZ b base n0 s0 sl xs) sl xs own ret ini hdB (.ldc i) pc L st sh h) : pm_K p l e R s m args below meth c Q D cI cZ b base n0 s0 pc L st (sh, h) := by
  obtain ⟨hx, hb, hml, hown, hts, hK, hXs, hbb, hsz, hini, hNw⟩ := hX
  have hl1 : len = 2 := hln
  subst hl1
  replace hF := pm_o_F hF
  obtain ⟨v, hv, hF⟩ := hF
  have hw := pmk_all own _ (pm_lk_mem hv)
  exact ⟨hF.1, fun hLn H locs ls cells slots hP hS hL hc hs => lv_ldc hx hb hown (hts _ (pm_g hw rfl)) hd (hF.2 hLn H locs ls cells slots hP hS hL hc hs)⟩
set_option maxHeartbeats 4000000 in
theorem pw_ldc_w {i : Nat} (hX : pm_X p s m args meth c own bytes ret ini D cI cZ b base n0 sl xs nL) (hdp : hdB = true → 1 ≤ R.frames ∧ 40 ≤ R.locals) (hd : decode bytes pc = .ok (.ldc_w i, len)) (hln : len = pm_ln (.ldc_w i) len) (hF : pm_F False (pm_T1 p l e R s m args below meth c Q D cI cZ b base n0 s0 bytes ret) (pm_K p l e R s m args below meth c Q D cI cZ b base n0 s0) (pm_C1 p l e R s m args below meth c Q D cI cZ b base n0 s0 sl xs) sl xs own ret ini hdB (.ldc_w i) pc L st sh h) : pm_K p l e R s m args below meth c Q D cI cZ b base n0 s0 pc L st (sh, h) := by
  obtain ⟨hx, hb, hml, hown, hts, hK, hXs, hbb, hsz, hini, hNw⟩ := hX
  have hl1 : len = 3 := hln
  subst hl1
  replace hF := pm_o_F hF
  obtain ⟨v, hv, hF⟩ := hF
  have hw := pmk_all own _ (pm_lk_mem hv)
  exact ⟨hF.1, fun hLn H locs ls cells slots hP hS hL hc hs => lv_ldcw hx hb hown (hts _ (pm_g hw rfl)) hd (hF.2 hLn H locs ls cells slots hP hS hL hc hs)⟩
set_option maxHeartbeats 4000000 in
theorem pw_iload {i : Nat} (hX : pm_X p s m args meth c own bytes ret ini D cI cZ b base n0 sl xs nL) (hdp : hdB = true → 1 ≤ R.frames ∧ 40 ≤ R.locals) (hd : decode bytes pc = .ok (.iload i, len)) (hln : len = pm_ln (.iload i) len) (hF : pm_F False (pm_T1 p l e R s m args below meth c Q D cI cZ b base n0 s0 bytes ret) (pm_K p l e R s m args below meth c Q D cI cZ b base n0 s0) (pm_C1 p l e R s m args below meth c Q D cI cZ b base n0 s0 sl xs) sl xs own ret ini hdB (.iload i) pc L st sh h) : pm_K p l e R s m args below meth c Q D cI cZ b base n0 s0 pc L st (sh, h) := by
  obtain ⟨hx, hb, hml, hown, hts, hK, hXs, hbb, hsz, hini, hNw⟩ := hX
  have hl1 : len = 2 := hln
  subst hl1
  replace hF := pm_ld_F hF
  obtain ⟨v, hv, hF⟩ := hF
  replace hF := pm_vi_F hF
  obtain ⟨x, rfl, hF⟩ := hF
  exact ⟨hF.1, fun hLn H locs ls cells slots hP hS hL hc hs => lv_iload hx hb hd (hL.2.2 _ _ hv) (hF.2 hLn H locs ls cells slots hP hS hL hc hs)⟩
set_option maxHeartbeats 4000000 in
theorem pw_lload {i : Nat} (hX : pm_X p s m args meth c own bytes ret ini D cI cZ b base n0 sl xs nL) (hdp : hdB = true → 1 ≤ R.frames ∧ 40 ≤ R.locals) (hd : decode bytes pc = .ok (.lload i, len)) (hln : len = pm_ln (.lload i) len) (hF : pm_F False (pm_T1 p l e R s m args below meth c Q D cI cZ b base n0 s0 bytes ret) (pm_K p l e R s m args below meth c Q D cI cZ b base n0 s0) (pm_C1 p l e R s m args below meth c Q D cI cZ b base n0 s0 sl xs) sl xs own ret ini hdB (.lload i) pc L st sh h) : pm_K p l e R s m args below meth c Q D cI cZ b base n0 s0 pc L st (sh, h) := by
  obtain ⟨hx, hb, hml, hown, hts, hK, hXs, hbb, hsz, hini, hNw⟩ := hX
  have hl1 : len = 2 := hln
  subst hl1
  replace hF := pm_ld_F hF
  obtain ⟨v, hv, hF⟩ := hF
  replace hF := pm_vl_F hF
  obtain ⟨x, rfl, hF⟩ := hF
  exact ⟨hF.1, fun hLn H locs ls cells slots hP hS hL hc hs => lv_lload hx hb hd (hL.2.2 _ _ hv) (hF.2 hLn H locs ls cells slots hP hS hL hc hs)⟩
set_option maxHeartbeats 4000000 in
theorem pw_iload_n {i : Fin 4} (hX : pm_X p s m args meth c own bytes ret ini D cI cZ b base n0 sl xs nL) (hdp : hdB = true → 1 ≤ R.frames ∧ 40 ≤ R.locals) (hd : decode bytes pc = .ok (.iload_n i, len)) (hln : len = pm_ln (.iload_n i) len) (hF : pm_F False (pm_T1 p l e R s m args below meth c Q D cI cZ b base n0 s0 bytes ret) (pm_K p l e R s m args below meth c Q D cI cZ b base n0 s0) (pm_C1 p l e R s m args below meth c Q D cI cZ b base n0 s0 sl xs) sl xs own ret ini hdB (.iload_n i) pc L st sh h) : pm_K p l e R s m args below meth c Q D cI cZ b base n0 s0 pc L st (sh, h) := by
  obtain ⟨hx, hb, hml, hown, hts, hK, hXs, hbb, hsz, hini, hNw⟩ := hX
  have hl1 : len = 1 := hln
  subst hl1
  replace hF := pm_ld_F hF
  obtain ⟨v, hv, hF⟩ := hF
  replace hF := pm_vi_F hF
  obtain ⟨x, rfl, hF⟩ := hF
  exact ⟨hF.1, fun hLn H locs ls cells slots hP hS hL hc hs => lv_iload_n hx hb hd rfl (hL.2.2 _ _ hv) (hF.2 hLn H locs ls cells slots hP hS hL hc hs)⟩
set_option maxHeartbeats 4000000 in
theorem pw_aload_n {i : Fin 4} (hX : pm_X p s m args meth c own bytes ret ini D cI cZ b base n0 sl xs nL) (hdp : hdB = true → 1 ≤ R.frames ∧ 40 ≤ R.locals) (hd : decode bytes pc = .ok (.aload_n i, len)) (hln : len = pm_ln (.aload_n i) len) (hF : pm_F False (pm_T1 p l e R s m args below meth c Q D cI cZ b base n0 s0 bytes ret) (pm_K p l e R s m args below meth c Q D cI cZ b base n0 s0) (pm_C1 p l e R s m args below meth c Q D cI cZ b base n0 s0 sl xs) sl xs own ret ini hdB (.aload_n i) pc L st sh h) : pm_K p l e R s m args below meth c Q D cI cZ b base n0 s0 pc L st (sh, h) := by
  obtain ⟨hx, hb, hml, hown, hts, hK, hXs, hbb, hsz, hini, hNw⟩ := hX
  have hl1 : len = 1 := hln
  subst hl1
  replace hF := pm_ld_F hF
  obtain ⟨v, hv, hF⟩ := hF
  replace hF := pm_vr_F hF
  obtain ⟨x, rfl, hF⟩ := hF
  exact ⟨hF.1, fun hLn H locs ls cells slots hP hS hL hc hs => lv_aload_n hx hb hd rfl (hL.2.2 _ _ hv) (hF.2 hLn H locs ls cells slots hP hS hL hc hs)⟩
set_option maxHeartbeats 4000000 in
theorem pw_istore {i : Nat} (hX : pm_X p s m args meth c own bytes ret ini D cI cZ b base n0 sl xs nL) (hdp : hdB = true → 1 ≤ R.frames ∧ 40 ≤ R.locals) (hd : decode bytes pc = .ok (.istore i, len)) (hln : len = pm_ln (.istore i) len) (hF : pm_F False (pm_T1 p l e R s m args below meth c Q D cI cZ b base n0 s0 bytes ret) (pm_K p l e R s m args below meth c Q D cI cZ b base n0 s0) (pm_C1 p l e R s m args below meth c Q D cI cZ b base n0 s0 sl xs) sl xs own ret ini hdB (.istore i) pc L st sh h) : pm_K p l e R s m args below meth c Q D cI cZ b base n0 s0 pc L st (sh, h) := by
  obtain ⟨hx, hb, hml, hown, hts, hK, hXs, hbb, hsz, hini, hNw⟩ := hX
  have hl1 : len = 2 := hln
  subst hl1
  replace hF := pm_pi_F hF
  obtain ⟨x, r, rfl, hF⟩ := hF
  replace hF := pm_s1_F hF
  obtain ⟨hi, hF⟩ := hF
  exact ⟨hF.1, fun hLn H locs ls cells slots hP hS hL hc hs => lv_istore hx hb hd hL.lv hi rfl (fun ls' h' => hF.2 (by rw [List.length_set, pm_k2_len]; exact hLn) H locs ls' cells slots hP hS (pm_has.s1 hi h') hc hs)⟩
set_option maxHeartbeats 4000000 in
theorem pw_istore_n {i : Fin 4} (hX : pm_X p s m args meth c own bytes ret ini D cI cZ b base n0 sl xs nL) (hdp : hdB = true → 1 ≤ R.frames ∧ 40 ≤ R.locals) (hd : decode bytes pc = .ok (.istore_n i, len)) (hln : len = pm_ln (.istore_n i) len) (hF : pm_F False (pm_T1 p l e R s m args below meth c Q D cI cZ b base n0 s0 bytes ret) (pm_K p l e R s m args below meth c Q D cI cZ b base n0 s0) (pm_C1 p l e R s m args below meth c Q D cI cZ b base n0 s0 sl xs) sl xs own ret ini hdB (.istore_n i) pc L st sh h) : pm_K p l e R s m args below meth c Q D cI cZ b base n0 s0 pc L st (sh, h) := by
  obtain ⟨hx, hb, hml, hown, hts, hK, hXs, hbb, hsz, hini, hNw⟩ := hX
  have hl1 : len = 1 := hln
  subst hl1
  replace hF := pm_pi_F hF
  obtain ⟨x, r, rfl, hF⟩ := hF
  replace hF := pm_s1_F hF
  obtain ⟨hi, hF⟩ := hF
  exact ⟨hF.1, fun hLn H locs ls cells slots hP hS hL hc hs => lv_istore_n hx hb hd rfl hL.lv hi rfl (fun ls' h' => hF.2 (by rw [List.length_set, pm_k2_len]; exact hLn) H locs ls' cells slots hP hS (pm_has.s1 hi h') hc hs)⟩
set_option maxHeartbeats 4000000 in
theorem pw_astore_n {i : Fin 4} (hX : pm_X p s m args meth c own bytes ret ini D cI cZ b base n0 sl xs nL) (hdp : hdB = true → 1 ≤ R.frames ∧ 40 ≤ R.locals) (hd : decode bytes pc = .ok (.astore_n i, len)) (hln : len = pm_ln (.astore_n i) len) (hF : pm_F False (pm_T1 p l e R s m args below meth c Q D cI cZ b base n0 s0 bytes ret) (pm_K p l e R s m args below meth c Q D cI cZ b base n0 s0) (pm_C1 p l e R s m args below meth c Q D cI cZ b base n0 s0 sl xs) sl xs own ret ini hdB (.astore_n i) pc L st sh h) : pm_K p l e R s m args below meth c Q D cI cZ b base n0 s0 pc L st (sh, h) := by
  obtain ⟨hx, hb, hml, hown, hts, hK, hXs, hbb, hsz, hini, hNw⟩ := hX
  have hl1 : len = 1 := hln
  subst hl1
  replace hF := pm_pr_F hF
  obtain ⟨x, r, rfl, hF⟩ := hF
  replace hF := pm_s1_F hF
  obtain ⟨hi, hF⟩ := hF
  exact ⟨hF.1, fun hLn H locs ls cells slots hP hS hL hc hs => lv_astore_n hx hb hd rfl hL.lv hi rfl (fun ls' h' => hF.2 (by rw [List.length_set, pm_k2_len]; exact hLn) H locs ls' cells slots hP hS (pm_has.s1 hi h') hc hs)⟩
set_option maxHeartbeats 4000000 in
theorem pw_lstore {i : Nat} (hX : pm_X p s m args meth c own bytes ret ini D cI cZ b base n0 sl xs nL) (hdp : hdB = true → 1 ≤ R.frames ∧ 40 ≤ R.locals) (hd : decode bytes pc = .ok (.lstore i, len)) (hln : len = pm_ln (.lstore i) len) (hF : pm_F False (pm_T1 p l e R s m args below meth c Q D cI cZ b base n0 s0 bytes ret) (pm_K p l e R s m args below meth c Q D cI cZ b base n0 s0) (pm_C1 p l e R s m args below meth c Q D cI cZ b base n0 s0 sl xs) sl xs own ret ini hdB (.lstore i) pc L st sh h) : pm_K p l e R s m args below meth c Q D cI cZ b base n0 s0 pc L st (sh, h) := by
  obtain ⟨hx, hb, hml, hown, hts, hK, hXs, hbb, hsz, hini, hNw⟩ := hX
  have hl1 : len = 2 := hln
  subst hl1
  replace hF := pm_pl_F hF
  obtain ⟨x, r, rfl, hF⟩ := hF
  replace hF := pm_s2_F hF
  obtain ⟨hi, hF⟩ := hF
  exact ⟨hF.1, fun hLn H locs ls cells slots hP hS hL hc hs => lv_lstore hx hb hd hL.lv hi rfl (fun ls' h' => hF.2 (by rw [List.length_set, List.length_set, pm_k2_len]; exact hLn) H locs ls' cells slots hP hS (pm_has.s2 hi h') hc hs)⟩
set_option maxHeartbeats 4000000 in
theorem pw_iinc {i : Nat} {n : Int} (hX : pm_X p s m args meth c own bytes ret ini D cI cZ b base n0 sl xs nL) (hdp : hdB = true → 1 ≤ R.frames ∧ 40 ≤ R.locals) (hd : decode bytes pc = .ok (.iinc i n, len)) (hln : len = pm_ln (.iinc i n) len) (hF : pm_F False (pm_T1 p l e R s m args below meth c Q D cI cZ b base n0 s0 bytes ret) (pm_K p l e R s m args below meth c Q D cI cZ b base n0 s0) (pm_C1 p l e R s m args below meth c Q D cI cZ b base n0 s0 sl xs) sl xs own ret ini hdB (.iinc i n) pc L st sh h) : pm_K p l e R s m args below meth c Q D cI cZ b base n0 s0 pc L st (sh, h) := by
  obtain ⟨hx, hb, hml, hown, hts, hK, hXs, hbb, hsz, hini, hNw⟩ := hX
  have hl1 : len = 3 := hln
  subst hl1
  replace hF := pm_ld_F hF
  obtain ⟨v, hv, hF⟩ := hF
  replace hF := pm_vi_F hF
  obtain ⟨x, rfl, hF⟩ := hF
  replace hF := pm_s1_F hF
  obtain ⟨hi, hF⟩ := hF
  refine ⟨hF.1, fun hLn H locs ls cells slots hP hS hL hc hs => ?_⟩
  have hm : (i, Value.int x) ∈ pm_al (pm_ad b base) L := pm_al_mem.mpr ⟨_, hv, rfl⟩
  obtain ⟨k, hk⟩ := List.getElem?_of_mem hm
  exact lv_iinc hx hb hd hL.lv hk (by rw [pm_int_eq]) hi rfl (fun ls' h' => hF.2 (by rw [List.length_set, pm_k2_len]; exact hLn) H locs ls' cells slots hP hS (pm_has.s1 hi h') hc hs)
set_option maxHeartbeats 4000000 in
theorem pw_iadd (hX : pm_X p s m args meth c own bytes ret ini D cI cZ b base n0 sl xs nL) (hdp : hdB = true → 1 ≤ R.frames ∧ 40 ≤ R.locals) (hd : decode bytes pc = .ok (.iadd, len)) (hln : len = pm_ln (.iadd) len) (hF : pm_F False (pm_T1 p l e R s m args below meth c Q D cI cZ b base n0 s0 bytes ret) (pm_K p l e R s m args below meth c Q D cI cZ b base n0 s0) (pm_C1 p l e R s m args below meth c Q D cI cZ b base n0 s0 sl xs) sl xs own ret ini hdB (.iadd) pc L st sh h) : pm_K p l e R s m args below meth c Q D cI cZ b base n0 s0 pc L st (sh, h) := by
  obtain ⟨hx, hb, hml, hown, hts, hK, hXs, hbb, hsz, hini, hNw⟩ := hX
  have hl1 : len = 1 := hln
  subst hl1
  replace hF := pm_pi_F hF
  obtain ⟨y, r, rfl, hF⟩ := hF
  replace hF := pm_pi_F hF
  obtain ⟨x, r, rfl, hF⟩ := hF
  exact ⟨hF.1, fun hLn H locs ls cells slots hP hS hL hc hs => lv_iadd hx hb hd (hF.2 hLn H locs ls cells slots hP hS hL hc hs)⟩
set_option maxHeartbeats 4000000 in
theorem pw_isub (hX : pm_X p s m args meth c own bytes ret ini D cI cZ b base n0 sl xs nL) (hdp : hdB = true → 1 ≤ R.frames ∧ 40 ≤ R.locals) (hd : decode bytes pc = .ok (.isub, len)) (hln : len = pm_ln (.isub) len) (hF : pm_F False (pm_T1 p l e R s m args below meth c Q D cI cZ b base n0 s0 bytes ret) (pm_K p l e R s m args below meth c Q D cI cZ b base n0 s0) (pm_C1 p l e R s m args below meth c Q D cI cZ b base n0 s0 sl xs) sl xs own ret ini hdB (.isub) pc L st sh h) : pm_K p l e R s m args below meth c Q D cI cZ b base n0 s0 pc L st (sh, h) := by
  obtain ⟨hx, hb, hml, hown, hts, hK, hXs, hbb, hsz, hini, hNw⟩ := hX
  have hl1 : len = 1 := hln
  subst hl1
  replace hF := pm_pi_F hF
  obtain ⟨y, r, rfl, hF⟩ := hF
  replace hF := pm_pi_F hF
  obtain ⟨x, r, rfl, hF⟩ := hF
  exact ⟨hF.1, fun hLn H locs ls cells slots hP hS hL hc hs => lv_isub hx hb hd (hF.2 hLn H locs ls cells slots hP hS hL hc hs)⟩
set_option maxHeartbeats 4000000 in
theorem pw_imul (hX : pm_X p s m args meth c own bytes ret ini D cI cZ b base n0 sl xs nL) (hdp : hdB = true → 1 ≤ R.frames ∧ 40 ≤ R.locals) (hd : decode bytes pc = .ok (.imul, len)) (hln : len = pm_ln (.imul) len) (hF : pm_F False (pm_T1 p l e R s m args below meth c Q D cI cZ b base n0 s0 bytes ret) (pm_K p l e R s m args below meth c Q D cI cZ b base n0 s0) (pm_C1 p l e R s m args below meth c Q D cI cZ b base n0 s0 sl xs) sl xs own ret ini hdB (.imul) pc L st sh h) : pm_K p l e R s m args below meth c Q D cI cZ b base n0 s0 pc L st (sh, h) := by
  obtain ⟨hx, hb, hml, hown, hts, hK, hXs, hbb, hsz, hini, hNw⟩ := hX
  have hl1 : len = 1 := hln
  subst hl1
  replace hF := pm_pi_F hF
  obtain ⟨y, r, rfl, hF⟩ := hF
  replace hF := pm_pi_F hF
  obtain ⟨x, r, rfl, hF⟩ := hF
  exact ⟨hF.1, fun hLn H locs ls cells slots hP hS hL hc hs => lv_imul hx hb hd (hF.2 hLn H locs ls cells slots hP hS hL hc hs)⟩
set_option maxHeartbeats 4000000 in
theorem pw_ishl (hX : pm_X p s m args meth c own bytes ret ini D cI cZ b base n0 sl xs nL) (hdp : hdB = true → 1 ≤ R.frames ∧ 40 ≤ R.locals) (hd : decode bytes pc = .ok (.ishl, len)) (hln : len = pm_ln (.ishl) len) (hF : pm_F False (pm_T1 p l e R s m args below meth c Q D cI cZ b base n0 s0 bytes ret) (pm_K p l e R s m args below meth c Q D cI cZ b base n0 s0) (pm_C1 p l e R s m args below meth c Q D cI cZ b base n0 s0 sl xs) sl xs own ret ini hdB (.ishl) pc L st sh h) : pm_K p l e R s m args below meth c Q D cI cZ b base n0 s0 pc L st (sh, h) := by
  obtain ⟨hx, hb, hml, hown, hts, hK, hXs, hbb, hsz, hini, hNw⟩ := hX
  have hl1 : len = 1 := hln
  subst hl1
  replace hF := pm_pi_F hF
  obtain ⟨y, r, rfl, hF⟩ := hF
  replace hF := pm_pi_F hF
  obtain ⟨x, r, rfl, hF⟩ := hF
  exact ⟨hF.1, fun hLn H locs ls cells slots hP hS hL hc hs => lv_ishl hx hb hd (hF.2 hLn H locs ls cells slots hP hS hL hc hs)⟩
set_option maxHeartbeats 4000000 in
theorem pw_ishr (hX : pm_X p s m args meth c own bytes ret ini D cI cZ b base n0 sl xs nL) (hdp : hdB = true → 1 ≤ R.frames ∧ 40 ≤ R.locals) (hd : decode bytes pc = .ok (.ishr, len)) (hln : len = pm_ln (.ishr) len) (hF : pm_F False (pm_T1 p l e R s m args below meth c Q D cI cZ b base n0 s0 bytes ret) (pm_K p l e R s m args below meth c Q D cI cZ b base n0 s0) (pm_C1 p l e R s m args below meth c Q D cI cZ b base n0 s0 sl xs) sl xs own ret ini hdB (.ishr) pc L st sh h) : pm_K p l e R s m args below meth c Q D cI cZ b base n0 s0 pc L st (sh, h) := by
  obtain ⟨hx, hb, hml, hown, hts, hK, hXs, hbb, hsz, hini, hNw⟩ := hX
  have hl1 : len = 1 := hln
  subst hl1
  replace hF := pm_pi_F hF
  obtain ⟨y, r, rfl, hF⟩ := hF
  replace hF := pm_pi_F hF
  obtain ⟨x, r, rfl, hF⟩ := hF
  exact ⟨hF.1, fun hLn H locs ls cells slots hP hS hL hc hs => lv_ishr hx hb hd (hF.2 hLn H locs ls cells slots hP hS hL hc hs)⟩
set_option maxHeartbeats 4000000 in
theorem pw_iand (hX : pm_X p s m args meth c own bytes ret ini D cI cZ b base n0 sl xs nL) (hdp : hdB = true → 1 ≤ R.frames ∧ 40 ≤ R.locals) (hd : decode bytes pc = .ok (.iand, len)) (hln : len = pm_ln (.iand) len) (hF : pm_F False (pm_T1 p l e R s m args below meth c Q D cI cZ b base n0 s0 bytes ret) (pm_K p l e R s m args below meth c Q D cI cZ b base n0 s0) (pm_C1 p l e R s m args below meth c Q D cI cZ b base n0 s0 sl xs) sl xs own ret ini hdB (.iand) pc L st sh h) : pm_K p l e R s m args below meth c Q D cI cZ b base n0 s0 pc L st (sh, h) := by
  obtain ⟨hx, hb, hml, hown, hts, hK, hXs, hbb, hsz, hini, hNw⟩ := hX
  have hl1 : len = 1 := hln
  subst hl1
  replace hF := pm_pi_F hF
  obtain ⟨y, r, rfl, hF⟩ := hF
  replace hF := pm_pi_F hF
  obtain ⟨x, r, rfl, hF⟩ := hF
  exact ⟨hF.1, fun hLn H locs ls cells slots hP hS hL hc hs => lv_iand hx hb hd (hF.2 hLn H locs ls cells slots hP hS hL hc hs)⟩
set_option maxHeartbeats 4000000 in
theorem pw_ior (hX : pm_X p s m args meth c own bytes ret ini D cI cZ b base n0 sl xs nL) (hdp : hdB = true → 1 ≤ R.frames ∧ 40 ≤ R.locals) (hd : decode bytes pc = .ok (.ior, len)) (hln : len = pm_ln (.ior) len) (hF : pm_F False (pm_T1 p l e R s m args below meth c Q D cI cZ b base n0 s0 bytes ret) (pm_K p l e R s m args below meth c Q D cI cZ b base n0 s0) (pm_C1 p l e R s m args below meth c Q D cI cZ b base n0 s0 sl xs) sl xs own ret ini hdB (.ior) pc L st sh h) : pm_K p l e R s m args below meth c Q D cI cZ b base n0 s0 pc L st (sh, h) := by
  obtain ⟨hx, hb, hml, hown, hts, hK, hXs, hbb, hsz, hini, hNw⟩ := hX
  have hl1 : len = 1 := hln
  subst hl1
  replace hF := pm_pi_F hF
  obtain ⟨y, r, rfl, hF⟩ := hF
  replace hF := pm_pi_F hF
  obtain ⟨x, r, rfl, hF⟩ := hF
  exact ⟨hF.1, fun hLn H locs ls cells slots hP hS hL hc hs => lv_ior hx hb hd (hF.2 hLn H locs ls cells slots hP hS hL hc hs)⟩
set_option maxHeartbeats 4000000 in
theorem pw_idiv (hX : pm_X p s m args meth c own bytes ret ini D cI cZ b base n0 sl xs nL) (hdp : hdB = true → 1 ≤ R.frames ∧ 40 ≤ R.locals) (hd : decode bytes pc = .ok (.idiv, len)) (hln : len = pm_ln (.idiv) len) (hF : pm_F False (pm_T1 p l e R s m args below meth c Q D cI cZ b base n0 s0 bytes ret) (pm_K p l e R s m args below meth c Q D cI cZ b base n0 s0) (pm_C1 p l e R s m args below meth c Q D cI cZ b base n0 s0 sl xs) sl xs own ret ini hdB (.idiv) pc L st sh h) : pm_K p l e R s m args below meth c Q D cI cZ b base n0 s0 pc L st (sh, h) := by
  obtain ⟨hx, hb, hml, hown, hts, hK, hXs, hbb, hsz, hini, hNw⟩ := hX
  have hl1 : len = 1 := hln
  subst hl1
  replace hF := pm_pi_F hF
  obtain ⟨y, r, rfl, hF⟩ := hF
  replace hF := pm_pi_F hF
  obtain ⟨x, r, rfl, hF⟩ := hF
  split at hF
  · exact hF.elim
  · next hy => exact ⟨hF.1, fun hLn H locs ls cells slots hP hS hL hc hs => lv_idiv hx hb hd hy (hF.2 hLn H locs ls cells slots hP hS hL hc hs)⟩
set_option maxHeartbeats 4000000 in
theorem pw_irem (hX : pm_X p s m args meth c own bytes ret ini D cI cZ b base n0 sl xs nL) (hdp : hdB = true → 1 ≤ R.frames ∧ 40 ≤ R.locals) (hd : decode bytes pc = .ok (.irem, len)) (hln : len = pm_ln (.irem) len) (hF : pm_F False (pm_T1 p l e R s m args below meth c Q D cI cZ b base n0 s0 bytes ret) (pm_K p l e R s m args below meth c Q D cI cZ b base n0 s0) (pm_C1 p l e R s m args below meth c Q D cI cZ b base n0 s0 sl xs) sl xs own ret ini hdB (.irem) pc L st sh h) : pm_K p l e R s m args below meth c Q D cI cZ b base n0 s0 pc L st (sh, h) := by
  obtain ⟨hx, hb, hml, hown, hts, hK, hXs, hbb, hsz, hini, hNw⟩ := hX
  have hl1 : len = 1 := hln
  subst hl1
  replace hF := pm_pi_F hF
  obtain ⟨y, r, rfl, hF⟩ := hF
  replace hF := pm_pi_F hF
  obtain ⟨x, r, rfl, hF⟩ := hF
  split at hF
  · exact hF.elim
  · next hy => exact ⟨hF.1, fun hLn H locs ls cells slots hP hS hL hc hs => lv_irem hx hb hd hy (hF.2 hLn H locs ls cells slots hP hS hL hc hs)⟩
set_option maxHeartbeats 4000000 in
theorem pw_ldiv (hX : pm_X p s m args meth c own bytes ret ini D cI cZ b base n0 sl xs nL) (hdp : hdB = true → 1 ≤ R.frames ∧ 40 ≤ R.locals) (hd : decode bytes pc = .ok (.ldiv, len)) (hln : len = pm_ln (.ldiv) len) (hF : pm_F False (pm_T1 p l e R s m args below meth c Q D cI cZ b base n0 s0 bytes ret) (pm_K p l e R s m args below meth c Q D cI cZ b base n0 s0) (pm_C1 p l e R s m args below meth c Q D cI cZ b base n0 s0 sl xs) sl xs own ret ini hdB (.ldiv) pc L st sh h) : pm_K p l e R s m args below meth c Q D cI cZ b base n0 s0 pc L st (sh, h) := by
  obtain ⟨hx, hb, hml, hown, hts, hK, hXs, hbb, hsz, hini, hNw⟩ := hX
  have hl1 : len = 1 := hln
  subst hl1
  replace hF := pm_pl_F hF
  obtain ⟨y, r, rfl, hF⟩ := hF
  replace hF := pm_pl_F hF
  obtain ⟨x, r, rfl, hF⟩ := hF
  split at hF
  · exact hF.elim
  · next hy => exact ⟨hF.1, fun hLn H locs ls cells slots hP hS hL hc hs => lv_ldiv hx hb hd hy (hF.2 hLn H locs ls cells slots hP hS hL hc hs)⟩
set_option maxHeartbeats 4000000 in
theorem pw_lrem (hX : pm_X p s m args meth c own bytes ret ini D cI cZ b base n0 sl xs nL) (hdp : hdB = true → 1 ≤ R.frames ∧ 40 ≤ R.locals) (hd : decode bytes pc = .ok (.lrem, len)) (hln : len = pm_ln (.lrem) len) (hF : pm_F False (pm_T1 p l e R s m args below meth c Q D cI cZ b base n0 s0 bytes ret) (pm_K p l e R s m args below meth c Q D cI cZ b base n0 s0) (pm_C1 p l e R s m args below meth c Q D cI cZ b base n0 s0 sl xs) sl xs own ret ini hdB (.lrem) pc L st sh h) : pm_K p l e R s m args below meth c Q D cI cZ b base n0 s0 pc L st (sh, h) := by
  obtain ⟨hx, hb, hml, hown, hts, hK, hXs, hbb, hsz, hini, hNw⟩ := hX
  have hl1 : len = 1 := hln
  subst hl1
  replace hF := pm_pl_F hF
  obtain ⟨y, r, rfl, hF⟩ := hF
  replace hF := pm_pl_F hF
  obtain ⟨x, r, rfl, hF⟩ := hF
  split at hF
  · exact hF.elim
  · next hy => exact ⟨hF.1, fun hLn H locs ls cells slots hP hS hL hc hs => lv_lrem hx hb hd hy (hF.2 hLn H locs ls cells slots hP hS hL hc hs)⟩
set_option maxHeartbeats 4000000 in
theorem pw_i2l (hX : pm_X p s m args meth c own bytes ret ini D cI cZ b base n0 sl xs nL) (hdp : hdB = true → 1 ≤ R.frames ∧ 40 ≤ R.locals) (hd : decode bytes pc = .ok (.i2l, len)) (hln : len = pm_ln (.i2l) len) (hF : pm_F False (pm_T1 p l e R s m args below meth c Q D cI cZ b base n0 s0 bytes ret) (pm_K p l e R s m args below meth c Q D cI cZ b base n0 s0) (pm_C1 p l e R s m args below meth c Q D cI cZ b base n0 s0 sl xs) sl xs own ret ini hdB (.i2l) pc L st sh h) : pm_K p l e R s m args below meth c Q D cI cZ b base n0 s0 pc L st (sh, h) := by
  obtain ⟨hx, hb, hml, hown, hts, hK, hXs, hbb, hsz, hini, hNw⟩ := hX
  have hl1 : len = 1 := hln
  subst hl1
  replace hF := pm_pi_F hF
  obtain ⟨x, r, rfl, hF⟩ := hF
  exact ⟨hF.1, fun hLn H locs ls cells slots hP hS hL hc hs => lv_i2l hx hb hd rfl (hF.2 hLn H locs ls cells slots hP hS hL hc hs)⟩
set_option maxHeartbeats 4000000 in
theorem pw_l2i (hX : pm_X p s m args meth c own bytes ret ini D cI cZ b base n0 sl xs nL) (hdp : hdB = true → 1 ≤ R.frames ∧ 40 ≤ R.locals) (hd : decode bytes pc = .ok (.l2i, len)) (hln : len = pm_ln (.l2i) len) (hF : pm_F False (pm_T1 p l e R s m args below meth c Q D cI cZ b base n0 s0 bytes ret) (pm_K p l e R s m args below meth c Q D cI cZ b base n0 s0) (pm_C1 p l e R s m args below meth c Q D cI cZ b base n0 s0 sl xs) sl xs own ret ini hdB (.l2i) pc L st sh h) : pm_K p l e R s m args below meth c Q D cI cZ b base n0 s0 pc L st (sh, h) := by
  obtain ⟨hx, hb, hml, hown, hts, hK, hXs, hbb, hsz, hini, hNw⟩ := hX
  have hl1 : len = 1 := hln
  subst hl1
  replace hF := pm_pl_F hF
  obtain ⟨x, r, rfl, hF⟩ := hF
  exact ⟨hF.1, fun hLn H locs ls cells slots hP hS hL hc hs => lv_l2i hx hb hd rfl (hF.2 hLn H locs ls cells slots hP hS hL hc hs)⟩
set_option maxHeartbeats 4000000 in
theorem pw_lmul (hX : pm_X p s m args meth c own bytes ret ini D cI cZ b base n0 sl xs nL) (hdp : hdB = true → 1 ≤ R.frames ∧ 40 ≤ R.locals) (hd : decode bytes pc = .ok (.lmul, len)) (hln : len = pm_ln (.lmul) len) (hF : pm_F False (pm_T1 p l e R s m args below meth c Q D cI cZ b base n0 s0 bytes ret) (pm_K p l e R s m args below meth c Q D cI cZ b base n0 s0) (pm_C1 p l e R s m args below meth c Q D cI cZ b base n0 s0 sl xs) sl xs own ret ini hdB (.lmul) pc L st sh h) : pm_K p l e R s m args below meth c Q D cI cZ b base n0 s0 pc L st (sh, h) := by
  obtain ⟨hx, hb, hml, hown, hts, hK, hXs, hbb, hsz, hini, hNw⟩ := hX
  have hl1 : len = 1 := hln
  subst hl1
  replace hF := pm_pl_F hF
  obtain ⟨y, r, rfl, hF⟩ := hF
  replace hF := pm_pl_F hF
  obtain ⟨x, r, rfl, hF⟩ := hF
  exact ⟨hF.1, fun hLn H locs ls cells slots hP hS hL hc hs => lv_lmul hx hb hd (hF.2 hLn H locs ls cells slots hP hS hL hc hs)⟩
set_option maxHeartbeats 4000000 in
theorem pw_lcmp (hX : pm_X p s m args meth c own bytes ret ini D cI cZ b base n0 sl xs nL) (hdp : hdB = true → 1 ≤ R.frames ∧ 40 ≤ R.locals) (hd : decode bytes pc = .ok (.lcmp, len)) (hln : len = pm_ln (.lcmp) len) (hF : pm_F False (pm_T1 p l e R s m args below meth c Q D cI cZ b base n0 s0 bytes ret) (pm_K p l e R s m args below meth c Q D cI cZ b base n0 s0) (pm_C1 p l e R s m args below meth c Q D cI cZ b base n0 s0 sl xs) sl xs own ret ini hdB (.lcmp) pc L st sh h) : pm_K p l e R s m args below meth c Q D cI cZ b base n0 s0 pc L st (sh, h) := by
  obtain ⟨hx, hb, hml, hown, hts, hK, hXs, hbb, hsz, hini, hNw⟩ := hX
  have hl1 : len = 1 := hln
  subst hl1
  replace hF := pm_pl_F hF
  obtain ⟨y, r, rfl, hF⟩ := hF
  replace hF := pm_pl_F hF
  obtain ⟨x, r, rfl, hF⟩ := hF
  exact ⟨hF.1, fun hLn H locs ls cells slots hP hS hL hc hs => W.lcmp hx hb hd (hF.2 hLn H locs ls cells slots hP hS hL hc hs)⟩
set_option maxHeartbeats 4000000 in
theorem pw_dup (hX : pm_X p s m args meth c own bytes ret ini D cI cZ b base n0 sl xs nL) (hdp : hdB = true → 1 ≤ R.frames ∧ 40 ≤ R.locals) (hd : decode bytes pc = .ok (.dup, len)) (hln : len = pm_ln (.dup) len) (hF : pm_F False (pm_T1 p l e R s m args below meth c Q D cI cZ b base n0 s0 bytes ret) (pm_K p l e R s m args below meth c Q D cI cZ b base n0 s0) (pm_C1 p l e R s m args below meth c Q D cI cZ b base n0 s0 sl xs) sl xs own ret ini hdB (.dup) pc L st sh h) : pm_K p l e R s m args below meth c Q D cI cZ b base n0 s0 pc L st (sh, h) := by
  obtain ⟨hx, hb, hml, hown, hts, hK, hXs, hbb, hsz, hini, hNw⟩ := hX
  have hl1 : len = 1 := hln
  subst hl1
  replace hF := pm_p1_F hF
  obtain ⟨v, r, rfl, hc1, hF⟩ := hF
  exact ⟨hF.1, fun hLn H locs ls cells slots hP hS hL hc hs => lv_dup hx hb hd ((pm_cv_cat _ v).trans hc1) (hF.2 hLn H locs ls cells slots hP hS hL hc hs)⟩
set_option maxHeartbeats 4000000 in
theorem pw_dup2 (hX : pm_X p s m args meth c own bytes ret ini D cI cZ b base n0 sl xs nL) (hdp : hdB = true → 1 ≤ R.frames ∧ 40 ≤ R.locals) (hd : decode bytes pc = .ok (.dup2, len)) (hln : len = pm_ln (.dup2) len) (hF : pm_F False (pm_T1 p l e R s m args below meth c Q D cI cZ b base n0 s0 bytes ret) (pm_K p l e R s m args below meth c Q D cI cZ b base n0 s0) (pm_C1 p l e R s m args below meth c Q D cI cZ b base n0 s0 sl xs) sl xs own ret ini hdB (.dup2) pc L st sh h) : pm_K p l e R s m args below meth c Q D cI cZ b base n0 s0 pc L st (sh, h) := by
  obtain ⟨hx, hb, hml, hown, hts, hK, hXs, hbb, hsz, hini, hNw⟩ := hX
  have hl1 : len = 1 := hln
  subst hl1
  replace hF := pm_p1_F hF
  obtain ⟨v, r, rfl, hc1, hF⟩ := hF
  replace hF := pm_p1_F hF
  obtain ⟨u, r, rfl, hc2, hF⟩ := hF
  exact ⟨hF.1, fun hLn H locs ls cells slots hP hS hL hc hs => lv_dup2_11 hx hb hd ((pm_cv_cat _ v).trans hc1) ((pm_cv_cat _ u).trans hc2) (hF.2 hLn H locs ls cells slots hP hS hL hc hs)⟩
set_option maxHeartbeats 4000000 in
theorem pw_pop (hX : pm_X p s m args meth c own bytes ret ini D cI cZ b base n0 sl xs nL) (hdp : hdB = true → 1 ≤ R.frames ∧ 40 ≤ R.locals) (hd : decode bytes pc = .ok (.pop, len)) (hln : len = pm_ln (.pop) len) (hF : pm_F False (pm_T1 p l e R s m args below meth c Q D cI cZ b base n0 s0 bytes ret) (pm_K p l e R s m args below meth c Q D cI cZ b base n0 s0) (pm_C1 p l e R s m args below meth c Q D cI cZ b base n0 s0 sl xs) sl xs own ret ini hdB (.pop) pc L st sh h) : pm_K p l e R s m args below meth c Q D cI cZ b base n0 s0 pc L st (sh, h) := by
  obtain ⟨hx, hb, hml, hown, hts, hK, hXs, hbb, hsz, hini, hNw⟩ := hX
  have hl1 : len = 1 := hln
  subst hl1
  replace hF := pm_p1_F hF
  obtain ⟨v, r, rfl, hc1, hF⟩ := hF
  exact ⟨hF.1, fun hLn H locs ls cells slots hP hS hL hc hs => lv_pop hx hb hd ((pm_cv_cat _ v).trans hc1) (hF.2 hLn H locs ls cells slots hP hS hL hc hs)⟩
set_option maxHeartbeats 4000000 in
theorem pw_goto {off : Int} (hX : pm_X p s m args meth c own bytes ret ini D cI cZ b base n0 sl xs nL) (hdp : hdB = true → 1 ≤ R.frames ∧ 40 ≤ R.locals) (hd : decode bytes pc = .ok (.goto off, len)) (hln : len = pm_ln (.goto off) len) (hF : pm_F False (pm_T1 p l e R s m args below meth c Q D cI cZ b base n0 s0 bytes ret) (pm_K p l e R s m args below meth c Q D cI cZ b base n0 s0) (pm_C1 p l e R s m args below meth c Q D cI cZ b base n0 s0 sl xs) sl xs own ret ini hdB (.goto off) pc L st sh h) : pm_K p l e R s m args below meth c Q D cI cZ b base n0 s0 pc L st (sh, h) := by
  obtain ⟨hx, hb, hml, hown, hts, hK, hXs, hbb, hsz, hini, hNw⟩ := hX
  have hl1 : len = 3 := hln
  subst hl1
  replace hF := pm_j_F hF
  obtain ⟨t, ht, hF⟩ := hF
  exact ⟨hF.1, fun hLn H locs ls cells slots hP hS hL hc hs => lv_goto hx hb hd ht (hF.2 hLn H locs ls cells slots hP hS hL hc hs)⟩
set_option maxHeartbeats 4000000 in
theorem pw_ifCond {cd : ClassFile.Cond} {off : Int} (hX : pm_X p s m args meth c own bytes ret ini D cI cZ b base n0 sl xs nL) (hdp : hdB = true → 1 ≤ R.frames ∧ 40 ≤ R.locals) (hd : decode bytes pc = .ok (.ifCond cd off, len)) (hln : len = pm_ln (.ifCond cd off) len) (hF : pm_F False (pm_T1 p l e R s m args below meth c Q D cI cZ b base n0 s0 bytes ret) (pm_K p l e R s m args below meth c Q D cI cZ b base n0 s0) (pm_C1 p l e R s m args below meth c Q D cI cZ b base n0 s0 sl xs) sl xs own ret ini hdB (.ifCond cd off) pc L st sh h) : pm_K p l e R s m args below meth c Q D cI cZ b base n0 s0 pc L st (sh, h) := by
  obtain ⟨hx, hb, hml, hown, hts, hK, hXs, hbb, hsz, hini, hNw⟩ := hX
  have hl1 : len = 3 := hln
  subst hl1
  replace hF := pm_pi_F hF
  obtain ⟨x, r, rfl, hF⟩ := hF
  replace hF := pm_j_F hF
  obtain ⟨t, ht, hF⟩ := hF
  cases cd with
  | eq =>
    simp only [pm_c1] at hF
    split at hF
    · next hq => exact ⟨hF.1, fun hLn H locs ls cells slots hP hS hL hc hs => lv_if_eq hx hb hd ht (fun _ => hF.2 hLn H locs ls cells slots hP hS hL hc hs) (fun q => absurd hq q)⟩
    · next hq => exact ⟨hF.1, fun hLn H locs ls cells slots hP hS hL hc hs => lv_if_eq hx hb hd ht (fun q => absurd q hq) (fun _ => hF.2 hLn H locs ls cells slots hP hS hL hc hs)⟩
  | ne =>
    simp only [pm_c1] at hF
    split at hF
    · next hq => exact ⟨hF.1, fun hLn H locs ls cells slots hP hS hL hc hs => lv_if_ne hx hb hd ht (fun q => absurd hq q) (fun _ => hF.2 hLn H locs ls cells slots hP hS hL hc hs)⟩
    · next hq => exact ⟨hF.1, fun hLn H locs ls cells slots hP hS hL hc hs => lv_if_ne hx hb hd ht (fun _ => hF.2 hLn H locs ls cells slots hP hS hL hc hs) (fun q => absurd q hq)⟩
  | lt =>
    simp only [pm_c1] at hF
    split at hF
    · next hq => exact ⟨hF.1, fun hLn H locs ls cells slots hP hS hL hc hs => lv_if_lt hx hb hd ht (fun _ => hF.2 hLn H locs ls cells slots hP hS hL hc hs) (fun q => absurd hq q)⟩
    · next hq => exact ⟨hF.1, fun hLn H locs ls cells slots hP hS hL hc hs => lv_if_lt hx hb hd ht (fun q => absurd q hq) (fun _ => hF.2 hLn H locs ls cells slots hP hS hL hc hs)⟩
  | ge =>
    simp only [pm_c1] at hF
    split at hF
    · next hq => exact ⟨hF.1, fun hLn H locs ls cells slots hP hS hL hc hs => lv_if_ge hx hb hd ht (fun _ => hF.2 hLn H locs ls cells slots hP hS hL hc hs) (fun q => absurd hq q)⟩
    · next hq => exact ⟨hF.1, fun hLn H locs ls cells slots hP hS hL hc hs => lv_if_ge hx hb hd ht (fun q => absurd q hq) (fun _ => hF.2 hLn H locs ls cells slots hP hS hL hc hs)⟩
  | gt =>
    simp only [pm_c1] at hF
    split at hF
    · next hq => exact ⟨hF.1, fun hLn H locs ls cells slots hP hS hL hc hs => lv_if_gt hx hb hd ht (fun _ => hF.2 hLn H locs ls cells slots hP hS hL hc hs) (fun q => absurd hq q)⟩
    · next hq => exact ⟨hF.1, fun hLn H locs ls cells slots hP hS hL hc hs => lv_if_gt hx hb hd ht (fun q => absurd q hq) (fun _ => hF.2 hLn H locs ls cells slots hP hS hL hc hs)⟩
  | le =>
    simp only [pm_c1] at hF
    split at hF
    · next hq => exact ⟨hF.1, fun hLn H locs ls cells slots hP hS hL hc hs => lv_if_le hx hb hd ht (fun _ => hF.2 hLn H locs ls cells slots hP hS hL hc hs) (fun q => absurd hq q)⟩
    · next hq => exact ⟨hF.1, fun hLn H locs ls cells slots hP hS hL hc hs => lv_if_le hx hb hd ht (fun q => absurd q hq) (fun _ => hF.2 hLn H locs ls cells slots hP hS hL hc hs)⟩
set_option maxHeartbeats 4000000 in
theorem pw_if_icmp {cd : ClassFile.Cond} {off : Int} (hX : pm_X p s m args meth c own bytes ret ini D cI cZ b base n0 sl xs nL) (hdp : hdB = true → 1 ≤ R.frames ∧ 40 ≤ R.locals) (hd : decode bytes pc = .ok (.if_icmp cd off, len)) (hln : len = pm_ln (.if_icmp cd off) len) (hF : pm_F False (pm_T1 p l e R s m args below meth c Q D cI cZ b base n0 s0 bytes ret) (pm_K p l e R s m args below meth c Q D cI cZ b base n0 s0) (pm_C1 p l e R s m args below meth c Q D cI cZ b base n0 s0 sl xs) sl xs own ret ini hdB (.if_icmp cd off) pc L st sh h) : pm_K p l e R s m args below meth c Q D cI cZ b base n0 s0 pc L st (sh, h) := by
  obtain ⟨hx, hb, hml, hown, hts, hK, hXs, hbb, hsz, hini, hNw⟩ := hX
  have hl1 : len = 3 := hln
  subst hl1
  replace hF := pm_pi_F hF
  obtain ⟨y, r, rfl, hF⟩ := hF
  replace hF := pm_pi_F hF
  obtain ⟨x, r, rfl, hF⟩ := hF
  replace hF := pm_j_F hF
  obtain ⟨t, ht, hF⟩ := hF
  cases cd with
  | eq =>
    simp only [pm_c2] at hF
    split at hF
    · next hq => exact ⟨hF.1, fun hLn H locs ls cells slots hP hS hL hc hs => lv_icmp_eq hx hb hd ht (fun _ => hF.2 hLn H locs ls cells slots hP hS hL hc hs) (fun q => absurd hq q)⟩
    · next hq => exact ⟨hF.1, fun hLn H locs ls cells slots hP hS hL hc hs => lv_icmp_eq hx hb hd ht (fun q => absurd q hq) (fun _ => hF.2 hLn H locs ls cells slots hP hS hL hc hs)⟩
  | ne =>
    simp only [pm_c2] at hF
    split at hF
    · next hq => exact ⟨hF.1, fun hLn H locs ls cells slots hP hS hL hc hs => lv_icmp_ne hx hb hd ht (fun q => absurd hq q) (fun _ => hF.2 hLn H locs ls cells slots hP hS hL hc hs)⟩
    · next hq => exact ⟨hF.1, fun hLn H locs ls cells slots hP hS hL hc hs => lv_icmp_ne hx hb hd ht (fun _ => hF.2 hLn H locs ls cells slots hP hS hL hc hs) (fun q => absurd q hq)⟩
  | lt =>
    simp only [pm_c2] at hF
    split at hF
    · next hq => exact ⟨hF.1, fun hLn H locs ls cells slots hP hS hL hc hs => lv_icmp_lt hx hb hd ht (fun _ => hF.2 hLn H locs ls cells slots hP hS hL hc hs) (fun q => absurd hq q)⟩
    · next hq => exact ⟨hF.1, fun hLn H locs ls cells slots hP hS hL hc hs => lv_icmp_lt hx hb hd ht (fun q => absurd q hq) (fun _ => hF.2 hLn H locs ls cells slots hP hS hL hc hs)⟩
  | ge =>
    simp only [pm_c2] at hF
    split at hF
    · next hq => exact ⟨hF.1, fun hLn H locs ls cells slots hP hS hL hc hs => lv_icmp_ge hx hb hd ht (fun _ => hF.2 hLn H locs ls cells slots hP hS hL hc hs) (fun q => absurd hq q)⟩
    · next hq => exact ⟨hF.1, fun hLn H locs ls cells slots hP hS hL hc hs => lv_icmp_ge hx hb hd ht (fun q => absurd q hq) (fun _ => hF.2 hLn H locs ls cells slots hP hS hL hc hs)⟩
  | gt =>
    simp only [pm_c2] at hF
    split at hF
    · next hq => exact ⟨hF.1, fun hLn H locs ls cells slots hP hS hL hc hs => lv_icmp_gt hx hb hd ht (fun _ => hF.2 hLn H locs ls cells slots hP hS hL hc hs) (fun q => absurd hq q)⟩
    · next hq => exact ⟨hF.1, fun hLn H locs ls cells slots hP hS hL hc hs => lv_icmp_gt hx hb hd ht (fun q => absurd q hq) (fun _ => hF.2 hLn H locs ls cells slots hP hS hL hc hs)⟩
  | le =>
    simp only [pm_c2] at hF
    split at hF
    · next hq => exact ⟨hF.1, fun hLn H locs ls cells slots hP hS hL hc hs => lv_icmp_le hx hb hd ht (fun _ => hF.2 hLn H locs ls cells slots hP hS hL hc hs) (fun q => absurd hq q)⟩
    · next hq => exact ⟨hF.1, fun hLn H locs ls cells slots hP hS hL hc hs => lv_icmp_le hx hb hd ht (fun q => absurd q hq) (fun _ => hF.2 hLn H locs ls cells slots hP hS hL hc hs)⟩
set_option maxHeartbeats 4000000 in
theorem pw_baload (hX : pm_X p s m args meth c own bytes ret ini D cI cZ b base n0 sl xs nL) (hdp : hdB = true → 1 ≤ R.frames ∧ 40 ≤ R.locals) (hd : decode bytes pc = .ok (.baload, len)) (hln : len = pm_ln (.baload) len) (hF : pm_F False (pm_T1 p l e R s m args below meth c Q D cI cZ b base n0 s0 bytes ret) (pm_K p l e R s m args below meth c Q D cI cZ b base n0 s0) (pm_C1 p l e R s m args below meth c Q D cI cZ b base n0 s0 sl xs) sl xs own ret ini hdB (.baload) pc L st sh h) : pm_K p l e R s m args below meth c Q D cI cZ b base n0 s0 pc L st (sh, h) := by
  obtain ⟨hx, hb, hml, hown, hts, hK, hXs, hbb, hsz, hini, hNw⟩ := hX
  have hl1 : len = 1 := hln
  subst hl1
  replace hF := pm_pi_F hF
  obtain ⟨i, r, rfl, hF⟩ := hF
  replace hF := pm_pr_F hF
  obtain ⟨a, r, rfl, hF⟩ := hF
  replace hF := pm_ar_F hF
  obtain ⟨k, sx, rfl, hk, hk1, hF⟩ := hF
  replace hF := pm_ix_F hF
  obtain ⟨hin, hF⟩ := hF
  obtain ⟨s1, s2, s3⟩ := sx
  subst hk1
  exact ⟨hF.1, fun hLn H locs ls cells slots hP hS hL hc hs => va_zald (a := base + k) (cA := cZ) (n := s2) (f := h k) hx hb hK hP k 1 (pm_ws_z hk) rfl hin hd (hF.2 hLn H locs ls cells slots hP hS hL hc hs)⟩
set_option maxHeartbeats 4000000 in
theorem pw_iaload (hX : pm_X p s m args meth c own bytes ret ini D cI cZ b base n0 sl xs nL) (hdp : hdB = true → 1 ≤ R.frames ∧ 40 ≤ R.locals) (hd : decode bytes pc = .ok (.iaload, len)) (hln : len = pm_ln (.iaload) len) (hF : pm_F False (pm_T1 p l e R s m args below meth c Q D cI cZ b base n0 s0 bytes ret) (pm_K p l e R s m args below meth c Q D cI cZ b base n0 s0) (pm_C1 p l e R s m args below meth c Q D cI cZ b base n0 s0 sl xs) sl xs own ret ini hdB (.iaload) pc L st sh h) : pm_K p l e R s m args below meth c Q D cI cZ b base n0 s0 pc L st (sh, h) := by
  obtain ⟨hx, hb, hml, hown, hts, hK, hXs, hbb, hsz, hini, hNw⟩ := hX
  have hl1 : len = 1 := hln
  subst hl1
  replace hF := pm_pi_F hF
  obtain ⟨i, r, rfl, hF⟩ := hF
  replace hF := pm_pr_F hF
  obtain ⟨a, r, rfl, hF⟩ := hF
  cases a with
  | zero =>
    replace hF := pm_ix_F hF
    obtain ⟨hin, hF⟩ := hF
    exact ⟨hF.1, fun hLn H locs ls cells slots hP hS hL hc hs => va_sld (b := b) hx hb hXs (by omega) (by omega) hS hin hd (hF.2 hLn H locs ls cells slots hP hS hL hc hs)⟩
  | succ a0 =>
    have hF : pm_ar False sh 0 (a0 + 1) _ := hF
    replace hF := pm_ar_F hF
    obtain ⟨k, sx, hka, hk, hk1, hF⟩ := hF
    have hka : a0 = k := by omega
    subst hka
    replace hF := pm_ix_F hF
    obtain ⟨hin, hF⟩ := hF
    obtain ⟨s1, s2, s3⟩ := sx
    subst hk1
    exact ⟨hF.1, fun hLn H locs ls cells slots hP hS hL hc hs => va_iald (a := base + a0) (cA := cI) (n := s2) (f := h a0) hx hb hK hP a0 0 (pm_ws_i hk) rfl hin hd (hF.2 hLn H locs ls cells slots hP hS hL hc hs)⟩
set_option maxHeartbeats 4000000 in
theorem pw_arraylength (hX : pm_X p s m args meth c own bytes ret ini D cI cZ b base n0 sl xs nL) (hdp : hdB = true → 1 ≤ R.frames ∧ 40 ≤ R.locals) (hd : decode bytes pc = .ok (.arraylength, len)) (hln : len = pm_ln (.arraylength) len) (hF : pm_F False (pm_T1 p l e R s m args below meth c Q D cI cZ b base n0 s0 bytes ret) (pm_K p l e R s m args below meth c Q D cI cZ b base n0 s0) (pm_C1 p l e R s m args below meth c Q D cI cZ b base n0 s0 sl xs) sl xs own ret ini hdB (.arraylength) pc L st sh h) : pm_K p l e R s m args below meth c Q D cI cZ b base n0 s0 pc L st (sh, h) := by
  obtain ⟨hx, hb, hml, hown, hts, hK, hXs, hbb, hsz, hini, hNw⟩ := hX
  have hl1 : len = 1 := hln
  subst hl1
  replace hF := pm_pr_F hF
  obtain ⟨a, r, rfl, hF⟩ := hF
  cases a with
  | zero =>
    have hF : pm_K p l e R s m args below meth c Q D cI cZ b base n0 s0 (pc + 1) L (.int (nI sl) :: r) (sh, h) := hF
    exact ⟨hF.1, fun hLn H locs ls cells slots hP hS hL hc hs => va_slen (b := b) hx hb hXs (by omega) (by omega) hS hd (hF.2 hLn H locs ls cells slots hP hS hL hc hs)⟩
  | succ a0 =>
    have hF : pm_ar False sh 0 (a0 + 1) _ := hF
    replace hF := pm_ar_F hF
    obtain ⟨k, sx, hka, hk, hk1, hF⟩ := hF
    have hka : a0 = k := by omega
    subst hka
    obtain ⟨s1, s2, s3⟩ := sx
    subst hk1
    exact ⟨hF.1, fun hLn H locs ls cells slots hP hS hL hc hs => va_alen (a := base + a0) (cA := cI) (x := (s2, .inl (h a0))) (ty := .int) hx hb hK hP a0 0 (pm_ws_i hk) rfl rfl hd (hF.2 hLn H locs ls cells slots hP hS hL hc hs)⟩
set_option maxHeartbeats 4000000 in
theorem pw_iastore (hX : pm_X p s m args meth c own bytes ret ini D cI cZ b base n0 sl xs nL) (hdp : hdB = true → 1 ≤ R.frames ∧ 40 ≤ R.locals) (hd : decode bytes pc = .ok (.iastore, len)) (hln : len = pm_ln (.iastore) len) (hF : pm_F False (pm_T1 p l e R s m args below meth c Q D cI cZ b base n0 s0 bytes ret) (pm_K p l e R s m args below meth c Q D cI cZ b base n0 s0) (pm_C1 p l e R s m args below meth c Q D cI cZ b base n0 s0 sl xs) sl xs own ret ini hdB (.iastore) pc L st sh h) : pm_K p l e R s m args below meth c Q D cI cZ b base n0 s0 pc L st (sh, h) := by
  obtain ⟨hx, hb, hml, hown, hts, hK, hXs, hbb, hsz, hini, hNw⟩ := hX
  have hl1 : len = 1 := hln
  subst hl1
  replace hF := pm_pi_F hF
  obtain ⟨x, r, rfl, hF⟩ := hF
  replace hF := pm_pi_F hF
  obtain ⟨i, r, rfl, hF⟩ := hF
  replace hF := pm_pr_F hF
  obtain ⟨a, r, rfl, hF⟩ := hF
  replace hF := pm_ar_F hF
  obtain ⟨k, sx, rfl, hk, hk1, hF⟩ := hF
  replace hF := pm_ix_F hF
  obtain ⟨hin, hF⟩ := hF
  obtain ⟨s1, s2, s3⟩ := sx
  subst hk1
  refine ⟨hF.1, fun hLn H locs ls cells slots hP hS hL hc hs => va_iast (a := base + k) (cA := cI) (n := s2) (f := h k) hx hb hK hP (pm_D _) hS k 0 (pm_ws_i hk) rfl hin hd (fun H1 locs1 hP1 hD1 hS1 => ?_)⟩
  have hE : pm_e cI cZ (pm_ad b base) (pm_up h k i.toNatClampNeg x) k (0, s2, s3) = .inl (cI, s2, .inl (upd (h k) i.toNatClampNeg x)) := by
    simp only [pm_e, pm_up_same]
  have hP2 : va_P D vwCl (pm_ws cI cZ b base (sh, pm_up h k i.toNatClampNeg x)) H1 := by
    rw [← pm_ws_set (w := (sh, h)) (w' := (sh, pm_up h k i.toNatClampNeg x)) (k := k) rfl hk (fun j hj => ⟨rfl, pm_up_ne hj⟩), hE]
    exact hP1
  exact hF.2 hLn H1 locs1 ls cells slots hP2 hS1 hL hc hs
set_option maxHeartbeats 4000000 in
theorem pw_bastore (hX : pm_X p s m args meth c own bytes ret ini D cI cZ b base n0 sl xs nL) (hdp : hdB = true → 1 ≤ R.frames ∧ 40 ≤ R.locals) (hd : decode bytes pc = .ok (.bastore, len)) (hln : len = pm_ln (.bastore) len) (hF : pm_F False (pm_T1 p l e R s m args below meth c Q D cI cZ b base n0 s0 bytes ret) (pm_K p l e R s m args below meth c Q D cI cZ b base n0 s0) (pm_C1 p l e R s m args below meth c Q D cI cZ b base n0 s0 sl xs) sl xs own ret ini hdB (.bastore) pc L st sh h) : pm_K p l e R s m args below meth c Q D cI cZ b base n0 s0 pc L st (sh, h) := by
  obtain ⟨hx, hb, hml, hown, hts, hK, hXs, hbb, hsz, hini, hNw⟩ := hX
  have hl1 : len = 1 := hln
  subst hl1
  replace hF := pm_pi_F hF
  obtain ⟨x, r, rfl, hF⟩ := hF
  replace hF := pm_pi_F hF
  obtain ⟨i, r, rfl, hF⟩ := hF
  replace hF := pm_pr_F hF
  obtain ⟨a, r, rfl, hF⟩ := hF
  replace hF := pm_ar_F hF
  obtain ⟨k, sx, rfl, hk, hk1, hF⟩ := hF
  replace hF := pm_ix_F hF
  obtain ⟨hin, hF⟩ := hF
  obtain ⟨s1, s2, s3⟩ := sx
  subst hk1
  split at hF
  case isFalse => exact hF.elim
  have hnx : vp_nar .boolean x = x := by
    rename_i hx01
    rcases hx01 with rfl | rfl <;> rfl
  refine ⟨hF.1, fun hLn H locs ls cells slots hP hS hL hc hs => va_zast (a := base + k) (cA := cZ) (n := s2) (f := h k) hx hb hK hP (pm_D _) hS k 1 (pm_ws_z hk) rfl hin hd (fun H1 locs1 hP1 hD1 hS1 => ?_)⟩
  have hE : pm_e cI cZ (pm_ad b base) (pm_up h k i.toNatClampNeg x) k (1, s2, s3) = .inl (cZ, s2, .inl (upd (h k) i.toNatClampNeg (vp_nar .boolean x))) := by
    simp only [pm_e, pm_up_same, hnx]
  have hP2 : va_P D vwCl (pm_ws cI cZ b base (sh, pm_up h k i.toNatClampNeg x)) H1 := by
    rw [← pm_ws_set (w := (sh, h)) (w' := (sh, pm_up h k i.toNatClampNeg x)) (k := k) rfl hk (fun j hj => ⟨rfl, pm_up_ne hj⟩), hE]
    exact hP1
  exact hF.2 hLn H1 locs1 ls cells slots hP2 hS1 hL hc hs
end PMP
