section PMP9
variable {p : Program} {l : Launch} {e : Env} {R : Room} {s : State} {m : MethodId} {args : Array Value} {below : List Frame} {meth : Method} {c : Code} {Q : State → Prop}
variable {D : va_G} {cI cZ : ClassId} {b base n0 s0 sl own pc len nL : Nat} {xs : Nat → Int32} {bytes : ByteArray} {ret : Option FieldType} {ini hdB : Bool} {L : pmL} {st : List Value} {sh : List pmS} {h : pmH}
/-- a new cell stands where the next one is due -/
theorem pm_place {ws : va_W} {w : pmW} {q : Nat} {el : va_E} {H1 : Heap} {cl : List vw_C} (hw : ws = pm_ws cI cZ b base w) (hP1 : va_P D cl (ws ++ [(q, el)]) H1) (hD1 : va_D (fun q => base ≤ q) (ws ++ [(q, el)])) (hz : H1.size ≤ base + w.1.length + 1) : q = base + w.1.length := by
  subst hw
  have h1 : (pm_ws cI cZ b base w ++ [(q, el)])[w.1.length]? = some (q, el) := by
    rw [List.getElem?_append_right (by rw [pm_ws_len]; exact Nat.le_refl _), pm_ws_len, Nat.sub_self]
    rfl
  have hlt : q < H1.size := (hP1 _ _ h1).lt
  have hge : base ≤ q := hD1.2 _ _ h1
  rcases Nat.lt_or_ge q (base + w.1.length) with h | h
  · exfalso
    have hj : q - base < w.1.length := by omega
    have h2 : (pm_ws cI cZ b base w ++ [(q, el)])[q - base]? = some (base + (q - base), pm_e cI cZ (pm_ad b base) w.2 (q - base) w.1[q - base]) := by
      rw [List.getElem?_append_left (by rw [pm_ws_len]; exact hj)]
      exact pm_ws_get (List.getElem?_eq_getElem hj)
    have := hD1.1 _ _ _ _ h1 h2 (by dsimp only; omega)
    omega
  · omega
set_option maxHeartbeats 4000000 in
theorem pw_new {i : Nat} (hX : pm_X p s m args meth c own bytes ret ini D cI cZ b base n0 sl xs nL) (hdp : hdB = true → 1 ≤ R.frames ∧ 40 ≤ R.locals) (hd : decode bytes pc = .ok (.new i, len)) (hln : len = pm_ln (.new i) len) (hF : pm_F False (pm_T1 p l e R s m args below meth c Q D cI cZ b base n0 s0 bytes ret) (pm_K p l e R s m args below meth c Q D cI cZ b base n0 s0) (pm_C1 p l e R s m args below meth c Q D cI cZ b base n0 s0 sl xs) sl xs own ret ini hdB (.new i) pc L st sh h) : pm_K p l e R s m args below meth c Q D cI cZ b base n0 s0 pc L st (sh, h) := by
  obtain ⟨hx, hb, hml, hown, hts, hK, hXs, hbb, hsz, hini, hNw⟩ := hX
  have hl1 : len = 3 := hln
  subst hl1
  replace hF := pm_o_F hF
  obtain ⟨ci, hq, hF⟩ := hF
  obtain ⟨hci, hcl⟩ := pmw_all own _ (pm_lk_mem hq)
  dsimp only at hci hcl
  obtain ⟨hC1, hC2, hC3, hC4, hC5, hC6, hC7⟩ := pmC_all ci hci
  have hB1 := hF.1.1
  have hB2 := hF.1.2
  dsimp only at hB1 hB2
  rw [List.length_append, List.length_singleton] at hB1
  have hs1 : pm_ss (sh ++ [(2, ci, pm_f0 ci)]) = pm_ss sh + pm_N ci := by rw [pm_ss_app]; simp [pm_ss, hC7]
  rw [hs1] at hB2
  have hfs : ∀ j, j < pm_N ci → defaultValue (pm_ty ci j) = vp_V (pm_fv (pm_ad b base) (fun _ => 0) (pm_f0 ci)) j := by
    intro j hj
    unfold vp_V
    rcases (pmF_all ci hci j hj).2 with ⟨h1, h2, -⟩ | ⟨h1, -, h2⟩
    · rw [List.getD_eq_getElem?_getD, pm_fv_get h1, h2]; rfl
    · rw [List.getD_eq_getElem?_getD, pm_fv_get h1]
      rcases h2 with ⟨n, h2⟩ | ⟨t, h2⟩ <;> rw [h2] <;> rfl
  refine ⟨⟨by dsimp only; omega, by dsimp only; omega⟩, fun hLn H locs ls cells slots hP hS hL hc hs => ?_⟩
  dsimp only at hc hs
  refine va_new (c0 := c) (ci := ci) (C := pm_cn ci) (T := pm_T ci) (N := pm_N ci) (own := pm_cn own) (Ts := pm_gt) (fs := pm_fv (pm_ad b base) (fun _ => 0) (pm_f0 ci)) hx hb hts (pm_g_lay hC2) (pm_ty ci) hC3 hown (hts _ (pm_g hcl rfl)) (hts _ (pm_g hC5 rfl)) (hts _ (pm_g hC6 rfl)) hK hP (pm_D _) hS (fun q hq => by omega) hC1 hfs (by omega) (by omega) hd (fun q H1 hP1 hD1 hS1 => ?_)
  refine pm_Wsz (fun hz => ?_)
  have hqe : q = base + sh.length := pm_place (w := (sh, h)) rfl hP1 hD1 (by dsimp only; omega)
  subst hqe
  have hP2 : va_P D vwCl (pm_ws cI cZ b base (sh ++ [(2, ci, pm_f0 ci)], pm_z h sh.length)) H1 := by
    rw [pm_ws_app (h := h) (fun j hj => pm_z_ne (by omega))]
    have hE : pm_e cI cZ (pm_ad b base) (pm_z h sh.length) sh.length (2, ci, pm_f0 ci) = .inr (ci, pm_fv (pm_ad b base) (fun _ => 0) (pm_f0 ci)) := by
      simp only [pm_e, pm_z_same]
    rw [hE]
    exact hP1
  exact hF.2 hLn H1 locs ls (cells + 1) (slots + pm_N ci) hP2 hS1 hL (by dsimp only; rw [List.length_append, List.length_singleton]; omega) (by dsimp only; rw [hs1]; omega)
set_option maxHeartbeats 4000000 in
theorem pw_newarray {a : ArrayType} (hX : pm_X p s m args meth c own bytes ret ini D cI cZ b base n0 sl xs nL) (hdp : hdB = true → 1 ≤ R.frames ∧ 40 ≤ R.locals) (hd : decode bytes pc = .ok (.newarray a, len)) (hln : len = pm_ln (.newarray a) len) (hF : pm_F False (pm_T1 p l e R s m args below meth c Q D cI cZ b base n0 s0 bytes ret) (pm_K p l e R s m args below meth c Q D cI cZ b base n0 s0) (pm_C1 p l e R s m args below meth c Q D cI cZ b base n0 s0 sl xs) sl xs own ret ini hdB (.newarray a) pc L st sh h) : pm_K p l e R s m args below meth c Q D cI cZ b base n0 s0 pc L st (sh, h) := by
  obtain ⟨hx, hb, hml, hown, hts, hK, hXs, hbb, hsz, hini, hNw⟩ := hX
  have hl1 : len = 2 := hln
  subst hl1
  unfold pm_F at hF
  dsimp only at hF
  replace hF := pm_at_F hF
  rcases hF with ⟨rfl, hF⟩ | ⟨rfl, hF⟩
  · replace hF := pm_pi_F hF
    obtain ⟨n, r, rfl, hF⟩ := hF
    split at hF
    · exact hF.elim
    rename_i hn
    have hB1 := hF.1.1
    have hB2 := hF.1.2
    dsimp only at hB1 hB2
    rw [List.length_append, List.length_singleton] at hB1
    have hs1 : pm_ss (sh ++ [(0, n.toNatClampNeg, [])]) = pm_ss sh + n.toNatClampNeg := by rw [pm_ss_app]; simp [pm_ss]
    rw [hs1] at hB2
    refine ⟨⟨by dsimp only; omega, by dsimp only; omega⟩, fun hLn H locs ls cells slots hP hS hL hc hs => ?_⟩
    dsimp only at hc hs
    have hn1 : ¬ n < 0 := fun q => hn (Or.inl q)
    have hn2 : ¬ 100000 < n.toNatClampNeg := fun q => hn (Or.inr q)
    refine va_newa (atype := .int) (ty := .int) (N' := n.toNatClampNeg) (a0 := (n.toNatClampNeg, .inl (fun _ => 0))) hx hb (hts _ (pm_g pm_arr.1 rfl)) rfl hK hP (pm_D _) hS (fun q hq => by omega) (fun _ => rfl) hn1 rfl (by show n.toNatClampNeg * 4 ≤ _; omega) (by omega) (by omega) hd (fun q cA H1 hK1 hP1 hD1 hS1 => ?_)
    have hcA : cA = cI := Option.some.inj ((show s.vm.findClass _ = some cA from (hK1.2 2 (cA, .int) rfl).2).symm.trans (show s.vm.findClass _ = some cI from (hK.2 0 (cI, .int) rfl).2))
    subst hcA
    refine pm_Wsz (fun hz => ?_)
    have hqe : q = base + sh.length := pm_place (w := (sh, h)) rfl hP1 hD1 (by dsimp only; omega)
    subst hqe
    have hP2 : va_P D vwCl (pm_ws cA cZ b base (sh ++ [(0, n.toNatClampNeg, [])], pm_z h sh.length)) H1 := by
      rw [pm_ws_app (h := h) (fun j hj => pm_z_ne (by omega))]
      have hE : pm_e cA cZ (pm_ad b base) (pm_z h sh.length) sh.length (0, n.toNatClampNeg, []) = .inl (cA, n.toNatClampNeg, .inl (fun _ => 0)) := by
        simp only [pm_e, pm_z_same]
      rw [hE]
      exact hP1
    exact hF.2 hLn H1 locs ls (cells + 1) (slots + n.toNatClampNeg) hP2 hS1 hL (by dsimp only; rw [List.length_append, List.length_singleton]; omega) (by dsimp only; rw [hs1]; omega)
  · replace hF := pm_pi_F hF
    obtain ⟨n, r, rfl, hF⟩ := hF
    split at hF
    · exact hF.elim
    rename_i hn
    have hB1 := hF.1.1
    have hB2 := hF.1.2
    dsimp only at hB1 hB2
    rw [List.length_append, List.length_singleton] at hB1
    have hs1 : pm_ss (sh ++ [(1, n.toNatClampNeg, [])]) = pm_ss sh + n.toNatClampNeg := by rw [pm_ss_app]; simp [pm_ss]
    rw [hs1] at hB2
    refine ⟨⟨by dsimp only; omega, by dsimp only; omega⟩, fun hLn H locs ls cells slots hP hS hL hc hs => ?_⟩
    dsimp only at hc hs
    have hn1 : ¬ n < 0 := fun q => hn (Or.inl q)
    have hn2 : ¬ 100000 < n.toNatClampNeg := fun q => hn (Or.inr q)
    refine va_newa (atype := .boolean) (ty := .boolean) (N' := n.toNatClampNeg) (a0 := (n.toNatClampNeg, .inl (fun _ => 0))) hx hb (hts _ (pm_g pm_arr.2 rfl)) rfl hK hP (pm_D _) hS (fun q hq => by omega) (fun _ => rfl) hn1 rfl (by show n.toNatClampNeg * 1 ≤ _; omega) (by omega) (by omega) hd (fun q cA H1 hK1 hP1 hD1 hS1 => ?_)
    have hcA : cA = cZ := Option.some.inj ((show s.vm.findClass _ = some cA from (hK1.2 2 (cA, .boolean) rfl).2).symm.trans (show s.vm.findClass _ = some cZ from (hK.2 1 (cZ, .boolean) rfl).2))
    subst hcA
    refine pm_Wsz (fun hz => ?_)
    have hqe : q = base + sh.length := pm_place (w := (sh, h)) rfl hP1 hD1 (by dsimp only; omega)
    subst hqe
    have hP2 : va_P D vwCl (pm_ws cI cA b base (sh ++ [(1, n.toNatClampNeg, [])], pm_z h sh.length)) H1 := by
      rw [pm_ws_app (h := h) (fun j hj => pm_z_ne (by omega))]
      have hE : pm_e cI cA (pm_ad b base) (pm_z h sh.length) sh.length (1, n.toNatClampNeg, []) = .inl (cA, n.toNatClampNeg, .inl (fun _ => 0)) := by
        simp only [pm_e, pm_z_same]
      rw [hE]
      exact hP1
    exact hF.2 hLn H1 locs ls (cells + 1) (slots + n.toNatClampNeg) hP2 hS1 hL (by dsimp only; rw [List.length_append, List.length_singleton]; omega) (by dsimp only; rw [hs1]; omega)
theorem pm_split {st rest : List Value} {n a : Nat} (h : st.drop n = .ref a :: rest) : st = st.take n ++ .ref a :: rest ∧ n ≤ st.length := by
  refine ⟨by rw [← h, List.take_append_drop], ?_⟩
  rcases Nat.lt_or_ge st.length n with h1 | h1
  · rw [List.drop_eq_nil_of_le (by omega)] at h; cases h
  · exact h1
theorem pm_rev (ad : Nat → Nat) (l : List Value) : (l.reverse.map (pm_cv ad)).reverse = l.map (pm_cv ad) := by rw [List.map_reverse, List.reverse_reverse]
theorem pm_behind {H H1 : Heap} {locs Ls : List Loc} {u t : State} (hS : va_S (fun q => base ≤ q) s.heap H locs) (hu : u.heap = H) (ht : t.heap = H1) (hL : ∀ q ∈ Ls, base ≤ q.base) (hQ : va_F (fun q => base ≤ q) u t) : va_S (fun q => base ≤ q) s.heap H1 (locs ++ Ls) := by
  obtain ⟨h1, h2⟩ := hQ
  rw [hu, ht] at h1
  refine ⟨Nat.le_trans hS.1 h1, fun q h3 h4 => ?_, fun q hq => ?_⟩
  · have h5 := h2 q (by rw [hu]; exact Nat.lt_of_lt_of_le h3 hS.1) h4
    rw [hu, ht] at h5
    exact h5.trans (hS.2.1 q h3 h4)
  · rcases List.mem_append.mp hq with h | h
    · exact hS.2.2 q h
    · exact hL q h
theorem pm_pre {H : Heap} {locs : List Loc} {as : List Value} {w : pmW} (hNw : pm_Nst s) (hK : va_K D vwCl [(cI, .int), (cZ, .boolean)] s) (hXs : va_X b sl xs s s.heap) (hbb : b < base) (hsz : s.heap.size = base + n0) (hP : va_P D vwCl (pm_ws cI cZ b base w) H) (hS : va_S (fun q => base ≤ q) s.heap H locs) (hz : H.size = base + w.1.length) :
    ∀ U : State, U.heap = H → s.WarmedH U.vm → pm_Pc D cI cZ b base sl xs as w (as.map (pm_cv (pm_ad b base))).toArray U := by
  intro U hU hW
  refine ⟨rfl, by rw [hU]; exact hP, va_K.moved hW.alike hK, by rw [hU]; exact hz, ?_⟩
  exact ⟨va_X.moved hW.alike (hXs.kept (by rw [hU]; exact hS.2.1 b (by omega) (by omega))), fun a1 i1 x1 g1 h1 => va_Nw.warmM hW (hNw a1 i1 x1 g1 h1)⟩
theorem pm_GM {M : pmM} (hok : pm_okM M) : GoodIn pm_gt (pm_wsM M) := by
  refine pm_GI (fun w hw => ?_)
  rcases List.mem_cons.mp hw with rfl | hw
  · exact pm_g hok.2.2.2.2.1 rfl
  · exact hw
set_option maxHeartbeats 4000000 in
theorem pw_invokevirtual {i : Nat} (hX : pm_X p s m args meth c own bytes ret ini D cI cZ b base n0 sl xs nL) (hdp : hdB = true → 1 ≤ R.frames ∧ 40 ≤ R.locals) (hd : decode bytes pc = .ok (.invokevirtual i, len)) (hln : len = pm_ln (.invokevirtual i) len) (hF : pm_F False (pm_T1 p l e R s m args below meth c Q D cI cZ b base n0 s0 bytes ret) (pm_K p l e R s m args below meth c Q D cI cZ b base n0 s0) (pm_C1 p l e R s m args below meth c Q D cI cZ b base n0 s0 sl xs) sl xs own ret ini hdB (.invokevirtual i) pc L st sh h) : pm_K p l e R s m args below meth c Q D cI cZ b base n0 s0 pc L st (sh, h) := by
  obtain ⟨hx, hb, hml, hown, hts, hK, hXs, hbb, hsz, hini, hNw⟩ := hX
  have hl1 : len = 3 := hln
  subst hl1
  replace hF := pm_o_F hF
  obtain ⟨q, hq, hF⟩ := hF
  replace hF := pm_pr_F hF
  obtain ⟨a, rest, hst, hF⟩ := hF
  replace hF := pm_ob_F hF
  obtain ⟨k, fl, hak, hk, hF⟩ := hF
  replace hF := pm_b_F hF
  obtain ⟨hb8, hF⟩ := hF
  have hb8 : pm_cs rest ≤ 8 := Nat.le_of_ble_eq_true hb8
  obtain ⟨M, hM, hok, hna, hoc, hlk, him, hsel⟩ := pmv_all own _ (pm_lk_mem hq)
  dsimp only at hM hna hoc hlk
  obtain ⟨hst1, hnl⟩ := pm_split hst
  have hstk : st.map (pm_cv (pm_ad b base)) = ((st.take q.2.1).reverse.map (pm_cv (pm_ad b base))).reverse ++ .ref (pm_ad b base a) :: rest.map (pm_cv (pm_ad b base)) := by
    rw [pm_rev]
    conv => lhs; rw [hst1]
    rw [List.map_append]
    rfl
  subst hak
  have hGM := pm_GM hok
  have hok0 := hok
  obtain ⟨hpl, hmh, hpar, hmaxl, hcode, hin1, hcn, hck⟩ := hok
  obtain ⟨r, w', d, hCon, hfr, hlo, hg1, hg2, hKK⟩ := hF
  have hKB1 := hKK.1.1
  have hKB2 := hKK.1.2
  refine ⟨⟨by dsimp only at hg1 ⊢; omega, by dsimp only at hg2 ⊢; omega⟩, fun hLn H locs ls cells slots hP hS hL hc hs => ?_⟩
  dsimp only at hc hs hg1 hg2
  refine pm_Wsz (fun hz => ?_)
  have hzz : H.size = base + sh.length := Nat.le_antisymm (by omega) (pm_size hP (Nat.le_trans (by omega) hS.1))
  have hR1 : d + 1 ≤ R.frames ∧ 8 + (M.2.2.1 + 11) + 40 * d ≤ R.locals := ⟨hfr, by omega⟩
  have hR2 : cells + (w'.1.length - sh.length) ≤ R.cells ∧ slots + (pm_ss w'.1 - pm_ss sh) ≤ R.slots := ⟨by omega, by omega⟩
  have hLs0 : ls.size = nL := hL.1.trans (hLn.trans hml)
  have hroom : 2 * (F0 m pc ls (st.map (pm_cv (pm_ad b base)))).monitorRoom + ((rest.map (pm_cv (pm_ad b base))).map fun v => v.category).sum ≤ 8 := lv_room (by rw [pm_cv_map]; exact hb8)
  have hlen : ((st.take q.2.1).reverse.map (pm_cv (pm_ad b base))).length = q.2.1 := by rw [List.length_map, List.length_reverse, List.length_take]; omega
  have hrecv : ∃ cellB : Cell, H[base + k]? = some cellB ∧ cellB.vm.isStatics = false ∧ s.vm.findClass M.1.cls = some cellB.cls := by
    have hlt : q.2.2.2 < 9 := by
      rcases Nat.lt_or_ge q.2.2.2 9 with h9 | h9
      · exact h9
      · exfalso
        have hz9 := hP k _ (pm_ws_o hk)
        obtain ⟨r9, h91, -⟩ := hz9
        have : q.2.2.2 < vwCl.length := (List.getElem?_eq_some_iff.mp h91).1
        have h92 : vwCl.length = 9 := rfl
        omega
    have := va_recv hK hP (pmC_all q.2.2.2 hlt).1 (pm_ws_o hk)
    rw [← hcn, hoc]
    exact this
  have hGV : GoodIn pm_gt (wsV (pm_cn own) i M.1.cls M.1 (pm_wsM M)) := by
    refine pm_GI (fun w hw => ?_)
    unfold wsV at hw
    rcases List.mem_append.mp hw with hw | hw
    · simp only [List.mem_cons, List.not_mem_nil, or_false] at hw
      rcases hw with rfl | rfl | rfl | rfl
      · exact pm_g hlk rfl
      · exact pm_g him rfl
      · exact pm_g hsel rfl
      · exact pm_g hin1 rfl
    · exact (hGM w hw).1
  refine pm_callW (va_runV (Ts := pm_gt) (own := pm_cn own) (g := F0 m pc ls (st.map (pm_cv (pm_ad b base)))) (As := (st.take q.2.1).reverse.map (pm_cv (pm_ad b base))) (rest := rest.map (pm_cv (pm_ad b base))) (n := q.2.1) (bytes := M.2.1) (maxL := M.2.2.1) (C := M.1.cls) (b := base + k) (ret := M.2.2.2.1) ⟨hx, hb, hml, hown, hts⟩ (hCon M hM hok0) (cwV q.2.1 hts hGV rfl rfl rfl ⟨rfl, hmh.1, hmh.2, by rw [hpar, hna]⟩ hR1) ⟨pm_blind, hrecv, pm_pre hNw hK hXs hbb hsz hP hS hzz⟩ rfl hlen hLs0 hstk hroom hd hR2) (fun v u t H1 Ls hu ht hLs hQ => ?_)
  obtain ⟨hv, hPw, hFr⟩ := hQ
  injection hv with hv
  subst hv
  rw [ht] at hPw
  have hS2 := pm_behind (s := s) hS hu ht hLs hFr
  have hst2 : ((r.map (pm_cv (pm_ad b base))).toList ++ rest.map (pm_cv (pm_ad b base))) = (r.toList ++ rest).map (pm_cv (pm_ad b base)) := by cases r <;> rw [List.map_append] <;> rfl
  rw [hst2]
  exact hKK.2 hLn H1 (locs ++ Ls) ls _ _ hPw hS2 hL (by dsimp only; omega) (by dsimp only; omega)
set_option maxHeartbeats 4000000 in
theorem pw_invokespecial {i : Nat} (hX : pm_X p s m args meth c own bytes ret ini D cI cZ b base n0 sl xs nL) (hdp : hdB = true → 1 ≤ R.frames ∧ 40 ≤ R.locals) (hd : decode bytes pc = .ok (.invokespecial i, len)) (hln : len = pm_ln (.invokespecial i) len) (hF : pm_F False (pm_T1 p l e R s m args below meth c Q D cI cZ b base n0 s0 bytes ret) (pm_K p l e R s m args below meth c Q D cI cZ b base n0 s0) (pm_C1 p l e R s m args below meth c Q D cI cZ b base n0 s0 sl xs) sl xs own ret ini hdB (.invokespecial i) pc L st sh h) : pm_K p l e R s m args below meth c Q D cI cZ b base n0 s0 pc L st (sh, h) := by
  obtain ⟨hx, hb, hml, hown, hts, hK, hXs, hbb, hsz, hini, hNw⟩ := hX
  have hl1 : len = 3 := hln
  subst hl1
  unfold pm_F at hF
  dsimp only at hF
  split at hF
  · next hoi =>
    replace hF := pm_pr_F hF
    obtain ⟨a, r, rfl, hF⟩ := hF
    replace hF := pm_b_F hF
    obtain ⟨hb1, hF⟩ := hF
    rw [Bool.and_eq_true] at hb1
    have hb8 : pm_cs r ≤ 8 := Nat.le_of_ble_eq_true hb1.2
    have hw := pmo_all own i (List.contains_iff_mem.mp hoi)
    obtain ⟨hf1, hf2⟩ := hdp hb1.1
    refine ⟨hF.1, fun hLn H locs ls cells slots hP hS hL hc hs => W.objInit (g := F0 m pc ls _) hx hb hown (hts _ (pm_g hw rfl)) (hts _ (pm_g pm_obj.1 rfl)) (hts _ (pm_g pm_obj.2 rfl)) rfl (hL.1.trans hLn) rfl hd hf1 ?_ (hF.2 hLn H locs ls cells slots hP hS hL hc hs)⟩
    have := pm_cv_map (pm_ad b base) r
    show 2 * 0 + ((r.map (pm_cv (pm_ad b base))).map fun v => v.category).sum + 12 ≤ R.locals
    omega
  · replace hF := pm_o_F hF
    obtain ⟨q, hq, hF⟩ := hF
    replace hF := pm_pr_F hF
    obtain ⟨a, rest, hst, hF⟩ := hF
    replace hF := pm_b_F hF
    obtain ⟨hb8, hF⟩ := hF
    have hb8 : pm_cs rest ≤ 8 := Nat.le_of_ble_eq_true hb8
    obtain ⟨M, hM, hok, hna, hlk, him, hin0, hrn⟩ := pmi_all own _ (pm_lk_mem hq)
    dsimp only at hM hna hlk
    obtain ⟨hst1, hnl⟩ := pm_split hst
    have hstk : st.map (pm_cv (pm_ad b base)) = ((st.take q.2.1).reverse.map (pm_cv (pm_ad b base))).reverse ++ .ref (pm_ad b base a) :: rest.map (pm_cv (pm_ad b base)) := by
      rw [pm_rev]
      conv => lhs; rw [hst1]
      rw [List.map_append]
      rfl
    have hGM := pm_GM hok
    have hok0 := hok
    obtain ⟨hpl, hmh, hpar, hmaxl, hcode, hin1, hcn, hck⟩ := hok
    obtain ⟨r, w', d, hCon, hfr, hlo, hg1, hg2, hKK⟩ := hF
    have hKB1 := hKK.1.1
    have hKB2 := hKK.1.2
    refine ⟨⟨by dsimp only at hg1 ⊢; omega, by dsimp only at hg2 ⊢; omega⟩, fun hLn H locs ls cells slots hP hS hL hc hs => ?_⟩
    dsimp only at hc hs hg1 hg2
    refine pm_Wsz (fun hz => ?_)
    have hzz : H.size = base + sh.length := Nat.le_antisymm (by omega) (pm_size hP (Nat.le_trans (by omega) hS.1))
    have hR1 : d + 1 ≤ R.frames ∧ 8 + (M.2.2.1 + 11) + 40 * d ≤ R.locals := ⟨hfr, by omega⟩
    have hR2 : cells + (w'.1.length - sh.length) ≤ R.cells ∧ slots + (pm_ss w'.1 - pm_ss sh) ≤ R.slots := ⟨by omega, by omega⟩
    have hLs0 : ls.size = nL := hL.1.trans (hLn.trans hml)
    have hroom : 2 * (F0 m pc ls (st.map (pm_cv (pm_ad b base)))).monitorRoom + ((rest.map (pm_cv (pm_ad b base))).map fun v => v.category).sum ≤ 8 := lv_room (by rw [pm_cv_map]; exact hb8)
    have hlen : ((st.take q.2.1).reverse.map (pm_cv (pm_ad b base))).length = q.2.1 := by rw [List.length_map, List.length_reverse, List.length_take]; omega
    refine pm_callW (va_runI (Ts := pm_gt) (own := pm_cn own) (g := F0 m pc ls (st.map (pm_cv (pm_ad b base)))) (As := (st.take q.2.1).reverse.map (pm_cv (pm_ad b base))) (rest := rest.map (pm_cv (pm_ad b base))) (n := q.2.1) (bytes := M.2.1) (maxL := M.2.2.1) (b := pm_ad b base a) ⟨hx, hb, hml, hown, hts⟩ (hCon M hM hok0) (cwI q.2.1 hts hGM (by unfold pm_wsM; rw [hrn]) rfl rfl (hts _ (pm_g hin1 rfl)) (hts _ (pm_g hlk rfl)) (hts _ (pm_g him rfl)) hin0 ⟨hmh.1, hmh.2, by rw [hpar, hna]⟩ hR1) ⟨pm_blind, pm_pre hNw hK hXs hbb hsz hP hS hzz⟩ rfl hlen hLs0 hstk hroom hd hR2) (fun v u t H1 Ls hu ht hLs hQ => ?_)
    obtain ⟨hv, hPw, hFr⟩ := hQ
    injection hv with hv
    subst hv
    rw [ht] at hPw
    have hS2 := pm_behind (s := s) hS hu ht hLs hFr
    have hst2 : ((r.map (pm_cv (pm_ad b base))).toList ++ rest.map (pm_cv (pm_ad b base))) = (r.toList ++ rest).map (pm_cv (pm_ad b base)) := by cases r <;> rw [List.map_append] <;> rfl
    rw [hst2]
    exact hKK.2 hLn H1 (locs ++ Ls) ls _ _ hPw hS2 hL (by dsimp only; omega) (by dsimp only; omega)
set_option maxHeartbeats 4000000 in
theorem pw_invokestatic {i : Nat} (hX : pm_X p s m args meth c own bytes ret ini D cI cZ b base n0 sl xs nL) (hdp : hdB = true → 1 ≤ R.frames ∧ 40 ≤ R.locals) (hd : decode bytes pc = .ok (.invokestatic i, len)) (hln : len = pm_ln (.invokestatic i) len) (hF : pm_F False (pm_T1 p l e R s m args below meth c Q D cI cZ b base n0 s0 bytes ret) (pm_K p l e R s m args below meth c Q D cI cZ b base n0 s0) (pm_C1 p l e R s m args below meth c Q D cI cZ b base n0 s0 sl xs) sl xs own ret ini hdB (.invokestatic i) pc L st sh h) : pm_K p l e R s m args below meth c Q D cI cZ b base n0 s0 pc L st (sh, h) := by
  obtain ⟨hx, hb, hml, hown, hts, hK, hXs, hbb, hsz, hini, hNw⟩ := hX
  have hl1 : len = 3 := hln
  subst hl1
  unfold pm_F at hF
  dsimp only at hF
  split at hF
  · next hmx =>
    have hw : Cond.methodLink (pm_cn own) i Lib.Math.max.name ∈ lw_tbl := by
      rcases pmx_all own _ (pm_lk_mem hmx) with ⟨-, h9⟩ | ⟨h9, -⟩
      · exact h9
      · cases h9
    replace hF := pm_pi_F hF
    obtain ⟨y, r, rfl, hF⟩ := hF
    replace hF := pm_pi_F hF
    obtain ⟨x, r, rfl, hF⟩ := hF
    replace hF := pm_b_F hF
    obtain ⟨hb1, hF⟩ := hF
    rw [Bool.and_eq_true] at hb1
    have hb8 : pm_cs r ≤ 8 := Nat.le_of_ble_eq_true hb1.2
    obtain ⟨hf1, hf2⟩ := hdp hb1.1
    have hcat := pm_cv_map (pm_ad b base) r
    have hB1 := hF.1.1
    have hB2 := hF.1.2
    refine ⟨hF.1, fun hLn H locs ls cells slots hP hS hL hc hs => va_mmax hx hb (hLn.symm.trans hL.1.symm) hown (hts _ (pm_g hw rfl)) (hts _ (pm_g pm_max_ok.1 rfl)) (hts _ (pm_g pm_max_ok.2.1 rfl)) (hts _ (pm_g pm_max_ok.2.2 rfl)) hf1 (by omega) (by omega) (by omega) hd (hF.2 hLn H locs ls cells slots hP hS hL hc hs)⟩
  · next e9 hmx0 hmx =>
    have hw : Cond.methodLink (pm_cn own) i Lib.Math.min.name ∈ lw_tbl := by
      rcases pmx_all own _ (pm_lk_mem hmx) with ⟨h9, -⟩ | ⟨-, h9⟩
      · exact absurd h9 (fun z => hmx0 z)
      · exact h9
    replace hF := pm_pi_F hF
    obtain ⟨y, r, rfl, hF⟩ := hF
    replace hF := pm_pi_F hF
    obtain ⟨x, r, rfl, hF⟩ := hF
    replace hF := pm_b_F hF
    obtain ⟨hb1, hF⟩ := hF
    rw [Bool.and_eq_true] at hb1
    have hb8 : pm_cs r ≤ 8 := Nat.le_of_ble_eq_true hb1.2
    obtain ⟨hf1, hf2⟩ := hdp hb1.1
    have hcat := pm_cv_map (pm_ad b base) r
    have hB1 := hF.1.1
    have hB2 := hF.1.2
    refine ⟨hF.1, fun hLn H locs ls cells slots hP hS hL hc hs => va_mmin hx hb (hLn.symm.trans hL.1.symm) hown (hts _ (pm_g hw rfl)) (hts _ (pm_g pm_min_ok.1 rfl)) (hts _ (pm_g pm_min_ok.2.1 rfl)) (hts _ (pm_g pm_min_ok.2.2 rfl)) hf1 (by omega) (by omega) (by omega) hd (hF.2 hLn H locs ls cells slots hP hS hL hc hs)⟩
  · replace hF := pm_o_F hF
    obtain ⟨q, hq, hF⟩ := hF
    replace hF := pm_b_F hF
    obtain ⟨hb1, hF⟩ := hF
    rw [Bool.and_eq_true] at hb1
    have hnl : q.2.1 ≤ st.length := Nat.le_of_ble_eq_true hb1.1
    have hb8 : pm_cs (st.drop q.2.1) ≤ 8 := Nat.le_of_ble_eq_true hb1.2
    have hS9 : pm_okS own (i, q) := by
      rcases List.mem_append.mp (pm_lk_mem hq) with h9 | h9
      · exact pms_all own _ h9
      · exact pmn_all own _ h9
    obtain ⟨M, hM, hok, hna, hlk, hstt⟩ := hS9
    dsimp only at hM hna hlk
    have hstk : st.map (pm_cv (pm_ad b base)) = ((st.take q.2.1).reverse.map (pm_cv (pm_ad b base))).reverse ++ (st.drop q.2.1).map (pm_cv (pm_ad b base)) := by
      rw [pm_rev, ← List.map_append, List.take_append_drop]
    have hGM := pm_GM hok
    have hok0 := hok
    obtain ⟨hpl, hmh, hpar, hmaxl, hcode, hin1, hcn, hck⟩ := hok
    obtain ⟨r, w', d, hCon, hfr, hlo, hg1, hg2, hKK⟩ := hF
    have hKB1 := hKK.1.1
    have hKB2 := hKK.1.2
    refine ⟨⟨by dsimp only at hg1 ⊢; omega, by dsimp only at hg2 ⊢; omega⟩, fun hLn H locs ls cells slots hP hS hL hc hs => ?_⟩
    dsimp only at hc hs hg1 hg2
    refine pm_Wsz (fun hz => ?_)
    have hzz : H.size = base + sh.length := Nat.le_antisymm (by omega) (pm_size hP (Nat.le_trans (by omega) hS.1))
    have hR1 : d + 1 ≤ R.frames ∧ 8 + (M.2.2.1 + 11) + 40 * d ≤ R.locals := ⟨hfr, by omega⟩
    have hR2 : cells + (w'.1.length - sh.length) ≤ R.cells ∧ slots + (pm_ss w'.1 - pm_ss sh) ≤ R.slots := ⟨by omega, by omega⟩
    have hLs0 : ls.size = nL := hL.1.trans (hLn.trans hml)
    have hroom : 2 * (F0 m pc ls (st.map (pm_cv (pm_ad b base)))).monitorRoom + (((st.drop q.2.1).map (pm_cv (pm_ad b base))).map fun v => v.category).sum ≤ 8 := lv_room (by rw [pm_cv_map]; exact hb8)
    have hlen : ((st.take q.2.1).reverse.map (pm_cv (pm_ad b base))).length = q.2.1 := by rw [List.length_map, List.length_reverse, List.length_take]; omega
    rcases hlk with hlk | ⟨host, hlk⟩
    · refine pm_callW (va_runS (Ts := pm_gt) (own := pm_cn own) (g := F0 m pc ls (st.map (pm_cv (pm_ad b base)))) (As := (st.take q.2.1).reverse.map (pm_cv (pm_ad b base))) (rest := (st.drop q.2.1).map (pm_cv (pm_ad b base))) (n := q.2.1) (bytes := M.2.1) (maxL := M.2.2.1) (ret := M.2.2.2.1) ⟨hx, hb, hml, hown, hts⟩ (hCon M hM hok0) ⟨callB_of q.2.1 hts hGM rfl rfl rfl (hts _ (pm_g hin1 rfl)) (hts _ (pm_g hlk rfl)) ⟨hmh.1, hmh.2, by rw [hpar, hna]⟩ hR1, hts _ (pm_g hstt rfl)⟩ ⟨pm_blind, pm_pre hNw hK hXs hbb hsz hP hS hzz⟩ rfl hlen hLs0 hstk hroom hd hR2) (fun v u t H1 Ls hu ht hLs hQ => ?_)
      obtain ⟨hv, hPw, hFr⟩ := hQ
      injection hv with hv
      subst hv
      rw [ht] at hPw
      have hS2 := pm_behind (s := s) hS hu ht hLs hFr
      have hst2 : ((r.map (pm_cv (pm_ad b base))).toList ++ (st.drop q.2.1).map (pm_cv (pm_ad b base))) = (r.toList ++ (st.drop q.2.1)).map (pm_cv (pm_ad b base)) := by cases r <;> rw [List.map_append] <;> rfl
      rw [hst2]
      exact hKK.2 hLn H1 (locs ++ Ls) ls _ _ hPw hS2 hL (by dsimp only; omega) (by dsimp only; omega)
    · refine pm_callW (va_runSN (Ts := pm_gt) (own := pm_cn own) (g := F0 m pc ls (st.map (pm_cv (pm_ad b base)))) (As := (st.take q.2.1).reverse.map (pm_cv (pm_ad b base))) (rest := (st.drop q.2.1).map (pm_cv (pm_ad b base))) (n := q.2.1) (bytes := M.2.1) (maxL := M.2.2.1) (ret := M.2.2.2.1) (host := host) ⟨hx, hb, hml, hown, hts⟩ (hCon M hM hok0) ⟨va_cnB q.2.1 hts hGM rfl rfl rfl (hNw _ _ _ _ hlk) (hts _ (pm_g hin1 rfl)) ⟨hmh.1, hmh.2, by rw [hpar, hna]⟩ hR1, hts _ (pm_g hstt rfl), trivial⟩ ⟨pm_blind, pm_pre hNw hK hXs hbb hsz hP hS hzz⟩ rfl hlen hLs0 hstk hroom hd hR2) (fun v u t H1 Ls hu ht hLs hQ => ?_)
      obtain ⟨hv, hPw, hFr⟩ := hQ
      injection hv with hv
      subst hv
      rw [ht] at hPw
      have hS2 := pm_behind (s := s) hS hu ht hLs hFr
      have hst2 : ((r.map (pm_cv (pm_ad b base))).toList ++ (st.drop q.2.1).map (pm_cv (pm_ad b base))) = (r.toList ++ (st.drop q.2.1)).map (pm_cv (pm_ad b base)) := by cases r <;> rw [List.map_append] <;> rfl
      rw [hst2]
      exact hKK.2 hLn H1 (locs ++ Ls) ls _ _ hPw hS2 hL (by dsimp only; omega) (by dsimp only; omega)
end PMP9
