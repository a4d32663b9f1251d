section PMP8
variable {p : Program} {l : Launch} {e : Env} {R : Room} {s : State} {m : MethodId} {args : Array Value} {below : List Frame} {meth : Method} {c : Code} {Q : State → Prop}
variable {D : va_G} {cI cZ : ClassId} {b base n0 s0 sl own pc len nL : Nat} {xs : Nat → Int32} {bytes : ByteArray} {ret : Option FieldType} {ini hdB : Bool} {L : pmL} {st : List Value} {sh : List pmS} {h : pmH}
theorem pm_sw_F {x : Int32} {f : Nat → Prop} {dflt : Int} : ∀ {offs : List Int} {i : Nat}, i + offs.length ≤ 1000 → pm_sw False pc x f dflt i offs →
    (∃ (j : Nat) (o : Int) (t : Nat), offs[j]? = some o ∧ x = nI (i + j) ∧ (pc : Int) + o = (t : Int) ∧ f t) ∨ ((∀ j, j < offs.length → x ≠ nI (i + j)) ∧ ∃ t : Nat, (pc : Int) + dflt = (t : Int) ∧ f t)
  | [], i, _, h => Or.inr ⟨fun j hj => absurd hj (Nat.not_lt_zero _), pm_j_F h⟩
  | o :: t, i, hl, h => by
    rw [List.length_cons] at hl
    unfold pm_sw at h
    split at h
    · next hx =>
      obtain ⟨t', h1, h2⟩ := pm_j_F h
      exact Or.inl ⟨0, o, t', rfl, hx, h1, h2⟩
    · next hx =>
      rcases pm_sw_F (i := i + 1) (by omega) h with ⟨j, o', t', h1, h2, h3, h4⟩ | ⟨h1, h2⟩
      · exact Or.inl ⟨j + 1, o', t', by rw [List.getElem?_cons_succ]; exact h1, by rw [h2]; congr 1; omega, h3, h4⟩
      · refine Or.inr ⟨fun j hj => ?_, h2⟩
        cases j with
        | zero => exact hx
        | succ j =>
          have h5 := h1 j (by rw [List.length_cons] at hj; omega)
          rw [show i + (j + 1) = i + 1 + j by omega]
          exact h5
set_option maxHeartbeats 4000000 in
theorem pw_tableswitch {dflt lo hi : Int} {offs : Array Int} (hX : pm_X p s m args meth c own bytes ret ini D cI cZ b base n0 sl xs nL) (hdp : hdB = true → 1 ≤ R.frames ∧ 40 ≤ R.locals) (hd : decode bytes pc = .ok (.tableswitch dflt lo hi offs, len)) (hln : len = pm_ln (.tableswitch dflt lo hi offs) len) (hF : pm_F False (pm_T1 p l e R s m args below meth c Q D cI cZ b base n0 s0 bytes ret) (pm_K p l e R s m args below meth c Q D cI cZ b base n0 s0) (pm_C1 p l e R s m args below meth c Q D cI cZ b base n0 s0 sl xs) sl xs own ret ini hdB (.tableswitch dflt lo hi offs) pc L st sh h) : pm_K p l e R s m args below meth c Q D cI cZ b base n0 s0 pc L st (sh, h) := by
  obtain ⟨hx, hb, hml, hown, hts, hK, hXs, hbb, hsz, hini, hNw⟩ := hX
  replace hF := pm_pi_F hF
  obtain ⟨x, r, rfl, hF⟩ := hF
  replace hF := pm_b_F hF
  obtain ⟨hb1, hF⟩ := hF
  simp only [Bool.and_eq_true, decide_eq_true_eq] at hb1
  obtain ⟨⟨hlo, hhi⟩, hle⟩ := hb1
  rcases pm_sw_F (by omega) hF with ⟨j, o, t, h1, h2, h3, h4⟩ | ⟨h1, t, h3, h4⟩
  · have hj : j < offs.toList.length := (List.getElem?_eq_some_iff.mp h1).1
    have hxi : x.toInt = (j : Int) := by rw [h2, Nat.zero_add]; exact nI_toInt (by omega)
    refine ⟨h4.1, fun hLn H locs ls cells slots hP hS hL hc hs => lv_tableIn hx hb hd (by omega) (by omega) (off := o) ?_ h3 (h4.2 hLn H locs ls cells slots hP hS hL hc hs)⟩
    rw [hxi, hlo, show ((j : Int) - 0).toNat = j by omega, ← Array.getElem?_toList]
    exact h1
  · refine ⟨h4.1, fun hLn H locs ls cells slots hP hS hL hc hs => lv_tableOut hx hb hd ?_ h3 (h4.2 hLn H locs ls cells slots hP hS hL hc hs)⟩
    rcases Int.lt_or_le x.toInt lo with h5 | h5
    · exact Or.inl h5
    · right
      rcases Int.lt_or_le hi x.toInt with h6 | h6
      · exact h6
      · exfalso
        have hj : x.toInt.toNat < offs.toList.length := by omega
        refine h1 _ hj ?_
        rw [Nat.zero_add, ← Int32.toInt_inj, nI_toInt (by omega)]
        omega
set_option maxHeartbeats 4000000 in
theorem pw_getfield {i : Nat} (hX : pm_X p s m args meth c own bytes ret ini D cI cZ b base n0 sl xs nL) (hdp : hdB = true → 1 ≤ R.frames ∧ 40 ≤ R.locals) (hd : decode bytes pc = .ok (.getfield i, len)) (hln : len = pm_ln (.getfield i) len) (hF : pm_F False (pm_T1 p l e R s m args below meth c Q D cI cZ b base n0 s0 bytes ret) (pm_K p l e R s m args below meth c Q D cI cZ b base n0 s0) (pm_C1 p l e R s m args below meth c Q D cI cZ b base n0 s0 sl xs) sl xs own ret ini hdB (.getfield i) pc L st sh h) : pm_K p l e R s m args below meth c Q D cI cZ b base n0 s0 pc L st (sh, h) := by
  obtain ⟨hx, hb, hml, hown, hts, hK, hXs, hbb, hsz, hini, hNw⟩ := hX
  have hl1 : len = 3 := hln
  subst hl1
  replace hF := pm_o_F hF
  obtain ⟨q, hq, hF⟩ := hF
  replace hF := pm_pr_F hF
  obtain ⟨a, r, rfl, hF⟩ := hF
  replace hF := pm_ob_F hF
  obtain ⟨k, fl, rfl, hk, hF⟩ := hF
  obtain ⟨hq1, hq2, hq3⟩ := pmf_all own _ (pm_lk_mem hq)
  dsimp only at hq1 hq2 hq3
  obtain ⟨hC1, hC2, hC3, hC4, hC5, hC6, hC7⟩ := pmC_all q.1 hq1
  rcases pm_gf_F hF with ⟨ho, hF⟩ | ⟨bb, ho, hF⟩
  · exact ⟨hF.1, fun hLn H locs ls cells slots hP hS hL hc hs => va_get (a := base + k) (own := pm_cn own) (ref := (pm_T q.1 q.2).1) (C := pm_cn q.1) (T := pm_T q.1) (N := pm_N q.1) (ci := q.1) (Ts := pm_gt) hx hb hts (pm_g_lay hC2) hown hK hP k (pm_ws_o hk) hC1 q.2 hq2 (hts _ (pm_g hq3 rfl)) (fun _ h9 => h9) (pm_fv_get ho) hd (hF.2 hLn H locs ls cells slots hP hS hL hc hs)⟩
  · exact ⟨hF.1, fun hLn H locs ls cells slots hP hS hL hc hs => va_get (a := base + k) (own := pm_cn own) (ref := (pm_T q.1 q.2).1) (C := pm_cn q.1) (T := pm_T q.1) (N := pm_N q.1) (ci := q.1) (Ts := pm_gt) hx hb hts (pm_g_lay hC2) hown hK hP k (pm_ws_o hk) hC1 q.2 hq2 (hts _ (pm_g hq3 rfl)) (fun _ h9 => h9) (pm_fv_get ho) hd (hF.2 hLn H locs ls cells slots hP hS hL hc hs)⟩
set_option maxHeartbeats 4000000 in
theorem pw_putfield {i : Nat} (hX : pm_X p s m args meth c own bytes ret ini D cI cZ b base n0 sl xs nL) (hdp : hdB = true → 1 ≤ R.frames ∧ 40 ≤ R.locals) (hd : decode bytes pc = .ok (.putfield i, len)) (hln : len = pm_ln (.putfield i) len) (hF : pm_F False (pm_T1 p l e R s m args below meth c Q D cI cZ b base n0 s0 bytes ret) (pm_K p l e R s m args below meth c Q D cI cZ b base n0 s0) (pm_C1 p l e R s m args below meth c Q D cI cZ b base n0 s0 sl xs) sl xs own ret ini hdB (.putfield i) pc L st sh h) : pm_K p l e R s m args below meth c Q D cI cZ b base n0 s0 pc L st (sh, h) := by
  obtain ⟨hx, hb, hml, hown, hts, hK, hXs, hbb, hsz, hini, hNw⟩ := hX
  have hl1 : len = 3 := hln
  subst hl1
  replace hF := pm_o_F hF
  obtain ⟨q, hq, hF⟩ := hF
  replace hF := pm_p1_F hF
  obtain ⟨v, r, rfl, hcat, hF⟩ := hF
  replace hF := pm_pr_F hF
  obtain ⟨a, r, rfl, hF⟩ := hF
  replace hF := pm_ob_F hF
  obtain ⟨k, fl, rfl, hk, hF⟩ := hF
  obtain ⟨hq1, hq2, hq3⟩ := pmf_all own _ (pm_lk_mem hq)
  dsimp only at hq1 hq2 hq3
  obtain ⟨hC1, hC2, hC3, hC4, hC5, hC6, hC7⟩ := pmC_all q.1 hq1
  obtain ⟨hf1, hf2⟩ := pmF_all q.1 hq1 q.2 hq2
  have hkl := (List.getElem?_eq_some_iff.mp hk).1
  cases v with
  | int x =>
    rcases pm_gf_F hF with ⟨hf0, hF⟩ | ⟨_, _, hF⟩
    case inr => exact hF.elim
    rcases pm_gf_F hF with ⟨ho, hF⟩ | ⟨_, _, hF⟩
    case inr => exact hF.elim
    rcases hf2 with ⟨-, hty, hfin⟩ | ⟨hf3, -⟩
    case inr => rw [hf0] at hf3; cases hf3
    have hjl : q.2 < (pm_fv (pm_ad b base) (h k) fl).length := (List.getElem?_eq_some_iff.mp (pm_fv_get ho)).1
    refine ⟨hF.1, fun hLn H locs ls cells slots hP hS hL hc hs => va_put (a := base + k) (v := .int x) (ty := .int) (own := pm_cn own) (ref := (pm_T q.1 q.2).1) (C := pm_cn q.1) (T := pm_T q.1) (N := pm_N q.1) (ci := q.1) (Ts := pm_gt) hx hb hts (pm_g_lay hC2) (pm_ty q.1) hC3 hC4 hown hK hP (pm_D _) hS k (pm_ws_o hk) hC1 q.2 hq2 (hts _ (pm_g hq3 rfl)) (fun _ h9 => h9) hfin (by rw [hC3 q.2 hq2, hty]) rfl rfl hjl hd (fun H1 locs1 hP1 hD1 hS1 => ?_)⟩
    have hP2 : va_P D vwCl (pm_ws cI cZ b base (sh, pm_up h k q.2 x)) H1 := by
      rw [← pm_ws_set (w := (sh, h)) (w' := (sh, pm_up h k q.2 x)) (k := k) (s' := (2, q.1, fl)) rfl hk (fun j hj => ⟨rfl, pm_up_ne hj⟩)]
      have hE : pm_e cI cZ (pm_ad b base) (pm_up h k q.2 x) k (2, q.1, fl) = .inr (q.1, (pm_fv (pm_ad b base) (h k) fl).set q.2 (.int x)) := by
        simp only [pm_e, pm_up_same, pm_fv_upd ho]
      rw [hE]
      exact hP1
    exact hF.2 hLn H1 locs1 ls cells slots hP2 hS1 hL hc hs
  | ref a2 =>
    replace hF := pm_gr_F hF
    obtain ⟨⟨x0, hf0⟩, hF⟩ := hF
    replace hF := pm_gr_F hF
    obtain ⟨⟨x1, ho⟩, hF⟩ := hF
    replace hF := pm_b_F hF
    obtain ⟨hb1, hF⟩ := hF
    rw [Bool.and_eq_true] at hb1
    have hqo : q.1 = own := Nat.eq_of_beq_eq_true hb1.2
    rcases hf2 with ⟨hf3, -⟩ | ⟨-, hfin, hty⟩
    case inl => rw [hf0] at hf3; cases hf3
    have hjl : q.2 < (pm_fv (pm_ad b base) (h k) fl).length := (List.getElem?_eq_some_iff.mp (pm_fv_get ho)).1
    have hnr : narrow (pm_ty q.1 q.2) (.ref (pm_ad b base a2)) = .ref (pm_ad b base a2) ∧ fits (pm_ty q.1 q.2) (.ref (pm_ad b base a2)) = true := by
      rcases hty with ⟨n, hn⟩ | ⟨t, hn⟩ <;> rw [hn] <;> exact ⟨rfl, rfl⟩
    have hss : pm_ss (sh.set k (2, q.1, fl.set q.2 (some (some a2)))) = pm_ss sh := pm_ss_set sh k q.1 fl _ hk List.length_set
    refine ⟨⟨by have := hF.1.1; rwa [List.length_set] at this, by have := hF.1.2; rwa [hss] at this⟩, fun hLn H locs ls cells slots hP hS hL hc hs => va_putF (a := base + k) (v := .ref (pm_ad b base a2)) (ty := pm_ty q.1 q.2) (own := pm_cn own) (ref := (pm_T q.1 q.2).1) (C := pm_cn q.1) (T := pm_T q.1) (N := pm_N q.1) (ci := q.1) (Ts := pm_gt) hx hb hts (pm_g_lay hC2) (pm_ty q.1) hC3 hC4 hown hK hP (pm_D _) hS k (pm_ws_o hk) hC1 q.2 hq2 (hts _ (pm_g hq3 rfl)) (fun _ h9 => h9) hfin (hini hb1.1) (by rw [hf1, hqo]) (hC3 q.2 hq2) hnr.1 hnr.2 hjl hd (fun H1 locs1 hP1 hD1 hS1 => ?_)⟩
    have hk' : (sh.set k (2, q.1, fl.set q.2 (some (some a2))))[k]? = some (2, q.1, fl.set q.2 (some (some a2))) := List.getElem?_set_self hkl
    have hP2 : va_P D vwCl (pm_ws cI cZ b base (sh.set k (2, q.1, fl.set q.2 (some (some a2))), h)) H1 := by
      rw [← pm_ws_set (w := (sh, h)) (w' := (sh.set k (2, q.1, fl.set q.2 (some (some a2))), h)) (k := k) (s' := (2, q.1, fl.set q.2 (some (some a2)))) List.length_set hk' (fun j hj => ⟨List.getElem?_set_ne (Ne.symm hj), rfl⟩)]
      have hE : pm_e cI cZ (pm_ad b base) h k (2, q.1, fl.set q.2 (some (some a2))) = .inr (q.1, (pm_fv (pm_ad b base) (h k) fl).set q.2 (.ref (pm_ad b base a2))) := by
        simp only [pm_e, pm_fv_set]
      rw [hE]
      exact hP1
    exact hF.2 hLn H1 locs1 ls cells slots hP2 hS1 hL (by dsimp only; rw [List.length_set]; exact hc) (by dsimp only; rw [hss]; exact hs)
  | _ => exact hF.elim
set_option maxHeartbeats 4000000 in
theorem pw_ireturn (hX : pm_X p s m args meth c own bytes ret ini D cI cZ b base n0 sl xs nL) (hdp : hdB = true → 1 ≤ R.frames ∧ 40 ≤ R.locals) (hd : decode bytes pc = .ok (.ireturn, len)) (hln : len = pm_ln (.ireturn) len) (hF : pm_F False (pm_T1 p l e R s m args below meth c Q D cI cZ b base n0 s0 bytes ret) (pm_K p l e R s m args below meth c Q D cI cZ b base n0 s0) (pm_C1 p l e R s m args below meth c Q D cI cZ b base n0 s0 sl xs) sl xs own ret ini hdB (.ireturn) pc L st sh h) : pm_K p l e R s m args below meth c Q D cI cZ b base n0 s0 pc L st (sh, h) := by
  obtain ⟨hx, hb, hml, hown, hts, hK, hXs, hbb, hsz, hini, hNw⟩ := hX
  have hl1 : len = 1 := hln
  subst hl1
  replace hF := pm_pi_F hF
  obtain ⟨x, r, rfl, hF⟩ := hF
  cases r with
  | cons _ _ => exact hF.elim
  | nil =>
    replace hF := pm_rt_F hF
    obtain ⟨hret, hF⟩ := hF
    exact ⟨hF.1, fun hLn H locs ls cells slots hP hS hL hc hs => hF.2 pc ⟨x, rfl, hd, hret⟩ H locs ls cells slots hP hS hc hs⟩
set_option maxHeartbeats 4000000 in
theorem pw_return (hX : pm_X p s m args meth c own bytes ret ini D cI cZ b base n0 sl xs nL) (hdp : hdB = true → 1 ≤ R.frames ∧ 40 ≤ R.locals) (hd : decode bytes pc = .ok (.return_, len)) (hln : len = pm_ln (.return_) len) (hF : pm_F False (pm_T1 p l e R s m args below meth c Q D cI cZ b base n0 s0 bytes ret) (pm_K p l e R s m args below meth c Q D cI cZ b base n0 s0) (pm_C1 p l e R s m args below meth c Q D cI cZ b base n0 s0 sl xs) sl xs own ret ini hdB (.return_) pc L st sh h) : pm_K p l e R s m args below meth c Q D cI cZ b base n0 s0 pc L st (sh, h) := by
  obtain ⟨hx, hb, hml, hown, hts, hK, hXs, hbb, hsz, hini, hNw⟩ := hX
  have hl1 : len = 1 := hln
  subst hl1
  cases st with
  | cons _ _ => exact hF.elim
  | nil =>
    cases ret with
    | some _ => exact hF.elim
    | none => exact ⟨hF.1, fun hLn H locs ls cells slots hP hS hL hc hs => hF.2 pc ⟨hd, rfl⟩ H locs ls cells slots hP hS hc hs⟩
end PMP8
