/-! runs of the small machine, and that the machine does them -/
def pm_ri (o : Option pmR) (sh : List pmS) (f : Int32 → pmH → Option pmR) : Option pmR := match o with
  | some (some (.int x), w) => if w.1 = sh then f x w.2 else none
  | _ => none
def pm_rv (o : Option pmR) (sh : List pmS) (f : pmH → Option pmR) : Option pmR := match o with
  | some (none, w) => if w.1 = sh then f w.2 else none
  | _ => none
def pm_rn (o : Option pmR) (sh : List pmS) (f : pmW → Option pmR) : Option pmR := match o with
  | some (none, w) => if sh.length ≤ w.1.length ∧ pm_ss sh ≤ pm_ss w.1 then f w else none
  | _ => none
def pm_cl (cf : Nat → List Value → pmW → Option pmR) (k : Nat → pmL → List Value → pmW → Option pmR) (y rk : Nat) (as : List Value) (w : pmW) (pc : Nat) (L : pmL) (rest : List Value) : Option pmR := match rk with
  | 0 => pm_rv (cf y as w) w.1 fun h => k pc L rest (w.1, h)
  | 1 => pm_ri (cf y as w) w.1 fun x h => k pc L (.int x :: rest) (w.1, h)
  | _ => pm_rn (cf y as w) w.1 fun w2 => k pc L rest w2
def pm_en (n : Nat) (as : List Value) : pmL := as.map some ++ List.replicate (n - as.length) none
def pm_ini (M : pmM) : Bool := decide (M.1.name = "<init>")
def pm_hd : Nat → Bool
  | 0 => false
  | _ + 1 => true
def pm_c11 : List Value → Bool
  | [] => true
  | v :: t => Nat.beq v.category 1 && pm_c11 t
/-- a call, by what runs a method's body at one level less -/
def pm_cf (ex : Nat → Nat → Nat → pmL → List Value → pmW → Option pmR) (d y : Nat) (as : List Value) (w : pmW) : Option pmR := match d with
  | 0 => none
  | d + 1 => pm_o none (pm_mt y) fun M => pm_b none (pm_c11 as && Nat.ble as.length M.2.2.1) (ex d y 0 (pm_en M.2.2.1 as) [] w)
def pm_ex (sl : Nat) (xs : Nat → Int32) : Nat → Nat → Nat → Nat → pmL → List Value → pmW → Option pmR
  | 0 => fun _ _ _ _ _ _ => none
  | n + 1 => fun d y pc L st w => pm_o none (pm_mt y) fun M => pm_o none (pm_lk pc M.2.2.2.2.2.2) fun q =>
    pm_F none (fun r w => some (r, w)) (pm_ex sl xs n d y) (pm_cl (pm_cf (pm_ex sl xs n) d) (pm_ex sl xs n d y)) sl xs M.2.2.2.2.1 M.2.2.2.1 (pm_ini M) (pm_hd d) q.2 pc L st w.1 w.2
theorem pm_o_some {α β : Type} {o : Option α} {f : α → Option β} {r : β} (h : pm_o none o f = some r) : ∃ a, o = some a ∧ f a = some r := by
  unfold pm_o at h; split at h
  · exact ⟨_, rfl, h⟩
  · cases h
theorem pm_b_some {β : Type} {b : Bool} {f : Option β} {r : β} (h : pm_b none b f = some r) : b = true ∧ f = some r := by
  unfold pm_b at h; split at h
  · exact ⟨rfl, h⟩
  · cases h
theorem pm_rv_some {o : Option pmR} {sh : List pmS} {f : pmH → Option pmR} {r : pmR} (h : pm_rv o sh f = some r) : ∃ h2, o = some (none, (sh, h2)) ∧ f h2 = some r := by
  unfold pm_rv at h; split at h
  · next w =>
    split at h
    · next e => exact ⟨w.2, by rw [← e], h⟩
    · cases h
  · cases h
theorem pm_ri_some {o : Option pmR} {sh : List pmS} {f : Int32 → pmH → Option pmR} {r : pmR} (h : pm_ri o sh f = some r) : ∃ x h2, o = some (some (.int x), (sh, h2)) ∧ f x h2 = some r := by
  unfold pm_ri at h; split at h
  · next x w =>
    split at h
    · next e => exact ⟨x, w.2, by rw [← e], h⟩
    · cases h
  · cases h
theorem pm_rn_some {o : Option pmR} {sh : List pmS} {f : pmW → Option pmR} {r : pmR} (h : pm_rn o sh f = some r) : ∃ w, o = some (none, w) ∧ sh.length ≤ w.1.length ∧ pm_ss sh ≤ pm_ss w.1 ∧ f w = some r := by
  unfold pm_rn at h; split at h
  · next w =>
    split at h
    · next e => exact ⟨w, rfl, e.1, e.2, h⟩
    · cases h
  · cases h
/-- a call that went on: the callee's answer, and what came behind -/
theorem pm_cl_some {cf : Nat → List Value → pmW → Option pmR} {k : Nat → pmL → List Value → pmW → Option pmR} {y rk : Nat} {as : List Value} {w : pmW} {pc : Nat} {L : pmL} {rest : List Value} {res : pmR} (h : pm_cl cf k y rk as w pc L rest = some res) :
    ∃ (r : Option Value) (w2 : pmW), cf y as w = some (r, w2) ∧ w.1.length ≤ w2.1.length ∧ pm_ss w.1 ≤ pm_ss w2.1 ∧ k pc L (r.toList ++ rest) w2 = some res := by
  unfold pm_cl at h; split at h
  · obtain ⟨h2, h3, h4⟩ := pm_rv_some h
    exact ⟨none, _, h3, Nat.le_refl _, Nat.le_refl _, h4⟩
  · obtain ⟨x, h2, h3, h4⟩ := pm_ri_some h
    exact ⟨some (.int x), _, h3, Nat.le_refl _, Nat.le_refl _, h4⟩
  · obtain ⟨w2, h3, h4, h5, h6⟩ := pm_rn_some h
    exact ⟨none, _, h3, h4, h5, h6⟩
theorem pm_ck_at {b : ByteArray} {l : List (Nat × Nat × Instr)} (h : pm_ck b l = true) {pc : Nat} {q : Nat × Instr} (hq : pm_lk pc l = some q) : decode b pc = .ok (q.2, q.1) ∧ q.1 = pm_ln q.2 q.1 := by
  have h1 := List.all_eq_true.mp h _ (pm_lk_mem hq)
  simp only [Bool.and_eq_true, decide_eq_true_eq] at h1
  exact h1
section PMEN
variable {ad : Nat → Nat}
theorem pm_c11_cat : ∀ {as : List Value}, pm_c11 as = true → ∀ v ∈ as, v.category = 1
  | [], _, v, h => absurd h List.not_mem_nil
  | a :: t, h, v, hv => by
    unfold pm_c11 at h
    rw [Bool.and_eq_true] at h
    rcases List.mem_cons.mp hv with rfl | hv
    · exact Nat.eq_of_beq_eq_true h.1
    · exact pm_c11_cat h.2 v hv
theorem pm_sl_len : ∀ {vs : List Value}, (∀ v ∈ vs, v.category = 1) → (lg_sl vs).length = vs.length
  | [], _ => rfl
  | a :: t, h => by
    have h1 := h a List.mem_cons_self
    have h2 := pm_sl_len (vs := t) (fun v hv => h v (List.mem_cons_of_mem _ hv))
    simp only [lg_sl, List.flatMap_cons, List.length_append, List.length_cons] at h2 ⊢
    rw [h2, h1]
    simp
    omega
theorem pm_args_mem : ∀ {vs : List Value} {i j : Nat} {v : Value}, (∀ v ∈ vs, v.category = 1) → vs[j]? = some v → (i + j, v) ∈ lv_args i vs
  | [], _, _, _, _, h => by cases h
  | a :: t, i, j, v, hc, h => by
    have h1 := hc a List.mem_cons_self
    unfold lv_args
    cases j with
    | zero => cases h; exact List.mem_cons_self
    | succ j =>
      rw [List.getElem?_cons_succ] at h
      have h2 := pm_args_mem (i := i + 1) (fun v hv => hc v (List.mem_cons_of_mem _ hv)) h
      refine List.mem_cons_of_mem _ ?_
      rw [if_neg (by omega), show i + (j + 1) = i + 1 + j by omega]
      exact h2
theorem pm_entry {n : Nat} {as : List Value} (hc : pm_c11 as = true) (hn : as.length ≤ n) : pm_has ad ((lg_sl (as.map (pm_cv ad)) ++ List.replicate (n - (lg_sl (as.map (pm_cv ad))).length) Slot.unset).toArray) (pm_en n as) := by
  have hc1 := pm_c11_cat hc
  have hc2 : ∀ v ∈ as.map (pm_cv ad), v.category = 1 := by
    intro v hv
    obtain ⟨u, hu, rfl⟩ := List.mem_map.mp hv
    rw [pm_cv_cat]
    exact hc1 u hu
  have hl := lv_entry (as.map (pm_cv ad)) (n := n) (by rw [pm_sl_len hc2, List.length_map]; exact hn)
  refine ⟨?_, hl.2.1, fun i v hv => ?_⟩
  · rw [hl.1]
    unfold pm_en
    rw [List.length_append, List.length_map, List.length_replicate]
    omega
  · unfold pm_en at hv
    rcases Nat.lt_or_ge i as.length with hi | hi
    · rw [List.getElem?_append_left (by rw [List.length_map]; exact hi), List.getElem?_map] at hv
      cases hu : as[i]? with
      | none => rw [hu] at hv; cases hv
      | some u =>
        rw [hu] at hv
        cases hv
        have h1 : (as.map (pm_cv ad))[i]? = some (pm_cv ad v) := by rw [List.getElem?_map, hu]; rfl
        have h2 := pm_args_mem (i := 0) hc2 h1
        rw [Nat.zero_add] at h2
        exact hl.2.2 _ h2
    · rw [List.getElem?_append_right (by rw [List.length_map]; exact hi)] at hv
      have h3 := List.eq_of_mem_replicate (List.mem_of_getElem? hv)
      cases h3
end PMEN
/-- a run that ends, at any place of a method that the machine is in -/
def pm_Snd (sl : Nat) (xs : Nat → Int32) (n : Nat) : Prop := ∀ (d y : Nat) (M : pmM), pm_mt y = some M → pm_ck M.2.1 M.2.2.2.2.2.2 = true →
  ∀ (p : Program) (l : Launch) (e : Env) (R : Room) (s : State) (m : MethodId) (args : Array Value) (below : List Frame) (meth : Method) (c : Code) (Q : State → Prop) (D : va_G) (cI cZ : ClassId) (b base n0 s0 nL : Nat),
  pm_X p s m args meth c M.2.2.2.2.1 M.2.1 M.2.2.2.1 (pm_ini M) D cI cZ b base n0 sl xs nL → d ≤ R.frames → 40 * d ≤ R.locals →
  ∀ (pc : Nat) (L : pmL) (st : List Value) (w : pmW) (r : Option Value) (w2 : pmW), pm_ex sl xs n d y pc L st w = some (r, w2) → pm_T1 p l e R s m args below meth c Q D cI cZ b base n0 s0 M.2.1 M.2.2.2.1 r w2 → pm_K p l e R s m args below meth c Q D cI cZ b base n0 s0 pc L st w
/-- then it is a contract at its method's start -/
theorem pm_con {sl : Nat} {xs : Nat → Int32} {n : Nat} (hS : pm_Snd sl xs n) {l : Launch} {D : va_G} {cI cZ : ClassId} {b base d y : Nat} (hbb : b < base) {as : List Value} {w w2 : pmW} {r : Option Value} (hcf : pm_cf (pm_ex sl xs n) (d + 1) y as w = some (r, w2)) (hg : w.1.length ≤ w2.1.length) (hg2 : pm_ss w.1 ≤ pm_ss w2.1) : pm_Con l D cI cZ b base sl xs d y as w r w2 := by
  intro M hM hok
  obtain ⟨M', hM', h1⟩ := pm_o_some hcf
  cases hM.symm.trans hM'
  obtain ⟨h2, hex⟩ := pm_b_some h1
  rw [Bool.and_eq_true] at h2
  have hle : as.length ≤ M.2.2.1 := Nat.le_of_ble_eq_true h2.2
  refine Met.ofW (cc := M.2.1) (maxL := M.2.2.1) (ret := M.2.2.2.1) hok.1 rfl ?_
  intro p e s m args below meth c s₁ B hml hv
  obtain ⟨rfl, hP, hK, hsz, hXs, hN⟩ := hv
  have hts := atoms_spec (ws := pm_wsM M) B.pre
  have hown : s.vm.findClass (pm_cn M.2.2.2.2.1) = some m.cls := by rw [hok.2.2.2.2.2.2.1]; exact findClass_of_methodNamed B.named
  have hin : pm_ini M = true → meth.name = "<init>" := fun h => by
    rw [(name_of_methodNamed B.named B.method).1]
    exact of_decide_eq_true h
  have hX : pm_X p s m (as.map (pm_cv (pm_ad b base))).toArray meth c M.2.2.2.2.1 M.2.1 M.2.2.2.1 (pm_ini M) D cI cZ b base w.1.length sl xs M.2.2.1 :=
    ⟨B.exec, B.bytes, hml, hown, fun z hz => hts z (List.mem_cons_of_mem _ hz), hK, hXs, hbb, hsz, hin, hN⟩
  have hlocks := B.notSynchronized
  have hr := B.returns
  have hT : pm_T1 p l e (headSpec (pm_wsM M) (pm_rm d (w2.1.length - w.1.length) (pm_ss w2.1 - pm_ss w.1))).room s m (as.map (pm_cv (pm_ad b base))).toArray below meth c (MQ below (pm_Qc D cI cZ b base r w2) (as.map (pm_cv (pm_ad b base))).toArray s (w2.1.length - w.1.length) (pm_ss w2.1 - pm_ss w.1) (fun q => base ≤ q)) D cI cZ b base w.1.length (pm_ss w.1) M.2.1 M.2.2.2.1 r w2 := by
    refine ⟨⟨by show w2.1.length ≤ (w2.1.length - w.1.length) + w.1.length; omega, by show pm_ss w2.1 ≤ (pm_ss w2.1 - pm_ss w.1) + pm_ss w.1; omega⟩, fun pc hret H locs ls cells slots hP2 hS2 hc hs => ?_⟩
    have hc1 : cells = w2.1.length - w.1.length := by omega
    have hs1 : slots = pm_ss w2.1 - pm_ss w.1 := by omega
    subst hc1
    subst hs1
    cases r with
    | none =>
      obtain ⟨hd, hrn⟩ := hret
      exact W.vret B.exec B.bytes (hr.trans hrn) (fun t ht hW => ⟨rfl, by rw [ht]; exact hP2, hS2.F ht⟩) hS2.2.2 hd
    | some v =>
      obtain ⟨x, rfl, hd, hrt⟩ := hret
      rcases hrt with hrt | ⟨hrt, hx01⟩
      · exact W.iret B.exec B.bytes (hr.trans hrt) (fun t ht hW => ⟨rfl, by rw [ht]; exact hP2, hS2.F ht⟩) hS2.2.2 hd
      · exact W.zret B.exec B.bytes (hr.trans hrt) (by rcases hx01 with rfl | rfl <;> rfl) (fun t ht hW => ⟨rfl, by rw [ht]; exact hP2, hS2.F ht⟩) hS2.2.2 hd
  have hKK := hS d y M hM hok.2.2.2.2.2.2.2 p l e _ s m _ below meth c _ D cI cZ b base w.1.length (pm_ss w.1) M.2.2.1 hX (Nat.le_refl _) (Nat.le_refl _) 0 _ [] w r w2 hex hT
  rw [lg_entry_eq]
  refine hKK.2 ?_ s.heap [] _ 0 0 hP va_S.rf (pm_entry h2.1 hle) (Nat.zero_add _) (Nat.zero_add _)
  unfold pm_en
  rw [List.length_append, List.length_map, List.length_replicate, hml]
  omega
set_option maxHeartbeats 4000000 in
theorem pm_sound (sl : Nat) (xs : Nat → Int32) : ∀ n, pm_Snd sl xs n
  | 0 => fun _ _ _ _ _ _ _ _ _ _ _ _ _ _ _ _ _ _ _ _ _ _ _ _ _ _ _ _ _ _ _ _ _ h _ => by cases h
  | n + 1 => by
    intro d y M hM hck p l e R s m args below meth c Q D cI cZ b base n0 s0 nL hX hfr hlo pc L st w r w2 hex hT
    have ih := pm_sound sl xs n
    have hbb : b < base := hX.2.2.2.2.2.2.2.1
    unfold pm_ex at hex
    obtain ⟨M', hM', hex⟩ := pm_o_some hex
    cases hM.symm.trans hM'
    obtain ⟨q, hq, hex⟩ := pm_o_some hex
    obtain ⟨hd, hln⟩ := pm_ck_at hck hq
    have hdp : pm_hd d = true → 1 ≤ R.frames ∧ 40 ≤ R.locals := fun h => by
      cases d with
      | zero => cases h
      | succ d => exact ⟨by omega, by omega⟩
    obtain ⟨sh, h⟩ := w
    refine pm_wp hX hdp hd hln ?_
    dsimp only at hex
    rw [pm_F_D] at hex ⊢
    cases hD : pm_D0 sl xs M.2.2.2.2.1 M.2.2.2.1 (pm_ini M) (pm_hd d) q.2 pc L st sh h with
    | none => rw [hD] at hex; cases hex
    | some x =>
      rw [hD] at hex
      cases x with
      | inl r0 =>
        have he : some (r0.1, r0.2) = some (r, w2) := hex
        injection he with he
        injection he with he1 he2
        show pm_T1 p l e R s m args below meth c Q D cI cZ b base n0 s0 M.2.1 M.2.2.2.1 r0.1 r0.2
        rw [he1, he2]
        exact hT
      | inr x =>
        cases x with
        | inl q1 => exact ih d y M hM hck p l e R s m args below meth c Q D cI cZ b base n0 s0 nL hX hfr hlo q1.1 q1.2.1 q1.2.2.1 q1.2.2.2 r w2 hex hT
        | inr q1 =>
          obtain ⟨r1, w1, h1, h2, h3, h4⟩ := pm_cl_some hex
          cases d with
          | zero => cases h1
          | succ d => exact ⟨r1, w1, d, pm_con ih hbb h1 h2 h3, hfr, hlo, h2, h3, ih (d + 1) y M hM hck p l e R s m args below meth c Q D cI cZ b base n0 s0 nL hX hfr hlo _ _ _ w1 r w2 h4 hT⟩
