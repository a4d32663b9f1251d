/-! THE CLAIM OUT OF ONE WALK OF THE LAW'S BODY. Your part is whole_start (and what it stands on); all else here is the same for every law, but numbers. -/
def R_law : String := "LampFeastLaw"
def lw_P (b : Addr) (xs : List Int32) (args : Array Value) (s : State) : Prop := args = #[.ref b] ∧ s.IntsAt b xs ∧ xs.length ≤ 3584 ∧ (Jvm.Cond.and given_1 narrow_1).before args s = true
def lw_Q (_ : Array Value) (s : State) (o : Outcome) (t : State) : Prop := o = .returned (some (.int 1)) ∧ Framed s o t [] 600000 7302250
def lw_Z (below : List Frame) (a : Array Value) (s : State) : State → Prop := fun t => ∃ o, t.status = .running ∧ Ended t below o ∧ lw_Q a s o t
/-- the law's own end, with 1 on the stack, nothing written that was there before, its room as the claim has it -/
theorem lw_ret {p : Program} {l : Launch} {e : Env} {s : State} {m : MethodId} {below : List Frame} {meth : Method} {c : Code} {b : Nat} (hx : p.tables.exec = Jvm.exec) (hb : c.code = code) (hr : meth.sig.returnType = ret) (hlocks : meth.locks = false) {pc : Nat} {H : Heap} {ls : Array Slot} (hdg : decode code pc = .ok (.ireturn, 1)) : W p l e room_1 s m #[Value.ref b] below meth c H [] 600000 7302250 (lw_Z below #[Value.ref b] s) (F0 m pc ls [.int 1]) := by
  intro T hT X
  obtain ⟨fs, hret, hrun, hended, hW, hframe⟩ := X.leave (v := some (.int 1)) (hlocks := hlocks) (fun h => by rw [hr] at h; cases h)
  have hmeth' : T.vm.method? m = some meth := X.method'
  refine ⟨T.setFrames fs, ?_, .returned (some (.int 1)), hrun, hended, rfl, ⟨_, rfl⟩, hW, hframe⟩
  jvm_step X.here [X.here.top, hx, hb, hdg, hmeth', hr, ret, narrow_b1]
  (try refine ⟨rfl, ?_⟩); (try refine ⟨rfl, ?_⟩)
  first | (intro acts; rw [hret _ acts rfl rfl rfl]) | rw [hret _ _ rfl rfl rfl]
  exact Steps.refl _
/-- what holds at the law's entry: the machine, the code, the tables' words (any of lw_tbl by 'hts w (by decide +kernel)'), the script of L ints xs at the cell b, what the Statement gives of the start (any of its parts by flat_of_before) -/
def lw_At (p : Program) (s : State) (m : MethodId) (meth : Method) (c : Code) (b L : Nat) (xs : Nat → Int32) : Prop :=
  p.tables.exec = Jvm.exec ∧ c.code = code ∧ meth.sig.returnType = ret ∧ c.maxLocals = 4 ∧ s.vm.findClass R_law = some m.cls ∧ (∀ w ∈ lw_tbl, w.before #[Value.ref b] s = true) ∧ va_X b L xs s s.heap ∧ b < s.heap.size ∧ meth.locks = false ∧ (Jvm.Cond.and given_1 narrow_1).before #[Value.ref b] s = true
/-- the law's run in the small machine gives the claim's walk -/
def pm_law (L : Nat) (xs : Nat → Int32) : Prop := ∃ w2 : pmW, pm_Ev L xs 60 152 0 [some (.ref 0), none, none, none] [] ([], fun _ _ => 0) = some (some (.int 1), w2) ∧ w2.1.length ≤ 600000 ∧ pm_ss w2.1 ≤ 7302250
theorem pm_arrT {s : State} {args : Array Value} {ty : FieldType} (h : (Cond.arrayClass ty).before args s = true) : ∃ cA : ClassId, ArrOfT s cA ty ∧ s.vm.findClass ("[" ++ ty.toString) = some cA := by
  obtain ⟨cA, kA, comp, h1, h2, h3⟩ := Cond.arrayClass_spec h
  exact ⟨cA, fun n z => ⟨fun k h => (by cases h), kA, h2, comp, h3⟩, h1⟩
set_option maxHeartbeats 4000000 in
theorem pm_start {p : Program} {e : Env} {s : State} {m : MethodId} {below : List Frame} {meth : Method} {c : Code} (l : Launch) {b L : Nat} {xs : Nat → Int32} (hlaw : pm_law L xs) (C0 : lw_At p s m meth c b L xs) : W p l e room_1 s m #[Value.ref b] below meth c s.heap [] 0 0 (lw_Z below #[Value.ref b] s) (entryFrame m ([Value.ref b] : List Value).toArray 4) := by
  obtain ⟨hx, hb, hr, hml, hown, hts, hX, hbl, hlocks, -⟩ := C0
  obtain ⟨w2, hEv, hw1, hw2⟩ := hlaw
  obtain ⟨n, hex⟩ := pm_Ev_ex hEv
  have hkn : ∀ ci : Nat, ∃ q : ClassId × (Nat → Nat), ci < 9 → u_Kn s (pm_cn ci) (pm_T ci) (pm_N ci) q.1 q.2 := by
    intro ci
    by_cases h : ci < 9
    · obtain ⟨hC1, hC2, hC3, hC4, hC5, hC6, hC7⟩ := pmC_all ci h
      obtain ⟨cC, iS, hK⟩ := u_known hts hC2 (hts _ hC5)
      exact ⟨(cC, iS), fun _ => hK⟩
    · exact ⟨(0, fun _ => 0), fun h2 => absurd h2 h⟩
  obtain ⟨cI, hI1, hI2⟩ := pm_arrT (hts _ pm_arr.1)
  obtain ⟨cZ, hZ1, hZ2⟩ := pm_arrT (hts _ pm_arr.2)
  have hK : va_K (fun ci => (Classical.choose (hkn ci)).1, fun ci => (Classical.choose (hkn ci)).2) vwCl [(cI, .int), (cZ, .boolean)] s := by
    refine ⟨fun ci q hq => ?_, fun k q hq => ?_⟩
    · have h9 : ci < 9 := (List.getElem?_eq_some_iff.mp hq).1
      have h1 := (pmC_all ci h9).1
      rw [h1] at hq
      cases hq
      exact Classical.choose_spec (hkn ci) h9
    · rcases k with _ | _ | k
      · cases hq; exact ⟨hI1, hI2⟩
      · cases hq; exact ⟨hZ1, hZ2⟩
      · cases hq
  have hPX : pm_X p s m #[Value.ref b] meth c 9 code (some .boolean) (pm_ini mt_152) (fun ci => (Classical.choose (hkn ci)).1, fun ci => (Classical.choose (hkn ci)).2) cI cZ b s.heap.size 0 L xs 4 :=
    ⟨hx, hb, hml, hown, fun w hw => hts w (List.mem_filter.mp hw).1, hK, hX, hbl, rfl, fun h => absurd (of_decide_eq_true h) (by decide +kernel), fun a i x g h => va_Nw.of rfl (hts _ h)⟩
  have hT : pm_T1 p l e room_1 s m #[Value.ref b] below meth c (lw_Z below #[Value.ref b] s) (fun ci => (Classical.choose (hkn ci)).1, fun ci => (Classical.choose (hkn ci)).2) cI cZ b s.heap.size 0 0 code (some .boolean) (some (.int 1)) w2 := by
    refine ⟨⟨hw1, hw2⟩, fun pc hret H locs ls cells slots hP2 hS2 hc hs => ?_⟩
    obtain ⟨x, hx1, hd, -⟩ := hret
    refine va_forget (fun q hq => hS2.2.2 q hq) ?_
    refine W.widen (k := 600000) (n := 7302250) (by omega) (by omega) ?_
    exact lw_ret hx hb hr hlocks hd
  have hKK := pm_sound L xs n 60 152 mt_152 rfl ck_152 p l e room_1 s m #[Value.ref b] below meth c (lw_Z below #[Value.ref b] s) _ cI cZ b s.heap.size 0 0 4 hPX (by decide) (by decide) 0 _ [] _ _ w2 hex hT
  rw [lg_entry_eq]
  exact hKK.2 hml.symm s.heap [] _ 0 0 (fun k q hq => by cases hq) va_S.rf (pm_entry (ad := pm_ad b s.heap.size) (n := 4) (as := [.ref 0]) rfl (by decide)) rfl rfl
