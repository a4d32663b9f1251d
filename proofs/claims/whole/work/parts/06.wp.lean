/-! one step of the small machine is a step of the machine -/
def pm_gt : List Cond := lw_tbl.filter goodWord
theorem pm_g {w : Cond} (h : w ∈ lw_tbl) (hg : goodWord w = true) : w ∈ pm_gt := List.mem_filter.mpr ⟨h, hg⟩
theorem pm_GI {ws : List Cond} (h : ∀ w ∈ ws, w ∈ pm_gt) : GoodIn pm_gt ws := fun w hw => ⟨h w hw, good_of_word (List.mem_filter.mp (h w hw)).2⟩
theorem pm_g_lay {C : String} {T : u_T} {N : Nat} (h : ∀ w ∈ u_ws C T N, w ∈ lw_tbl) : ∀ w ∈ u_ws C T N, w ∈ pm_gt := by
  intro w hw
  refine pm_g (h w hw) ?_
  obtain ⟨k, -, rfl⟩ := List.mem_map.mp hw
  unfold u_lay
  split <;> rfl
theorem pm_up_same (h : pmH) (k j : Nat) (x : Int32) : pm_up h k j x k = upd (h k) j x := if_pos rfl
theorem pm_up_ne {h : pmH} {k j a : Nat} {x : Int32} (ha : a ≠ k) : pm_up h k j x a = h a := if_neg ha
theorem pm_z_same (h : pmH) (k : Nat) : pm_z h k k = fun _ => 0 := if_pos rfl
theorem pm_z_ne {h : pmH} {k a : Nat} (ha : a ≠ k) : pm_z h k a = h a := if_neg ha
theorem pm_fv_get {ad : Nat → Nat} {f : Nat → Int32} {fl : List (Option (Option Nat))} {j : Nat} {o : Option (Option Nat)} (h : fl[j]? = some o) : (pm_fv ad f fl)[j]? = some (pm_v1 ad (f j) o) := by
  unfold pm_fv; rw [List.getElem?_mapIdx, h]; rfl
theorem pm_fv_upd {ad : Nat → Nat} {f : Nat → Int32} {fl : List (Option (Option Nat))} {j : Nat} {x : Int32} (h : fl[j]? = some none) : pm_fv ad (upd f j x) fl = (pm_fv ad f fl).set j (.int x) := by
  have hj := (List.getElem?_eq_some_iff.mp h).1
  apply List.ext_getElem?
  intro i
  unfold pm_fv
  by_cases hi : i = j
  · subst hi
    rw [List.getElem?_set_self (by rw [List.length_mapIdx]; exact hj), List.getElem?_mapIdx, h]
    simp [pm_v1, upd]
  · rw [List.getElem?_set_ne (Ne.symm hi), List.getElem?_mapIdx, List.getElem?_mapIdx]
    simp [upd, hi]
theorem pm_fv_set {ad : Nat → Nat} {f : Nat → Int32} {fl : List (Option (Option Nat))} {j a : Nat} : pm_fv ad f (fl.set j (some (some a))) = (pm_fv ad f fl).set j (.ref (ad a)) := by
  apply List.ext_getElem?
  intro i
  unfold pm_fv
  by_cases hi : i = j
  · subst hi
    by_cases hj : i < fl.length
    · rw [List.getElem?_set_self (by rw [List.length_mapIdx]; exact hj), List.getElem?_mapIdx, List.getElem?_set_self hj]
      rfl
    · rw [List.getElem?_eq_none (by rw [List.length_mapIdx, List.length_set]; omega), List.getElem?_eq_none (by rw [List.length_set, List.length_mapIdx]; omega)]
  · rw [List.getElem?_set_ne (Ne.symm hi), List.getElem?_mapIdx, List.getElem?_mapIdx, List.getElem?_set_ne (Ne.symm hi)]
theorem pm_int_eq (n : Int) : Int32.ofInt n = pm_int n := by
  cases n with
  | ofNat k => first | exact Int32.ofInt_eq_ofNat | rfl
  | negSucc k =>
    simp only [pm_int, nI, Int.negSucc_eq]
    rw [Int32.ofInt_neg]
    congr 1
theorem pm_int_b {n : Int} (h1 : -128 ≤ n) (h2 : n < 128) : (Int8.ofInt n).toInt32 = pm_int n := by
  rw [← pm_int_eq, ← Int32.toInt_inj, Int8.toInt_toInt32, Int32.toInt_ofInt, Int8.toInt_ofInt]
  simp only [Int.bmod_def, Int8.size, Int16.size, Int32.size]
  omega
theorem pm_int_s {n : Int} (h1 : -32768 ≤ n) (h2 : n < 32768) : (Int16.ofInt n).toInt32 = pm_int n := by
  rw [← pm_int_eq, ← Int32.toInt_inj, Int16.toInt_toInt32, Int32.toInt_ofInt, Int16.toInt_ofInt]
  simp only [Int.bmod_def, Int8.size, Int16.size, Int32.size]
  omega
/-- the links to a nest mate's own methods -/
def pm_Nst (U : State) : Prop := ∀ (a : String) (i : Nat) (x : MethodName) (g : String), Cond.methodLinkNest a i x g ∈ lw_tbl → va_Nw (.methodLinkNest a i x g) U
def pm_rm (d mc ms : Nat) : Room := { frames := d, cells := mc, slots := ms, locals := 40 * d }
def pm_Pc (D : va_G) (cI cZ : ClassId) (b base sl : Nat) (xs : Nat → Int32) (as : List Value) (w : pmW) : Array Value → State → Prop :=
  va_Pc (as.map (pm_cv (pm_ad b base))) (fun U => va_P D vwCl (pm_ws cI cZ b base w) U.heap ∧ va_K D vwCl [(cI, .int), (cZ, .boolean)] U ∧ U.heap.size = base + w.1.length ∧ va_X b sl xs U U.heap ∧ pm_Nst U)
def pm_Qc (D : va_G) (cI cZ : ClassId) (b base : Nat) (r : Option Value) (w : pmW) : Array Value → State → Outcome → State → Prop := fun _ st oc t =>
  oc = .returned (r.map (pm_cv (pm_ad b base))) ∧ va_P D vwCl (pm_ws cI cZ b base w) t.heap ∧ va_F (fun q => base ≤ q) st t
def pm_wsM (M : pmM) : List Cond := Cond.code M.1 M.2.1 M.2.2.1 M.2.2.2.1 :: pm_gt
/-- a method's contract, at just this world and these arguments -/
def pm_Con (l : Launch) (D : va_G) (cI cZ : ClassId) (b base sl : Nat) (xs : Nat → Int32) (d y : Nat) (as : List Value) (w : pmW) (r : Option Value) (w' : pmW) : Prop :=
  ∀ M, pm_mt y = some M → pm_okM M → Met l M.1 (pm_wsM M) (pm_rm d (w'.1.length - w.1.length) (pm_ss w'.1 - pm_ss w.1)) (pm_Pc D cI cZ b base sl xs as w) (pm_Qc D cI cZ b base r w') (w'.1.length - w.1.length) (pm_ss w'.1 - pm_ss w.1) (fun q => base ≤ q)
section PMW
variable {p : Program} {l : Launch} {e : Env} {R : Room} {s : State} {m : MethodId} {args : Array Value} {below : List Frame} {meth : Method} {c : Code} {Q : State → Prop}
theorem pm_Wsz {H : Heap} {locs : List Loc} {cells slots : Nat} {g : JFrame} (h : H.size ≤ s.heap.size + cells → W p l e R s m args below meth c H locs cells slots Q g) : W p l e R s m args below meth c H locs cells slots Q g :=
  fun T hT X => h (by rw [← hT]; exact X.same.2.2.1) T hT X
def pm_B (R : Room) (n0 s0 : Nat) (w : pmW) : Prop := w.1.length ≤ R.cells + n0 ∧ pm_ss w.1 ≤ R.slots + s0
def pm_K (p : Program) (l : Launch) (e : Env) (R : Room) (s : State) (m : MethodId) (args : Array Value) (below : List Frame) (meth : Method) (c : Code) (Q : State → Prop) (D : va_G) (cI cZ : ClassId) (b base n0 s0 : Nat) (pc : Nat) (L : pmL) (st : List Value) (w : pmW) : Prop :=
  pm_B R n0 s0 w ∧ (L.length = c.maxLocals → ∀ (H : Heap) (locs : List Loc) (ls : Array Slot) (cells slots : Nat), va_P D vwCl (pm_ws cI cZ b base w) H → va_S (fun q => base ≤ q) s.heap H locs → pm_has (pm_ad b base) ls L → cells + n0 = w.1.length → slots + s0 = pm_ss w.1 → W p l e R s m args below meth c H locs cells slots Q (F0 m pc ls (st.map (pm_cv (pm_ad b base)))))
def pm_T1 (p : Program) (l : Launch) (e : Env) (R : Room) (s : State) (m : MethodId) (args : Array Value) (below : List Frame) (meth : Method) (c : Code) (Q : State → Prop) (D : va_G) (cI cZ : ClassId) (b base n0 s0 : Nat) (bytes : ByteArray) (ret : Option FieldType) (r : Option Value) (w : pmW) : Prop :=
  pm_B R n0 s0 w ∧ ∀ (pc : Nat), (match r with
    | none => decode bytes pc = .ok (.return_, 1) ∧ ret = none
    | some v => ∃ x, v = .int x ∧ decode bytes pc = .ok (.ireturn, 1) ∧ (ret = some .int ∨ (ret = some .boolean ∧ (x = 0 ∨ x = 1)))) →
    ∀ (H : Heap) (locs : List Loc) (ls : Array Slot) (cells slots : Nat), va_P D vwCl (pm_ws cI cZ b base w) H → va_S (fun q => base ≤ q) s.heap H locs → cells + n0 = w.1.length → slots + s0 = pm_ss w.1 → W p l e R s m args below meth c H locs cells slots Q (F0 m pc ls ((r.map (pm_cv (pm_ad b base))).toList))
def pm_C1 (p : Program) (l : Launch) (e : Env) (R : Room) (s : State) (m : MethodId) (args : Array Value) (below : List Frame) (meth : Method) (c : Code) (Q : State → Prop) (D : va_G) (cI cZ : ClassId) (b base n0 s0 sl : Nat) (xs : Nat → Int32) (y _rk : Nat) (as : List Value) (w : pmW) (pc : Nat) (L : pmL) (rest : List Value) : Prop :=
  ∃ (r : Option Value) (w' : pmW) (d : Nat), pm_Con l D cI cZ b base sl xs d y as w r w' ∧ d + 1 ≤ R.frames ∧ 40 * (d + 1) ≤ R.locals ∧ w.1.length ≤ w'.1.length ∧ pm_ss w.1 ≤ pm_ss w'.1 ∧ pm_K p l e R s m args below meth c Q D cI cZ b base n0 s0 pc L (r.toList ++ rest) w'
def pm_X (p : Program) (s : State) (m : MethodId) (args : Array Value) (meth : Method) (c : Code) (own : Nat) (bytes : ByteArray) (ret : Option FieldType) (ini : Bool) (D : va_G) (cI cZ : ClassId) (b base n0 sl : Nat) (xs : Nat → Int32) (nL : Nat) : Prop :=
  p.tables.exec = Jvm.exec ∧ c.code = bytes ∧ c.maxLocals = nL ∧ s.vm.findClass (pm_cn own) = some m.cls ∧ (∀ w ∈ pm_gt, w.before args s = true) ∧ va_K D vwCl [(cI, .int), (cZ, .boolean)] s ∧ va_X b sl xs s s.heap ∧ b < base ∧ s.heap.size = base + n0 ∧ (ini = true → meth.name = "<init>") ∧ pm_Nst s
theorem pm_callW {H : Heap} {locs : List Loc} {cells slots mc ms pc : Nat} {free : Addr → Prop} {ls : Array Slot} {Qa : State → Outcome → State → Prop} {rest st0 : List Value} (hr : va_Run p l e R s m args below meth c H locs cells slots mc ms (F0 m pc ls st0) rest Qa free)
    (kk : ∀ (v : Option Value) (u t : State) (H1 : Heap) (Ls : List Loc), u.heap = H → t.heap = H1 → (∀ q ∈ Ls, free q.base) → Qa u (.returned v) t → W p l e R s m args below meth c H1 (locs ++ Ls) (cells + mc) (slots + ms) Q (F0 m (pc + 3) ls (v.toList ++ rest))) : W p l e R s m args below meth c H locs cells slots Q (F0 m pc ls st0) := by
  intro T hT X
  obtain ⟨v, u, t, T', Ls, h0, X', hL, e1, e2, hq, st⟩ := hr T hT X
  obtain ⟨t2, a1, b1⟩ := kk v u t T'.heap Ls h0 e1.symm hL hq T' rfl X'
  exact ⟨t2, st t2 a1, b1⟩
theorem pm_blind {D : va_G} {cI cZ : ClassId} {b base sl : Nat} {xs : Nat → Int32} {as : List Value} {w : pmW} : FrameBlind (pm_Pc D cI cZ b base sl xs as w) := by
  intro a U g mk q
  obtain ⟨q0, qP, qK, qS, qX, qN⟩ := q
  exact ⟨q0, qP, va_K.moved (u := U) (U := U.calling g mk a) (Vm.Alike.refl U.vm) qK, qS, va_X.moved (u := U) (U := U.calling g mk a) (Vm.Alike.refl U.vm) qX, fun a1 i1 x1 g1 h1 => va_Nw.same (u := U) (U := U.calling g mk a) rfl rfl (qN a1 i1 x1 g1 h1)⟩
end PMW
