/-! all steps in one; the step as data; runs -/
section PMA
variable {p : Program} {l : Launch} {e : Env} {R : Room} {s : State} {m : MethodId} {args : Array Value} {below : List Frame} {meth : Method} {c : Code} {Q : State → Prop}
variable {D : va_G} {cI cZ : ClassId} {b base n0 s0 sl own pc len nL : Nat} {xs : Nat → Int32} {bytes : ByteArray} {ret : Option FieldType} {ini hdB : Bool} {L : pmL} {st : List Value} {sh : List pmS} {h : pmH}
set_option maxHeartbeats 4000000 in
theorem pm_wp {op : Instr} (hX : pm_X p s m args meth c own bytes ret ini D cI cZ b base n0 sl xs nL) (hdp : hdB = true → 1 ≤ R.frames ∧ 40 ≤ R.locals) (hd : decode bytes pc = .ok (op, len)) (hln : len = pm_ln op len) (hF : pm_F False (pm_T1 p l e R s m args below meth c Q D cI cZ b base n0 s0 bytes ret) (pm_K p l e R s m args below meth c Q D cI cZ b base n0 s0) (pm_C1 p l e R s m args below meth c Q D cI cZ b base n0 s0 sl xs) sl xs own ret ini hdB op pc L st sh h) : pm_K p l e R s m args below meth c Q D cI cZ b base n0 s0 pc L st (sh, h) := by
  cases op with
  | iconst => exact pw_iconst hX hdp hd hln hF
  | bipush => exact pw_bipush hX hdp hd hln hF
  | sipush => exact pw_sipush hX hdp hd hln hF
  | ldc => exact pw_ldc hX hdp hd hln hF
  | ldc_w => exact pw_ldc_w hX hdp hd hln hF
  | iload => exact pw_iload hX hdp hd hln hF
  | lload => exact pw_lload hX hdp hd hln hF
  | iload_n => exact pw_iload_n hX hdp hd hln hF
  | aload_n => exact pw_aload_n hX hdp hd hln hF
  | istore => exact pw_istore hX hdp hd hln hF
  | istore_n => exact pw_istore_n hX hdp hd hln hF
  | astore_n => exact pw_astore_n hX hdp hd hln hF
  | lstore => exact pw_lstore hX hdp hd hln hF
  | iinc => exact pw_iinc hX hdp hd hln hF
  | iadd => exact pw_iadd hX hdp hd hln hF
  | isub => exact pw_isub hX hdp hd hln hF
  | imul => exact pw_imul hX hdp hd hln hF
  | ishl => exact pw_ishl hX hdp hd hln hF
  | ishr => exact pw_ishr hX hdp hd hln hF
  | iand => exact pw_iand hX hdp hd hln hF
  | ior => exact pw_ior hX hdp hd hln hF
  | idiv => exact pw_idiv hX hdp hd hln hF
  | irem => exact pw_irem hX hdp hd hln hF
  | ldiv => exact pw_ldiv hX hdp hd hln hF
  | lrem => exact pw_lrem hX hdp hd hln hF
  | i2l => exact pw_i2l hX hdp hd hln hF
  | l2i => exact pw_l2i hX hdp hd hln hF
  | lmul => exact pw_lmul hX hdp hd hln hF
  | lcmp => exact pw_lcmp hX hdp hd hln hF
  | dup => exact pw_dup hX hdp hd hln hF
  | dup2 => exact pw_dup2 hX hdp hd hln hF
  | pop => exact pw_pop hX hdp hd hln hF
  | goto => exact pw_goto hX hdp hd hln hF
  | ifCond => exact pw_ifCond hX hdp hd hln hF
  | if_icmp => exact pw_if_icmp hX hdp hd hln hF
  | tableswitch => exact pw_tableswitch hX hdp hd hln hF
  | getfield => exact pw_getfield hX hdp hd hln hF
  | putfield => exact pw_putfield hX hdp hd hln hF
  | iaload => exact pw_iaload hX hdp hd hln hF
  | baload => exact pw_baload hX hdp hd hln hF
  | iastore => exact pw_iastore hX hdp hd hln hF
  | bastore => exact pw_bastore hX hdp hd hln hF
  | arraylength => exact pw_arraylength hX hdp hd hln hF
  | new => exact pw_new hX hdp hd hln hF
  | newarray => exact pw_newarray hX hdp hd hln hF
  | invokevirtual => exact pw_invokevirtual hX hdp hd hln hF
  | invokestatic => exact pw_invokestatic hX hdp hd hln hF
  | invokespecial => exact pw_invokespecial hX hdp hd hln hF
  | ireturn => exact pw_ireturn hX hdp hd hln hF
  | return_ => exact pw_return hX hdp hd hln hF
  | _ => exact (show False from hF).elim
end PMA
section PMN
variable {ρ σ : Type} (g : ρ → σ)
theorem n_pi (z : ρ) (st : List Value) (f : Int32 → List Value → ρ) : g (pm_pi z st f) = pm_pi (g z) st (fun x r => g (f x r)) := by unfold pm_pi; split <;> rfl
theorem n_pl (z : ρ) (st : List Value) (f : Int64 → List Value → ρ) : g (pm_pl z st f) = pm_pl (g z) st (fun x r => g (f x r)) := by unfold pm_pl; split <;> rfl
theorem n_pr (z : ρ) (st : List Value) (f : Nat → List Value → ρ) : g (pm_pr z st f) = pm_pr (g z) st (fun x r => g (f x r)) := by unfold pm_pr; split <;> rfl
theorem n_p1 (z : ρ) (st : List Value) (f : Value → List Value → ρ) : g (pm_p1 z st f) = pm_p1 (g z) st (fun x r => g (f x r)) := by
  unfold pm_p1; split
  · split <;> rfl
  · rfl
theorem n_vi (z : ρ) (v : Value) (f : Int32 → ρ) : g (pm_vi z v f) = pm_vi (g z) v (fun x => g (f x)) := by unfold pm_vi; split <;> rfl
theorem n_vl (z : ρ) (v : Value) (f : Int64 → ρ) : g (pm_vl z v f) = pm_vl (g z) v (fun x => g (f x)) := by unfold pm_vl; split <;> rfl
theorem n_vr (z : ρ) (v : Value) (f : Nat → ρ) : g (pm_vr z v f) = pm_vr (g z) v (fun x => g (f x)) := by unfold pm_vr; split <;> rfl
theorem n_ld (z : ρ) (L : pmL) (i : Nat) (f : Value → ρ) : g (pm_ld z L i f) = pm_ld (g z) L i (fun x => g (f x)) := by unfold pm_ld; split <;> rfl
theorem n_s1 (z : ρ) (L : pmL) (i : Nat) (v : Value) (f : pmL → ρ) : g (pm_s1 z L i v f) = pm_s1 (g z) L i v (fun x => g (f x)) := by unfold pm_s1; split <;> rfl
theorem n_s2 (z : ρ) (L : pmL) (i : Nat) (v : Value) (f : pmL → ρ) : g (pm_s2 z L i v f) = pm_s2 (g z) L i v (fun x => g (f x)) := by unfold pm_s2; split <;> rfl
theorem n_j (z : ρ) (pc : Nat) (off : Int) (f : Nat → ρ) : g (pm_j z pc off f) = pm_j (g z) pc off (fun x => g (f x)) := by unfold pm_j; split <;> rfl
theorem n_c1 (c : ClassFile.Cond) (x : Int32) (a b : ρ) : g (pm_c1 c x a b) = pm_c1 c x (g a) (g b) := by cases c <;> unfold pm_c1 <;> dsimp only <;> split <;> rfl
theorem n_c2 (c : ClassFile.Cond) (x y : Int32) (a b : ρ) : g (pm_c2 c x y a b) = pm_c2 c x y (g a) (g b) := by cases c <;> unfold pm_c2 <;> dsimp only <;> split <;> rfl
theorem n_sw (z : ρ) (pc : Nat) (x : Int32) (f : Nat → ρ) (d : Int) : ∀ (l : List Int) (i : Nat), g (pm_sw z pc x f d i l) = pm_sw (g z) pc x (fun t => g (f t)) d i l
  | [], i => n_j g z pc d f
  | o :: t, i => by
    unfold pm_sw
    split
    · exact n_j g z pc o f
    · exact n_sw z pc x f d t (i + 1)
theorem n_ar (z : ρ) (sh : List pmS) (t a : Nat) (f : Nat → Nat → ρ) : g (pm_ar z sh t a f) = pm_ar (g z) sh t a (fun x y => g (f x y)) := by
  unfold pm_ar; split
  · rfl
  · split
    · split <;> rfl
    · rfl
theorem n_ob (z : ρ) (sh : List pmS) (t a : Nat) (f : Nat → List (Option (Option Nat)) → ρ) : g (pm_ob z sh t a f) = pm_ob (g z) sh t a (fun x y => g (f x y)) := by
  unfold pm_ob; split
  · rfl
  · split
    · split <;> rfl
    · rfl
theorem n_ix (z : ρ) (i : Int32) (n : Nat) (f : Nat → ρ) : g (pm_ix z i n f) = pm_ix (g z) i n (fun x => g (f x)) := by unfold pm_ix; split <;> rfl
theorem n_o {α : Type} (z : ρ) (o : Option α) (f : α → ρ) : g (pm_o z o f) = pm_o (g z) o (fun x => g (f x)) := by unfold pm_o; split <;> rfl
theorem n_b (z : ρ) (b : Bool) (f : ρ) : g (pm_b z b f) = pm_b (g z) b (g f) := by unfold pm_b; split <;> rfl
theorem n_gf (z : ρ) (o : Option (Option (Option Nat))) (fi : ρ) (fr : Nat → ρ) : g (pm_gf z o fi fr) = pm_gf (g z) o (g fi) (fun x => g (fr x)) := by unfold pm_gf; split <;> rfl
theorem n_gr (z : ρ) (o : Option (Option (Option Nat))) (fr : ρ) : g (pm_gr z o fr) = pm_gr (g z) o (g fr) := by unfold pm_gr; split <;> rfl
theorem n_rt (z : ρ) (ret : Option FieldType) (x : Int32) (f : ρ) : g (pm_rt z ret x f) = pm_rt (g z) ret x (g f) := by
  unfold pm_rt; split
  · rfl
  · split <;> rfl
  · rfl
theorem n_at (z : ρ) (a : ArrayType) (f : Nat → ρ) : g (pm_at z a f) = pm_at (g z) a (fun x => g (f x)) := by unfold pm_at; split <;> rfl
set_option maxHeartbeats 4000000 in
theorem pm_nat (z : ρ) (rt : Option Value → pmW → ρ) (k : Nat → pmL → List Value → pmW → ρ) (cl : Nat → Nat → List Value → pmW → Nat → pmL → List Value → ρ) (sl : Nat) (xs : Nat → Int32) (own : Nat) (ret : Option FieldType) (ini hd : Bool) (op : Instr) (pc : Nat) (L : pmL) (st : List Value) (sh : List pmS) (h : pmH) :
    g (pm_F z rt k cl sl xs own ret ini hd op pc L st sh h) = pm_F (g z) (fun r w => g (rt r w)) (fun a b c d => g (k a b c d)) (fun a b c d e f i => g (cl a b c d e f i)) sl xs own ret ini hd op pc L st sh h := by
  cases op with
  | putfield i =>
    simp only [pm_F, n_o g, n_p1 g, n_pr g, n_ob g]
    congr 1; funext q; congr 1; funext v r; congr 1; funext a r; congr 1; funext c fl
    cases v <;> simp only [n_gf g, n_gr g, n_b g]
  | iaload =>
    simp only [pm_F, n_pi g, n_pr g]
    congr 1; funext i r; congr 1; funext a r
    cases a <;> simp only [n_ix g, n_ar g]
  | arraylength =>
    simp only [pm_F, n_pr g]
    congr 1; funext a r
    cases a <;> simp only [n_ar g]
  | ireturn =>
    simp only [pm_F, n_pi g]
    congr 1; funext x r
    cases r <;> simp only [n_rt g]
  | return_ =>
    unfold pm_F; dsimp only
    cases st with
    | nil => cases ret <;> rfl
    | cons _ _ => rfl
  | invokestatic i =>
    unfold pm_F; dsimp only
    split <;> simp only [n_pi g, n_b g, n_o g]
  | invokespecial i =>
    unfold pm_F; dsimp only
    split <;> simp only [n_pr g, n_b g, n_o g]
  | ifCond c off => simp only [pm_F, n_pi g, n_j g, n_c1 g]
  | if_icmp c off => simp only [pm_F, n_pi g, n_j g, n_c2 g]
  | newarray a =>
    simp only [pm_F, n_at g, n_pi g]
    congr 1; funext t; congr 1; funext n r
    split <;> rfl
  | bastore =>
    simp only [pm_F, n_pi g, n_pr g, n_ar g, n_ix g]
    congr 1; funext x r; congr 1; funext i r; congr 1; funext a r; congr 1; funext c n; congr 1; funext j
    split <;> rfl
  | idiv =>
    simp only [pm_F, n_pi g]
    congr 1; funext y r; congr 1; funext x r
    split <;> rfl
  | irem =>
    simp only [pm_F, n_pi g]
    congr 1; funext y r; congr 1; funext x r
    split <;> rfl
  | ldiv =>
    simp only [pm_F, n_pl g]
    congr 1; funext y r; congr 1; funext x r
    split <;> rfl
  | lrem =>
    simp only [pm_F, n_pl g]
    congr 1; funext y r; congr 1; funext x r
    split <;> rfl
  | _ => first | rfl | simp only [pm_F, n_pi g, n_pl g, n_pr g, n_p1 g, n_vi g, n_vl g, n_vr g, n_ld g, n_s1 g, n_s2 g, n_j g, n_sw g, n_ar g, n_ob g, n_ix g, n_o g, n_b g, n_gf g]
end PMN
/-- a step as data: stuck, an answer, the next state, a call -/
abbrev pmD : Type := Option (pmR ⊕ ((Nat × pmL × List Value × pmW) ⊕ (Nat × Nat × List Value × pmW × Nat × pmL × List Value)))
def pm_in {ρ : Type} (z : ρ) (rt : Option Value → pmW → ρ) (k : Nat → pmL → List Value → pmW → ρ) (cl : Nat → Nat → List Value → pmW → Nat → pmL → List Value → ρ) (x : pmD) : ρ := match x with
  | none => z
  | some (.inl r) => rt r.1 r.2
  | some (.inr (.inl q)) => k q.1 q.2.1 q.2.2.1 q.2.2.2
  | some (.inr (.inr q)) => cl q.1 q.2.1 q.2.2.1 q.2.2.2.1 q.2.2.2.2.1 q.2.2.2.2.2.1 q.2.2.2.2.2.2
def pm_D0 (sl : Nat) (xs : Nat → Int32) (own : Nat) (ret : Option FieldType) (ini hd : Bool) (op : Instr) (pc : Nat) (L : pmL) (st : List Value) (sh : List pmS) (h : pmH) : pmD :=
  pm_F (ρ := pmD) none (fun r w => some (.inl (r, w))) (fun a b c d => some (.inr (.inl (a, b, c, d)))) (fun a b c d e f i => some (.inr (.inr (a, b, c, d, e, f, i)))) sl xs own ret ini hd op pc L st sh h
theorem pm_F_D {ρ : Type} (z : ρ) (rt : Option Value → pmW → ρ) (k : Nat → pmL → List Value → pmW → ρ) (cl : Nat → Nat → List Value → pmW → Nat → pmL → List Value → ρ) (sl : Nat) (xs : Nat → Int32) (own : Nat) (ret : Option FieldType) (ini hd : Bool) (op : Instr) (pc : Nat) (L : pmL) (st : List Value) (sh : List pmS) (h : pmH) :
    pm_F z rt k cl sl xs own ret ini hd op pc L st sh h = pm_in z rt k cl (pm_D0 sl xs own ret ini hd op pc L st sh h) :=
  (pm_nat (pm_in z rt k cl) none (fun r w => some (.inl (r, w))) (fun a b c d => some (.inr (.inl (a, b, c, d)))) (fun a b c d e f i => some (.inr (.inr (a, b, c, d, e, f, i)))) sl xs own ret ini hd op pc L st sh h).symm
