/-! A small machine over pure worlds: cells by number, their shapes, their ints; one step in continuation form, at any result type. -/
/-- a cell's shape: (0, n, _) ints; (1, n, _) booleans; (2, number of its kind, fields: none an int, some a reference) -/
abbrev pmS : Type := Nat × Nat × List (Option (Option Nat))
abbrev pmH : Type := Nat → Nat → Int32
abbrev pmW : Type := List pmS × pmH
abbrev pmL : Type := List (Option Value)
abbrev pmR : Type := Option Value × pmW
/-- a method: name, bytes, locals, answer, owner, arguments, code -/
abbrev pmM : Type := MethodName × ByteArray × Nat × Option FieldType × Nat × Nat × List (Nat × Nat × Instr)
def pm_up (h : pmH) (k j : Nat) (x : Int32) : pmH := fun a => if a = k then upd (h k) j x else h a
def pm_z (h : pmH) (k : Nat) : pmH := fun a => if a = k then (fun _ => 0) else h a
def pm_int : Int → Int32
  | .ofNat n => nI n
  | .negSucc n => - nI (n + 1)
def pm_lk {α : Type} (i : Nat) : List (Nat × α) → Option α
  | [] => none
  | (j, a) :: t => match Nat.beq j i with
    | true => some a
    | false => pm_lk i t
def pm_cs : List Value → Nat
  | [] => 0
  | v :: t => v.category + pm_cs t
section PMF
variable {ρ : Type}
def pm_pi (z : ρ) (st : List Value) (f : Int32 → List Value → ρ) : ρ := match st with
  | .int x :: r => f x r
  | _ => z
def pm_pl (z : ρ) (st : List Value) (f : Int64 → List Value → ρ) : ρ := match st with
  | .long x :: r => f x r
  | _ => z
def pm_pr (z : ρ) (st : List Value) (f : Nat → List Value → ρ) : ρ := match st with
  | .ref x :: r => f x r
  | _ => z
def pm_p1 (z : ρ) (st : List Value) (f : Value → List Value → ρ) : ρ := match st with
  | v :: r => (match Nat.beq v.category 1 with
    | true => f v r
    | false => z)
  | _ => z
def pm_vi (z : ρ) (v : Value) (f : Int32 → ρ) : ρ := match v with
  | .int x => f x
  | _ => z
def pm_vl (z : ρ) (v : Value) (f : Int64 → ρ) : ρ := match v with
  | .long x => f x
  | _ => z
def pm_vr (z : ρ) (v : Value) (f : Nat → ρ) : ρ := match v with
  | .ref x => f x
  | _ => z
def pm_ld (z : ρ) (L : pmL) (i : Nat) (f : Value → ρ) : ρ := match L[i]? with
  | some (some v) => f v
  | _ => z
def pm_k2 (L : pmL) : Nat → pmL
  | 0 => L
  | i + 1 => match L[i]? with
    | some (some v) => (match Nat.beq v.category 2 with
      | true => L.set i none
      | false => L)
    | _ => L
def pm_s1 (z : ρ) (L : pmL) (i : Nat) (v : Value) (f : pmL → ρ) : ρ := match L[i]? with
  | some _ => f ((pm_k2 L i).set i (some v))
  | none => z
def pm_s2 (z : ρ) (L : pmL) (i : Nat) (v : Value) (f : pmL → ρ) : ρ := match L[i + 1]? with
  | some _ => f (((pm_k2 L i).set (i + 1) none).set i (some v))
  | none => z
def pm_j (z : ρ) (pc : Nat) (off : Int) (f : Nat → ρ) : ρ := match (pc : Int) + off with
  | .ofNat t => f t
  | .negSucc _ => z
def pm_c1 (c : ClassFile.Cond) (x : Int32) (a b : ρ) : ρ := match c with
  | .eq => if x = 0 then a else b
  | .ne => if x = 0 then b else a
  | .lt => if x < 0 then a else b
  | .ge => if 0 ≤ x then a else b
  | .gt => if 0 < x then a else b
  | .le => if x ≤ 0 then a else b
def pm_c2 (c : ClassFile.Cond) (x y : Int32) (a b : ρ) : ρ := match c with
  | .eq => if x = y then a else b
  | .ne => if x = y then b else a
  | .lt => if x < y then a else b
  | .ge => if y ≤ x then a else b
  | .gt => if y < x then a else b
  | .le => if x ≤ y then a else b
def pm_sw (z : ρ) (pc : Nat) (x : Int32) (f : Nat → ρ) (d : Int) : Nat → List Int → ρ
  | _, [] => pm_j z pc d f
  | i, o :: t => if x = nI i then pm_j z pc o f else pm_sw z pc x f d (i + 1) t
/-- an array's place: its length and what it holds; number 0 is the script -/
def pm_ar (z : ρ) (sh : List pmS) (t : Nat) (a : Nat) (f : Nat → Nat → ρ) : ρ := match a with
  | 0 => z
  | k + 1 => match sh[k]? with
    | some s => (match Nat.beq s.1 t with
      | true => f k s.2.1
      | false => z)
    | none => z
def pm_ob (z : ρ) (sh : List pmS) (ci : Nat) (a : Nat) (f : Nat → List (Option (Option Nat)) → ρ) : ρ := match a with
  | 0 => z
  | k + 1 => match sh[k]? with
    | some s => (match Nat.beq s.1 2 && Nat.beq s.2.1 ci with
      | true => f k s.2.2
      | false => z)
    | none => z
def pm_ix (z : ρ) (i : Int32) (n : Nat) (f : Nat → ρ) : ρ := if i < 0 ∨ n ≤ i.toNatClampNeg then z else f i.toNatClampNeg
def pm_o {α : Type} (z : ρ) (o : Option α) (f : α → ρ) : ρ := match o with
  | some a => f a
  | none => z
def pm_b (z : ρ) (b : Bool) (f : ρ) : ρ := match b with
  | true => f
  | false => z
def pm_gf (z : ρ) (o : Option (Option (Option Nat))) (fi : ρ) (fr : Nat → ρ) : ρ := match o with
  | some none => fi
  | some (some (some b)) => fr b
  | _ => z
def pm_gr (z : ρ) (o : Option (Option (Option Nat))) (fr : ρ) : ρ := match o with
  | some (some _) => fr
  | _ => z
def pm_rt (z : ρ) (ret : Option FieldType) (x : Int32) (f : ρ) : ρ := match ret with
  | some .int => f
  | some .boolean => if x = 0 ∨ x = 1 then f else z
  | _ => z
def pm_at (z : ρ) (a : ArrayType) (f : Nat → ρ) : ρ := match a with
  | .int => f 0
  | .boolean => f 1
  | _ => z
/-- one instruction -/
def pm_F (z : ρ) (rt : Option Value → pmW → ρ) (k : Nat → pmL → List Value → pmW → ρ) (cl : Nat → Nat → List Value → pmW → Nat → pmL → List Value → ρ)
    (sl : Nat) (xs : Nat → Int32) (own : Nat) (ret : Option FieldType) (ini hd : Bool) (op : Instr) (pc : Nat) (L : pmL) (st : List Value) (sh : List pmS) (h : pmH) : ρ :=
  match op with
  | .iconst n => k (pc + 1) L (.int (pm_int n) :: st) (sh, h)
  | .bipush n => pm_b z (decide (-128 ≤ n) && decide (n < 128)) (k (pc + 2) L (.int (pm_int n) :: st) (sh, h))
  | .sipush n => pm_b z (decide (-32768 ≤ n) && decide (n < 32768)) (k (pc + 3) L (.int (pm_int n) :: st) (sh, h))
  | .ldc i => pm_o z (pm_lk i (pm_kcL own)) fun v => k (pc + 2) L (.int v :: st) (sh, h)
  | .ldc_w i => pm_o z (pm_lk i (pm_kcL own)) fun v => k (pc + 3) L (.int v :: st) (sh, h)
  | .iload i => pm_ld z L i fun v => pm_vi z v fun x => k (pc + 2) L (.int x :: st) (sh, h)
  | .iload_n i => pm_ld z L i.val fun v => pm_vi z v fun x => k (pc + 1) L (.int x :: st) (sh, h)
  | .aload_n i => pm_ld z L i.val fun v => pm_vr z v fun x => k (pc + 1) L (.ref x :: st) (sh, h)
  | .lload i => pm_ld z L i fun v => pm_vl z v fun x => k (pc + 2) L (.long x :: st) (sh, h)
  | .istore i => pm_pi z st fun x r => pm_s1 z L i (.int x) fun L' => k (pc + 2) L' r (sh, h)
  | .istore_n i => pm_pi z st fun x r => pm_s1 z L i.val (.int x) fun L' => k (pc + 1) L' r (sh, h)
  | .astore_n i => pm_pr z st fun x r => pm_s1 z L i.val (.ref x) fun L' => k (pc + 1) L' r (sh, h)
  | .lstore i => pm_pl z st fun x r => pm_s2 z L i (.long x) fun L' => k (pc + 2) L' r (sh, h)
  | .iinc i n => pm_ld z L i fun v => pm_vi z v fun x => pm_s1 z L i (.int (x + pm_int n)) fun L' => k (pc + 3) L' st (sh, h)
  | .iadd => pm_pi z st fun y r => pm_pi z r fun x r => k (pc + 1) L (.int (x + y) :: r) (sh, h)
  | .isub => pm_pi z st fun y r => pm_pi z r fun x r => k (pc + 1) L (.int (x - y) :: r) (sh, h)
  | .imul => pm_pi z st fun y r => pm_pi z r fun x r => k (pc + 1) L (.int (x * y) :: r) (sh, h)
  | .idiv => pm_pi z st fun y r => pm_pi z r fun x r => if y = 0 then z else k (pc + 1) L (.int (x / y) :: r) (sh, h)
  | .irem => pm_pi z st fun y r => pm_pi z r fun x r => if y = 0 then z else k (pc + 1) L (.int (x - x / y * y) :: r) (sh, h)
  | .ishl => pm_pi z st fun y r => pm_pi z r fun x r => k (pc + 1) L (.int (x <<< (y &&& 31)) :: r) (sh, h)
  | .ishr => pm_pi z st fun y r => pm_pi z r fun x r => k (pc + 1) L (.int (x >>> (y &&& 31)) :: r) (sh, h)
  | .iand => pm_pi z st fun y r => pm_pi z r fun x r => k (pc + 1) L (.int (x &&& y) :: r) (sh, h)
  | .ior => pm_pi z st fun y r => pm_pi z r fun x r => k (pc + 1) L (.int (x ||| y) :: r) (sh, h)
  | .i2l => pm_pi z st fun x r => k (pc + 1) L (.long x.toInt64 :: r) (sh, h)
  | .l2i => pm_pl z st fun x r => k (pc + 1) L (.int x.toInt32 :: r) (sh, h)
  | .lmul => pm_pl z st fun y r => pm_pl z r fun x r => k (pc + 1) L (.long (x * y) :: r) (sh, h)
  | .ldiv => pm_pl z st fun y r => pm_pl z r fun x r => if y = 0 then z else k (pc + 1) L (.long (x / y) :: r) (sh, h)
  | .lrem => pm_pl z st fun y r => pm_pl z r fun x r => if y = 0 then z else k (pc + 1) L (.long (x - x / y * y) :: r) (sh, h)
  | .lcmp => pm_pl z st fun y r => pm_pl z r fun x r => k (pc + 1) L (.int (lg_cmp x y) :: r) (sh, h)
  | .dup => pm_p1 z st fun v r => k (pc + 1) L (v :: v :: r) (sh, h)
  | .dup2 => pm_p1 z st fun v r => pm_p1 z r fun u r => k (pc + 1) L (v :: u :: v :: u :: r) (sh, h)
  | .pop => pm_p1 z st fun _ r => k (pc + 1) L r (sh, h)
  | .goto off => pm_j z pc off fun t => k t L st (sh, h)
  | .ifCond c off => pm_pi z st fun x r => pm_j z pc off fun t => pm_c1 c x (k t L r (sh, h)) (k (pc + 3) L r (sh, h))
  | .if_icmp c off => pm_pi z st fun y r => pm_pi z r fun x r => pm_j z pc off fun t => pm_c2 c x y (k t L r (sh, h)) (k (pc + 3) L r (sh, h))
  | .tableswitch d lo hi offs => pm_pi z st fun x r => pm_b z (decide (lo = 0) && decide (hi + 1 = offs.toList.length) && decide (offs.toList.length ≤ 1000)) (pm_sw z pc x (fun t => k t L r (sh, h)) d 0 offs.toList)
  | .getfield i => pm_o z (pm_lk i (pm_flL own)) fun q => pm_pr z st fun a r => pm_ob z sh q.1 a fun c fl => pm_gf z fl[q.2]? (k (pc + 3) L (.int (h c q.2) :: r) (sh, h)) fun b => k (pc + 3) L (.ref b :: r) (sh, h)
  | .putfield i => pm_o z (pm_lk i (pm_flL own)) fun q => pm_p1 z st fun v r => pm_pr z r fun a r => pm_ob z sh q.1 a fun c fl => match v with
    | .int x => pm_gf z (pm_f0 q.1)[q.2]? (pm_gf z fl[q.2]? (k (pc + 3) L r (sh, pm_up h c q.2 x)) fun _ => z) fun _ => z
    | .ref b => pm_gr z (pm_f0 q.1)[q.2]? (pm_gr z fl[q.2]? (pm_b z (ini && Nat.beq q.1 own) (k (pc + 3) L r (sh.set c (2, q.1, fl.set q.2 (some (some b))), h))))
    | _ => z
  | .iaload => pm_pi z st fun i r => pm_pr z r fun a r => match a with
    | 0 => pm_ix z i sl fun j => k (pc + 1) L (.int (xs j) :: r) (sh, h)
    | a => pm_ar z sh 0 a fun c n => pm_ix z i n fun j => k (pc + 1) L (.int (h c j) :: r) (sh, h)
  | .baload => pm_pi z st fun i r => pm_pr z r fun a r => pm_ar z sh 1 a fun c n => pm_ix z i n fun j => k (pc + 1) L (.int (h c j) :: r) (sh, h)
  | .iastore => pm_pi z st fun x r => pm_pi z r fun i r => pm_pr z r fun a r => pm_ar z sh 0 a fun c n => pm_ix z i n fun j => k (pc + 1) L r (sh, pm_up h c j x)
  | .bastore => pm_pi z st fun x r => pm_pi z r fun i r => pm_pr z r fun a r => pm_ar z sh 1 a fun c n => pm_ix z i n fun j => if x = 0 ∨ x = 1 then k (pc + 1) L r (sh, pm_up h c j x) else z
  | .arraylength => pm_pr z st fun a r => match a with
    | 0 => k (pc + 1) L (.int (nI sl) :: r) (sh, h)
    | a => pm_ar z sh 0 a fun _ n => k (pc + 1) L (.int (nI n) :: r) (sh, h)
  | .new i => pm_o z (pm_lk i (pm_nwL own)) fun ci => k (pc + 3) L (.ref (sh.length + 1) :: st) (sh ++ [(2, ci, pm_f0 ci)], pm_z h sh.length)
  | .newarray a => pm_at z a fun t => pm_pi z st fun n r => if n < 0 ∨ 100000 < n.toNatClampNeg then z else k (pc + 2) L (.ref (sh.length + 1) :: r) (sh ++ [(t, n.toNatClampNeg, [])], pm_z h sh.length)
  | .invokevirtual i => pm_o z (pm_lk i (pm_mvL own)) fun q => pm_pr z (st.drop q.2.1) fun a rest => pm_ob z sh q.2.2.2 a fun _ _ => pm_b z (Nat.ble (pm_cs rest) 8) (cl q.1 q.2.2.1 (.ref a :: (st.take q.2.1).reverse) (sh, h) (pc + 3) L rest)
  | .invokestatic i => match pm_lk i (pm_mxL own) with
    | some 0 => pm_pi z st fun y r => pm_pi z r fun x r => pm_b z (hd && Nat.ble (pm_cs r) 8) (k (pc + 3) L (.int (if x < y then y else x) :: r) (sh, h))
    | some _ => pm_pi z st fun y r => pm_pi z r fun x r => pm_b z (hd && Nat.ble (pm_cs r) 8) (k (pc + 3) L (.int (if y < x then y else x) :: r) (sh, h))
    | none => pm_o z (pm_lk i (pm_msL own ++ pm_mnL own)) fun q => pm_b z (Nat.ble q.2.1 st.length && Nat.ble (pm_cs (st.drop q.2.1)) 8) (cl q.1 q.2.2.1 (st.take q.2.1).reverse (sh, h) (pc + 3) L (st.drop q.2.1))
  | .invokespecial i => match (pm_oiL own).contains i with
    | true => pm_pr z st fun _ r => pm_b z (hd && Nat.ble (pm_cs r) 8) (k (pc + 3) L r (sh, h))
    | false => pm_o z (pm_lk i (pm_miL own)) fun q => pm_pr z (st.drop q.2.1) fun a rest => pm_b z (Nat.ble (pm_cs rest) 8) (cl q.1 2 (.ref a :: (st.take q.2.1).reverse) (sh, h) (pc + 3) L rest)
  | .ireturn => pm_pi z st fun x r => match r with
    | [] => pm_rt z ret x (rt (some (.int x)) (sh, h))
    | _ => z
  | .return_ => match st with
    | [] => (match ret with
      | none => rt none (sh, h)
      | _ => z)
    | _ => z
  | _ => z
end PMF
