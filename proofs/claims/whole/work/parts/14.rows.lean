/-! rows of equations: a row an instruction, goal first -/
theorem pm_ar_ok {ρ : Type} {z : ρ} {sh : List pmS} {t k n : Nat} {fl : List (Option (Option Nat))} {f : Nat → Nat → ρ} (hs : sh[k]? = some (t, n, fl)) : pm_ar z sh t (k + 1) f = f k n := by
  show (match sh[k]? with
    | some s => (match Nat.beq s.1 t with
      | true => f k s.2.1
      | false => z)
    | none => z) = _
  rw [hs]
  show (match Nat.beq t t with
      | true => f k n
      | false => z) = _
  rw [Nat.beq_refl]
theorem pm_ob_ok {ρ : Type} {z : ρ} {sh : List pmS} {k ci : Nat} {fl : List (Option (Option Nat))} {f : Nat → List (Option (Option Nat)) → ρ} (hs : sh[k]? = some (2, ci, fl)) : pm_ob z sh ci (k + 1) f = f k fl := by
  show (match sh[k]? with
    | some s => (match Nat.beq s.1 2 && Nat.beq s.2.1 ci with
      | true => f k s.2.2
      | false => z)
    | none => z) = _
  rw [hs]
  show (match Nat.beq 2 2 && Nat.beq ci ci with
      | true => f k fl
      | false => z) = _
  rw [Nat.beq_refl, Nat.beq_refl]
  rfl
section PME2
variable {sl : Nat} {xs : Nat → Int32} {d y pc pc2 : Nat} {L L2 : pmL} {st : List Value} {sh : List pmS} {h : pmH} {M : pmM} {A : Option pmR}
theorem e_iconst {n : Int} {v : Int32} (hM : pm_mt y = some M) (hq : pm_lk pc M.2.2.2.2.2.2 = some (1, .iconst n)) (hp : pc + 1 = pc2) (hv : pm_int n = v) (kk : pm_Ev sl xs d y pc2 L (.int v :: st) (sh, h) = A): pm_Ev sl xs d y pc L st (sh, h) = A := by
  subst hp
  rw [pm_Ev_eq hM hq]
  subst hv
  exact kk
theorem e_bipush {n : Int} {v : Int32} (hM : pm_mt y = some M) (hq : pm_lk pc M.2.2.2.2.2.2 = some (2, .bipush n)) (hp : pc + 2 = pc2) (hb : (decide (-128 ≤ n) && decide (n < 128)) = true) (hv : pm_int n = v) (kk : pm_Ev sl xs d y pc2 L (.int v :: st) (sh, h) = A): pm_Ev sl xs d y pc L st (sh, h) = A := by
  subst hp
  rw [pm_Ev_eq hM hq]
  subst hv
  unfold pm_F
  dsimp only
  rw [hb]
  exact kk
theorem e_sipush {n : Int} {v : Int32} (hM : pm_mt y = some M) (hq : pm_lk pc M.2.2.2.2.2.2 = some (3, .sipush n)) (hp : pc + 3 = pc2) (hb : (decide (-32768 ≤ n) && decide (n < 32768)) = true) (hv : pm_int n = v) (kk : pm_Ev sl xs d y pc2 L (.int v :: st) (sh, h) = A): pm_Ev sl xs d y pc L st (sh, h) = A := by
  subst hp
  rw [pm_Ev_eq hM hq]
  subst hv
  unfold pm_F
  dsimp only
  rw [hb]
  exact kk
theorem e_ldc {i : Nat} {v : Int32} (hM : pm_mt y = some M) (hq : pm_lk pc M.2.2.2.2.2.2 = some (2, .ldc i)) (hp : pc + 2 = pc2) (hv : pm_lk i (pm_kcL M.2.2.2.2.1) = some v) (kk : pm_Ev sl xs d y pc2 L (.int v :: st) (sh, h) = A): pm_Ev sl xs d y pc L st (sh, h) = A := by
  subst hp
  rw [pm_Ev_eq hM hq]
  unfold pm_F
  dsimp only
  rw [hv]
  exact kk
theorem e_ldc_w {i : Nat} {v : Int32} (hM : pm_mt y = some M) (hq : pm_lk pc M.2.2.2.2.2.2 = some (3, .ldc_w i)) (hp : pc + 3 = pc2) (hv : pm_lk i (pm_kcL M.2.2.2.2.1) = some v) (kk : pm_Ev sl xs d y pc2 L (.int v :: st) (sh, h) = A): pm_Ev sl xs d y pc L st (sh, h) = A := by
  subst hp
  rw [pm_Ev_eq hM hq]
  unfold pm_F
  dsimp only
  rw [hv]
  exact kk
theorem e_iload {i : Nat} {x : Int32} (hM : pm_mt y = some M) (hq : pm_lk pc M.2.2.2.2.2.2 = some (2, .iload i)) (hp : pc + 2 = pc2) (hl : L[i]? = some (some (.int x))) (kk : pm_Ev sl xs d y pc2 L (.int x :: st) (sh, h) = A): pm_Ev sl xs d y pc L st (sh, h) = A := by
  subst hp
  rw [pm_Ev_eq hM hq]
  unfold pm_F pm_ld
  dsimp only
  rw [hl]
  exact kk
theorem e_iload_n {i : Fin 4} {x : Int32} (hM : pm_mt y = some M) (hq : pm_lk pc M.2.2.2.2.2.2 = some (1, .iload_n i)) (hp : pc + 1 = pc2) (hl : L[i.val]? = some (some (.int x))) (kk : pm_Ev sl xs d y pc2 L (.int x :: st) (sh, h) = A): pm_Ev sl xs d y pc L st (sh, h) = A := by
  subst hp
  rw [pm_Ev_eq hM hq]
  unfold pm_F pm_ld
  dsimp only
  rw [hl]
  exact kk
theorem e_aload_n {i : Fin 4} {x : Nat} (hM : pm_mt y = some M) (hq : pm_lk pc M.2.2.2.2.2.2 = some (1, .aload_n i)) (hp : pc + 1 = pc2) (hl : L[i.val]? = some (some (.ref x))) (kk : pm_Ev sl xs d y pc2 L (.ref x :: st) (sh, h) = A): pm_Ev sl xs d y pc L st (sh, h) = A := by
  subst hp
  rw [pm_Ev_eq hM hq]
  unfold pm_F pm_ld
  dsimp only
  rw [hl]
  exact kk
theorem e_lload {i : Nat} {x : Int64} (hM : pm_mt y = some M) (hq : pm_lk pc M.2.2.2.2.2.2 = some (2, .lload i)) (hp : pc + 2 = pc2) (hl : L[i]? = some (some (.long x))) (kk : pm_Ev sl xs d y pc2 L (.long x :: st) (sh, h) = A): pm_Ev sl xs d y pc L st (sh, h) = A := by
  subst hp
  rw [pm_Ev_eq hM hq]
  unfold pm_F pm_ld
  dsimp only
  rw [hl]
  exact kk
theorem e_istore {i : Nat} {x : Int32} {o : Option Value} (hM : pm_mt y = some M) (hq : pm_lk pc M.2.2.2.2.2.2 = some (2, .istore i)) (hp : pc + 2 = pc2) (hl : L[i]? = some o) (hL : (pm_k2 L i).set i (some (.int x)) = L2) (kk : pm_Ev sl xs d y pc2 L2 st (sh, h) = A): pm_Ev sl xs d y pc L (.int x :: st) (sh, h) = A := by
  subst hp
  rw [pm_Ev_eq hM hq]
  subst hL
  unfold pm_F pm_s1
  dsimp only [pm_pi, pm_pr]
  rw [hl]
  exact kk
theorem e_istore_n {i : Fin 4} {x : Int32} {o : Option Value} (hM : pm_mt y = some M) (hq : pm_lk pc M.2.2.2.2.2.2 = some (1, .istore_n i)) (hp : pc + 1 = pc2) (hl : L[i.val]? = some o) (hL : (pm_k2 L i.val).set i.val (some (.int x)) = L2) (kk : pm_Ev sl xs d y pc2 L2 st (sh, h) = A): pm_Ev sl xs d y pc L (.int x :: st) (sh, h) = A := by
  subst hp
  rw [pm_Ev_eq hM hq]
  subst hL
  unfold pm_F pm_s1
  dsimp only [pm_pi, pm_pr]
  rw [hl]
  exact kk
theorem e_astore_n {i : Fin 4} {x : Nat} {o : Option Value} (hM : pm_mt y = some M) (hq : pm_lk pc M.2.2.2.2.2.2 = some (1, .astore_n i)) (hp : pc + 1 = pc2) (hl : L[i.val]? = some o) (hL : (pm_k2 L i.val).set i.val (some (.ref x)) = L2) (kk : pm_Ev sl xs d y pc2 L2 st (sh, h) = A): pm_Ev sl xs d y pc L (.ref x :: st) (sh, h) = A := by
  subst hp
  rw [pm_Ev_eq hM hq]
  subst hL
  unfold pm_F pm_s1
  dsimp only [pm_pi, pm_pr]
  rw [hl]
  exact kk
theorem e_lstore {i : Nat} {x : Int64} {o : Option Value} (hM : pm_mt y = some M) (hq : pm_lk pc M.2.2.2.2.2.2 = some (2, .lstore i)) (hp : pc + 2 = pc2) (hl : L[i + 1]? = some o) (hL : ((pm_k2 L i).set (i + 1) none).set i (some (.long x)) = L2) (kk : pm_Ev sl xs d y pc2 L2 st (sh, h) = A): pm_Ev sl xs d y pc L (.long x :: st) (sh, h) = A := by
  subst hp
  rw [pm_Ev_eq hM hq]
  subst hL
  unfold pm_F pm_s2
  dsimp only [pm_pl]
  rw [hl]
  exact kk
theorem e_iinc {i : Nat} {n : Int} {x v : Int32} (hM : pm_mt y = some M) (hq : pm_lk pc M.2.2.2.2.2.2 = some (3, .iinc i n)) (hp : pc + 3 = pc2) (hl : L[i]? = some (some (.int x))) (hv : pm_int n = v) (hL : (pm_k2 L i).set i (some (.int (x + v))) = L2) (kk : pm_Ev sl xs d y pc2 L2 st (sh, h) = A): pm_Ev sl xs d y pc L st (sh, h) = A := by
  subst hp
  rw [pm_Ev_eq hM hq]
  subst hL
  subst hv
  unfold pm_F pm_ld pm_s1
  dsimp only
  rw [hl]
  exact kk
theorem e_iadd {x y2 : Int32} (hM : pm_mt y = some M) (hq : pm_lk pc M.2.2.2.2.2.2 = some (1, .iadd)) (hp : pc + 1 = pc2) (kk : pm_Ev sl xs d y pc2 L (.int (x + y2) :: st) (sh, h) = A): pm_Ev sl xs d y pc L (.int y2 :: .int x :: st) (sh, h) = A := by
  subst hp
  rw [pm_Ev_eq hM hq]
  exact kk
theorem e_isub {x y2 : Int32} (hM : pm_mt y = some M) (hq : pm_lk pc M.2.2.2.2.2.2 = some (1, .isub)) (hp : pc + 1 = pc2) (kk : pm_Ev sl xs d y pc2 L (.int (x - y2) :: st) (sh, h) = A): pm_Ev sl xs d y pc L (.int y2 :: .int x :: st) (sh, h) = A := by
  subst hp
  rw [pm_Ev_eq hM hq]
  exact kk
theorem e_imul {x y2 : Int32} (hM : pm_mt y = some M) (hq : pm_lk pc M.2.2.2.2.2.2 = some (1, .imul)) (hp : pc + 1 = pc2) (kk : pm_Ev sl xs d y pc2 L (.int (x * y2) :: st) (sh, h) = A): pm_Ev sl xs d y pc L (.int y2 :: .int x :: st) (sh, h) = A := by
  subst hp
  rw [pm_Ev_eq hM hq]
  exact kk
theorem e_iand {x y2 : Int32} (hM : pm_mt y = some M) (hq : pm_lk pc M.2.2.2.2.2.2 = some (1, .iand)) (hp : pc + 1 = pc2) (kk : pm_Ev sl xs d y pc2 L (.int (x &&& y2) :: st) (sh, h) = A): pm_Ev sl xs d y pc L (.int y2 :: .int x :: st) (sh, h) = A := by
  subst hp
  rw [pm_Ev_eq hM hq]
  exact kk
theorem e_ior {x y2 : Int32} (hM : pm_mt y = some M) (hq : pm_lk pc M.2.2.2.2.2.2 = some (1, .ior)) (hp : pc + 1 = pc2) (kk : pm_Ev sl xs d y pc2 L (.int (x ||| y2) :: st) (sh, h) = A): pm_Ev sl xs d y pc L (.int y2 :: .int x :: st) (sh, h) = A := by
  subst hp
  rw [pm_Ev_eq hM hq]
  exact kk
theorem e_ishl {x y2 : Int32} (hM : pm_mt y = some M) (hq : pm_lk pc M.2.2.2.2.2.2 = some (1, .ishl)) (hp : pc + 1 = pc2) (kk : pm_Ev sl xs d y pc2 L (.int (x <<< (y2 &&& 31)) :: st) (sh, h) = A): pm_Ev sl xs d y pc L (.int y2 :: .int x :: st) (sh, h) = A := by
  subst hp
  rw [pm_Ev_eq hM hq]
  exact kk
theorem e_ishr {x y2 : Int32} (hM : pm_mt y = some M) (hq : pm_lk pc M.2.2.2.2.2.2 = some (1, .ishr)) (hp : pc + 1 = pc2) (kk : pm_Ev sl xs d y pc2 L (.int (x >>> (y2 &&& 31)) :: st) (sh, h) = A): pm_Ev sl xs d y pc L (.int y2 :: .int x :: st) (sh, h) = A := by
  subst hp
  rw [pm_Ev_eq hM hq]
  exact kk
theorem e_lmul {x y2 : Int64} (hM : pm_mt y = some M) (hq : pm_lk pc M.2.2.2.2.2.2 = some (1, .lmul)) (hp : pc + 1 = pc2) (kk : pm_Ev sl xs d y pc2 L (.long (x * y2) :: st) (sh, h) = A): pm_Ev sl xs d y pc L (.long y2 :: .long x :: st) (sh, h) = A := by
  subst hp
  rw [pm_Ev_eq hM hq]
  exact kk
theorem e_lcmp {x y2 : Int64} (hM : pm_mt y = some M) (hq : pm_lk pc M.2.2.2.2.2.2 = some (1, .lcmp)) (hp : pc + 1 = pc2) (kk : pm_Ev sl xs d y pc2 L (.int (lg_cmp x y2) :: st) (sh, h) = A): pm_Ev sl xs d y pc L (.long y2 :: .long x :: st) (sh, h) = A := by
  subst hp
  rw [pm_Ev_eq hM hq]
  exact kk
theorem e_idiv {x y2 : Int32} (hM : pm_mt y = some M) (hq : pm_lk pc M.2.2.2.2.2.2 = some (1, .idiv)) (hp : pc + 1 = pc2) (kk : pm_Ev sl xs d y pc2 L (.int (x / y2) :: st) (sh, h) = A): pm_Ev sl xs d y pc L (.int y2 :: .int x :: st) (sh, h) = if y2 = 0 then none else A := by
  subst hp
  rw [pm_Ev_eq hM hq]
  show (if y2 = 0 then none else _) = _
  rw [← kk]
theorem e_irem {x y2 : Int32} (hM : pm_mt y = some M) (hq : pm_lk pc M.2.2.2.2.2.2 = some (1, .irem)) (hp : pc + 1 = pc2) (kk : pm_Ev sl xs d y pc2 L (.int (x - x / y2 * y2) :: st) (sh, h) = A): pm_Ev sl xs d y pc L (.int y2 :: .int x :: st) (sh, h) = if y2 = 0 then none else A := by
  subst hp
  rw [pm_Ev_eq hM hq]
  show (if y2 = 0 then none else _) = _
  rw [← kk]
theorem e_ldiv {x y2 : Int64} (hM : pm_mt y = some M) (hq : pm_lk pc M.2.2.2.2.2.2 = some (1, .ldiv)) (hp : pc + 1 = pc2) (kk : pm_Ev sl xs d y pc2 L (.long (x / y2) :: st) (sh, h) = A): pm_Ev sl xs d y pc L (.long y2 :: .long x :: st) (sh, h) = if y2 = 0 then none else A := by
  subst hp
  rw [pm_Ev_eq hM hq]
  show (if y2 = 0 then none else _) = _
  rw [← kk]
theorem e_lrem {x y2 : Int64} (hM : pm_mt y = some M) (hq : pm_lk pc M.2.2.2.2.2.2 = some (1, .lrem)) (hp : pc + 1 = pc2) (kk : pm_Ev sl xs d y pc2 L (.long (x - x / y2 * y2) :: st) (sh, h) = A): pm_Ev sl xs d y pc L (.long y2 :: .long x :: st) (sh, h) = if y2 = 0 then none else A := by
  subst hp
  rw [pm_Ev_eq hM hq]
  show (if y2 = 0 then none else _) = _
  rw [← kk]
theorem e_i2l {x : Int32} (hM : pm_mt y = some M) (hq : pm_lk pc M.2.2.2.2.2.2 = some (1, .i2l)) (hp : pc + 1 = pc2) (kk : pm_Ev sl xs d y pc2 L (.long x.toInt64 :: st) (sh, h) = A): pm_Ev sl xs d y pc L (.int x :: st) (sh, h) = A := by
  subst hp
  rw [pm_Ev_eq hM hq]
  exact kk
theorem e_l2i {x : Int64} (hM : pm_mt y = some M) (hq : pm_lk pc M.2.2.2.2.2.2 = some (1, .l2i)) (hp : pc + 1 = pc2) (kk : pm_Ev sl xs d y pc2 L (.int x.toInt32 :: st) (sh, h) = A): pm_Ev sl xs d y pc L (.long x :: st) (sh, h) = A := by
  subst hp
  rw [pm_Ev_eq hM hq]
  exact kk
theorem e_dup {v : Value} (hM : pm_mt y = some M) (hq : pm_lk pc M.2.2.2.2.2.2 = some (1, .dup)) (hp : pc + 1 = pc2) (hv : v.category = 1) (kk : pm_Ev sl xs d y pc2 L (v :: v :: st) (sh, h) = A): pm_Ev sl xs d y pc L (v :: st) (sh, h) = A := by
  subst hp
  rw [pm_Ev_eq hM hq]
  unfold pm_F pm_p1
  dsimp only
  rw [hv]
  exact kk
theorem e_dup2 {v u : Value} (hM : pm_mt y = some M) (hq : pm_lk pc M.2.2.2.2.2.2 = some (1, .dup2)) (hp : pc + 1 = pc2) (hv : v.category = 1) (hu : u.category = 1) (kk : pm_Ev sl xs d y pc2 L (v :: u :: v :: u :: st) (sh, h) = A): pm_Ev sl xs d y pc L (v :: u :: st) (sh, h) = A := by
  subst hp
  rw [pm_Ev_eq hM hq]
  unfold pm_F pm_p1
  dsimp only
  rw [hv, hu]
  exact kk
theorem e_pop {v : Value} (hM : pm_mt y = some M) (hq : pm_lk pc M.2.2.2.2.2.2 = some (1, .pop)) (hp : pc + 1 = pc2) (hv : v.category = 1) (kk : pm_Ev sl xs d y pc2 L st (sh, h) = A): pm_Ev sl xs d y pc L (v :: st) (sh, h) = A := by
  subst hp
  rw [pm_Ev_eq hM hq]
  unfold pm_F pm_p1
  dsimp only
  rw [hv]
  exact kk
theorem e_goto {off : Int} {tgt : Nat} (hM : pm_mt y = some M) (hq : pm_lk pc M.2.2.2.2.2.2 = some (3, .goto off)) (ht : (pc : Int) + off = Int.ofNat tgt) (kk : pm_Ev sl xs d y tgt L st (sh, h) = A): pm_Ev sl xs d y pc L st (sh, h) = A := by
  rw [pm_Ev_eq hM hq]
  unfold pm_F pm_j
  dsimp only
  rw [ht]
  exact kk
theorem e_if_eq {B : Option pmR} {off : Int} {tgt : Nat} {x : Int32} (hM : pm_mt y = some M) (hq : pm_lk pc M.2.2.2.2.2.2 = some (3, .ifCond .eq off)) (hp : pc + 3 = pc2) (ht : (pc : Int) + off = Int.ofNat tgt) (kt : pm_Ev sl xs d y tgt L st (sh, h) = A) (kf : pm_Ev sl xs d y pc2 L st (sh, h) = B): pm_Ev sl xs d y pc L (.int x :: st) (sh, h) = if x = 0 then A else B := by
  subst hp
  rw [pm_Ev_eq hM hq]
  unfold pm_F pm_j
  dsimp only [pm_pi]
  rw [ht]
  show (if x = 0 then _ else _) = _
  rw [← kt, ← kf]
theorem e_icmp_eq {B : Option pmR} {off : Int} {tgt : Nat} {x y2 : Int32} (hM : pm_mt y = some M) (hq : pm_lk pc M.2.2.2.2.2.2 = some (3, .if_icmp .eq off)) (hp : pc + 3 = pc2) (ht : (pc : Int) + off = Int.ofNat tgt) (kt : pm_Ev sl xs d y tgt L st (sh, h) = A) (kf : pm_Ev sl xs d y pc2 L st (sh, h) = B): pm_Ev sl xs d y pc L (.int y2 :: .int x :: st) (sh, h) = if x = y2 then A else B := by
  subst hp
  rw [pm_Ev_eq hM hq]
  unfold pm_F pm_j
  dsimp only [pm_pi]
  rw [ht]
  show (if x = y2 then _ else _) = _
  rw [← kt, ← kf]
theorem e_if_ne {B : Option pmR} {off : Int} {tgt : Nat} {x : Int32} (hM : pm_mt y = some M) (hq : pm_lk pc M.2.2.2.2.2.2 = some (3, .ifCond .ne off)) (hp : pc + 3 = pc2) (ht : (pc : Int) + off = Int.ofNat tgt) (kt : pm_Ev sl xs d y tgt L st (sh, h) = A) (kf : pm_Ev sl xs d y pc2 L st (sh, h) = B): pm_Ev sl xs d y pc L (.int x :: st) (sh, h) = if x = 0 then B else A := by
  subst hp
  rw [pm_Ev_eq hM hq]
  unfold pm_F pm_j
  dsimp only [pm_pi]
  rw [ht]
  show (if x = 0 then _ else _) = _
  rw [← kt, ← kf]
theorem e_icmp_ne {B : Option pmR} {off : Int} {tgt : Nat} {x y2 : Int32} (hM : pm_mt y = some M) (hq : pm_lk pc M.2.2.2.2.2.2 = some (3, .if_icmp .ne off)) (hp : pc + 3 = pc2) (ht : (pc : Int) + off = Int.ofNat tgt) (kt : pm_Ev sl xs d y tgt L st (sh, h) = A) (kf : pm_Ev sl xs d y pc2 L st (sh, h) = B): pm_Ev sl xs d y pc L (.int y2 :: .int x :: st) (sh, h) = if x = y2 then B else A := by
  subst hp
  rw [pm_Ev_eq hM hq]
  unfold pm_F pm_j
  dsimp only [pm_pi]
  rw [ht]
  show (if x = y2 then _ else _) = _
  rw [← kt, ← kf]
theorem e_if_lt {B : Option pmR} {off : Int} {tgt : Nat} {x : Int32} (hM : pm_mt y = some M) (hq : pm_lk pc M.2.2.2.2.2.2 = some (3, .ifCond .lt off)) (hp : pc + 3 = pc2) (ht : (pc : Int) + off = Int.ofNat tgt) (kt : pm_Ev sl xs d y tgt L st (sh, h) = A) (kf : pm_Ev sl xs d y pc2 L st (sh, h) = B): pm_Ev sl xs d y pc L (.int x :: st) (sh, h) = if x < 0 then A else B := by
  subst hp
  rw [pm_Ev_eq hM hq]
  unfold pm_F pm_j
  dsimp only [pm_pi]
  rw [ht]
  show (if x < 0 then _ else _) = _
  rw [← kt, ← kf]
theorem e_icmp_lt {B : Option pmR} {off : Int} {tgt : Nat} {x y2 : Int32} (hM : pm_mt y = some M) (hq : pm_lk pc M.2.2.2.2.2.2 = some (3, .if_icmp .lt off)) (hp : pc + 3 = pc2) (ht : (pc : Int) + off = Int.ofNat tgt) (kt : pm_Ev sl xs d y tgt L st (sh, h) = A) (kf : pm_Ev sl xs d y pc2 L st (sh, h) = B): pm_Ev sl xs d y pc L (.int y2 :: .int x :: st) (sh, h) = if x < y2 then A else B := by
  subst hp
  rw [pm_Ev_eq hM hq]
  unfold pm_F pm_j
  dsimp only [pm_pi]
  rw [ht]
  show (if x < y2 then _ else _) = _
  rw [← kt, ← kf]
theorem e_if_ge {B : Option pmR} {off : Int} {tgt : Nat} {x : Int32} (hM : pm_mt y = some M) (hq : pm_lk pc M.2.2.2.2.2.2 = some (3, .ifCond .ge off)) (hp : pc + 3 = pc2) (ht : (pc : Int) + off = Int.ofNat tgt) (kt : pm_Ev sl xs d y tgt L st (sh, h) = A) (kf : pm_Ev sl xs d y pc2 L st (sh, h) = B): pm_Ev sl xs d y pc L (.int x :: st) (sh, h) = if 0 ≤ x then A else B := by
  subst hp
  rw [pm_Ev_eq hM hq]
  unfold pm_F pm_j
  dsimp only [pm_pi]
  rw [ht]
  show (if 0 ≤ x then _ else _) = _
  rw [← kt, ← kf]
theorem e_icmp_ge {B : Option pmR} {off : Int} {tgt : Nat} {x y2 : Int32} (hM : pm_mt y = some M) (hq : pm_lk pc M.2.2.2.2.2.2 = some (3, .if_icmp .ge off)) (hp : pc + 3 = pc2) (ht : (pc : Int) + off = Int.ofNat tgt) (kt : pm_Ev sl xs d y tgt L st (sh, h) = A) (kf : pm_Ev sl xs d y pc2 L st (sh, h) = B): pm_Ev sl xs d y pc L (.int y2 :: .int x :: st) (sh, h) = if y2 ≤ x then A else B := by
  subst hp
  rw [pm_Ev_eq hM hq]
  unfold pm_F pm_j
  dsimp only [pm_pi]
  rw [ht]
  show (if y2 ≤ x then _ else _) = _
  rw [← kt, ← kf]
theorem e_if_gt {B : Option pmR} {off : Int} {tgt : Nat} {x : Int32} (hM : pm_mt y = some M) (hq : pm_lk pc M.2.2.2.2.2.2 = some (3, .ifCond .gt off)) (hp : pc + 3 = pc2) (ht : (pc : Int) + off = Int.ofNat tgt) (kt : pm_Ev sl xs d y tgt L st (sh, h) = A) (kf : pm_Ev sl xs d y pc2 L st (sh, h) = B): pm_Ev sl xs d y pc L (.int x :: st) (sh, h) = if 0 < x then A else B := by
  subst hp
  rw [pm_Ev_eq hM hq]
  unfold pm_F pm_j
  dsimp only [pm_pi]
  rw [ht]
  show (if 0 < x then _ else _) = _
  rw [← kt, ← kf]
theorem e_icmp_gt {B : Option pmR} {off : Int} {tgt : Nat} {x y2 : Int32} (hM : pm_mt y = some M) (hq : pm_lk pc M.2.2.2.2.2.2 = some (3, .if_icmp .gt off)) (hp : pc + 3 = pc2) (ht : (pc : Int) + off = Int.ofNat tgt) (kt : pm_Ev sl xs d y tgt L st (sh, h) = A) (kf : pm_Ev sl xs d y pc2 L st (sh, h) = B): pm_Ev sl xs d y pc L (.int y2 :: .int x :: st) (sh, h) = if y2 < x then A else B := by
  subst hp
  rw [pm_Ev_eq hM hq]
  unfold pm_F pm_j
  dsimp only [pm_pi]
  rw [ht]
  show (if y2 < x then _ else _) = _
  rw [← kt, ← kf]
theorem e_if_le {B : Option pmR} {off : Int} {tgt : Nat} {x : Int32} (hM : pm_mt y = some M) (hq : pm_lk pc M.2.2.2.2.2.2 = some (3, .ifCond .le off)) (hp : pc + 3 = pc2) (ht : (pc : Int) + off = Int.ofNat tgt) (kt : pm_Ev sl xs d y tgt L st (sh, h) = A) (kf : pm_Ev sl xs d y pc2 L st (sh, h) = B): pm_Ev sl xs d y pc L (.int x :: st) (sh, h) = if x ≤ 0 then A else B := by
  subst hp
  rw [pm_Ev_eq hM hq]
  unfold pm_F pm_j
  dsimp only [pm_pi]
  rw [ht]
  show (if x ≤ 0 then _ else _) = _
  rw [← kt, ← kf]
theorem e_icmp_le {B : Option pmR} {off : Int} {tgt : Nat} {x y2 : Int32} (hM : pm_mt y = some M) (hq : pm_lk pc M.2.2.2.2.2.2 = some (3, .if_icmp .le off)) (hp : pc + 3 = pc2) (ht : (pc : Int) + off = Int.ofNat tgt) (kt : pm_Ev sl xs d y tgt L st (sh, h) = A) (kf : pm_Ev sl xs d y pc2 L st (sh, h) = B): pm_Ev sl xs d y pc L (.int y2 :: .int x :: st) (sh, h) = if x ≤ y2 then A else B := by
  subst hp
  rw [pm_Ev_eq hM hq]
  unfold pm_F pm_j
  dsimp only [pm_pi]
  rw [ht]
  show (if x ≤ y2 then _ else _) = _
  rw [← kt, ← kf]
theorem e_switch {dflt lo hi : Int} {offs : Array Int} {len : Nat} {x : Int32} (hM : pm_mt y = some M) (hq : pm_lk pc M.2.2.2.2.2.2 = some (len, .tableswitch dflt lo hi offs)) (hb : (decide (lo = 0) && decide (hi + 1 = offs.toList.length) && decide (offs.toList.length ≤ 1000)) = true) (kk : pm_sw none pc x (fun t => pm_Ev sl xs d y t L st (sh, h)) dflt 0 offs.toList = A): pm_Ev sl xs d y pc L (.int x :: st) (sh, h) = A := by
  rw [pm_Ev_eq hM hq]
  unfold pm_F
  dsimp only [pm_pi]
  rw [hb]
  exact kk
theorem s_cons {x : Int32} {f : Nat → Option pmR} {dflt off : Int} {tgt i : Nat} {t : List Int} {B : Option pmR} (ht : (pc : Int) + off = Int.ofNat tgt) (kt : f tgt = A) (kf : pm_sw none pc x f dflt (i + 1) t = B): pm_sw none pc x f dflt i (off :: t) = if x = nI i then A else B := by
  rw [← kt, ← kf]
  show (if x = nI i then pm_j none pc off f else _) = _
  unfold pm_j
  rw [ht]
theorem s_nil {x : Int32} {f : Nat → Option pmR} {dflt : Int} {tgt i : Nat} (ht : (pc : Int) + dflt = Int.ofNat tgt) (kt : f tgt = A): pm_sw none pc x f dflt i [] = A := by
  rw [← kt]
  show pm_j none pc dflt f = _
  unfold pm_j
  rw [ht]
theorem e_getfi {i ci j k : Nat} {fl : List (Option (Option Nat))} {v : Int32} (hM : pm_mt y = some M) (hq : pm_lk pc M.2.2.2.2.2.2 = some (3, .getfield i)) (hp : pc + 3 = pc2) (hf : pm_lk i (pm_flL M.2.2.2.2.1) = some (ci, j)) (hs : sh[k]? = some (2, ci, fl)) (hfl : fl[j]? = some none) (hv : h k j = v) (kk : pm_Ev sl xs d y pc2 L (.int v :: st) (sh, h) = A): pm_Ev sl xs d y pc L (.ref (k + 1) :: st) (sh, h) = A := by
  subst hp
  rw [pm_Ev_eq hM hq]
  subst hv
  unfold pm_F pm_ob
  dsimp only [pm_pr]
  rw [hf]
  dsimp only [pm_o]
  rw [hs]
  dsimp only
  rw [show (Nat.beq 2 2 && Nat.beq ci ci) = true by rw [Nat.beq_refl, Nat.beq_refl]; rfl]
  dsimp only
  rw [hfl]
  exact kk
theorem e_getfr {i ci j k : Nat} {fl : List (Option (Option Nat))} {b : Nat} (hM : pm_mt y = some M) (hq : pm_lk pc M.2.2.2.2.2.2 = some (3, .getfield i)) (hp : pc + 3 = pc2) (hf : pm_lk i (pm_flL M.2.2.2.2.1) = some (ci, j)) (hs : sh[k]? = some (2, ci, fl)) (hfl : fl[j]? = some (some (some b))) (kk : pm_Ev sl xs d y pc2 L (.ref b :: st) (sh, h) = A): pm_Ev sl xs d y pc L (.ref (k + 1) :: st) (sh, h) = A := by
  subst hp
  rw [pm_Ev_eq hM hq]
  unfold pm_F pm_ob
  dsimp only [pm_pr]
  rw [hf]
  dsimp only [pm_o]
  rw [hs]
  dsimp only
  rw [show (Nat.beq 2 2 && Nat.beq ci ci) = true by rw [Nat.beq_refl, Nat.beq_refl]; rfl]
  dsimp only
  rw [hfl]
  exact kk
theorem e_putf {i ci j k : Nat} {fl : List (Option (Option Nat))} {x : Int32} (hM : pm_mt y = some M) (hq : pm_lk pc M.2.2.2.2.2.2 = some (3, .putfield i)) (hp : pc + 3 = pc2) (hf : pm_lk i (pm_flL M.2.2.2.2.1) = some (ci, j)) (hs : sh[k]? = some (2, ci, fl)) (hf0 : (pm_f0 ci)[j]? = some none) (hfl : fl[j]? = some none) (kk : pm_Ev sl xs d y pc2 L st (sh, pm_up h k j x) = A): pm_Ev sl xs d y pc L (.int x :: .ref (k + 1) :: st) (sh, h) = A := by
  subst hp
  rw [pm_Ev_eq hM hq]
  unfold pm_F pm_ob pm_p1
  dsimp only [pm_pr]
  rw [hf]
  dsimp only [pm_o]
  rw [hs]
  rw [show Nat.beq (Value.int x).category 1 = true from rfl]
  dsimp only
  rw [show (Nat.beq 2 2 && Nat.beq ci ci) = true by rw [Nat.beq_refl, Nat.beq_refl]; rfl]
  dsimp only
  rw [hf0, hfl]
  exact kk
theorem e_iald {k n : Nat} {fl : List (Option (Option Nat))} {i : Int32} {V : Nat → Int32} {F : Nat → Option pmR} (hM : pm_mt y = some M) (hq : pm_lk pc M.2.2.2.2.2.2 = some (1, .iaload)) (hp : pc + 1 = pc2) (hs : sh[k]? = some (0, n, fl)) (hv : ∀ j, h k j = V j) (kk : ∀ j, pm_Ev sl xs d y pc2 L (.int (V j) :: st) (sh, h) = F j): pm_Ev sl xs d y pc L (.int i :: .ref (k + 1) :: st) (sh, h) = pm_ix none i n F := by
  subst hp
  rw [pm_Ev_eq hM hq]
  show pm_ar none sh 0 (k + 1) (fun c n => pm_ix none i n fun j => pm_Ev sl xs d y (pc + 1) L (.int (h c j) :: st) (sh, h)) = _
  rw [pm_ar_ok hs]
  congr 1
  funext j
  rw [hv]
  exact kk j
theorem e_bald {k n : Nat} {fl : List (Option (Option Nat))} {i : Int32} {V : Nat → Int32} {F : Nat → Option pmR} (hM : pm_mt y = some M) (hq : pm_lk pc M.2.2.2.2.2.2 = some (1, .baload)) (hp : pc + 1 = pc2) (hs : sh[k]? = some (1, n, fl)) (hv : ∀ j, h k j = V j) (kk : ∀ j, pm_Ev sl xs d y pc2 L (.int (V j) :: st) (sh, h) = F j): pm_Ev sl xs d y pc L (.int i :: .ref (k + 1) :: st) (sh, h) = pm_ix none i n F := by
  subst hp
  rw [pm_Ev_eq hM hq]
  show pm_ar none sh 1 (k + 1) (fun c n => pm_ix none i n fun j => pm_Ev sl xs d y (pc + 1) L (.int (h c j) :: st) (sh, h)) = _
  rw [pm_ar_ok hs]
  congr 1
  funext j
  rw [hv]
  exact kk j
theorem e_sld {i : Int32} {F : Nat → Option pmR} (hM : pm_mt y = some M) (hq : pm_lk pc M.2.2.2.2.2.2 = some (1, .iaload)) (hp : pc + 1 = pc2) (kk : ∀ j, pm_Ev sl xs d y pc2 L (.int (xs j) :: st) (sh, h) = F j): pm_Ev sl xs d y pc L (.int i :: .ref 0 :: st) (sh, h) = pm_ix none i sl F := by
  subst hp
  rw [pm_Ev_eq hM hq]
  show pm_ix none i sl (fun j => pm_Ev sl xs d y (pc + 1) L (.int (xs j) :: st) (sh, h)) = _
  congr 1
  funext j
  exact kk j
theorem e_slen (hM : pm_mt y = some M) (hq : pm_lk pc M.2.2.2.2.2.2 = some (1, .arraylength)) (hp : pc + 1 = pc2) (kk : pm_Ev sl xs d y pc2 L (.int (nI sl) :: st) (sh, h) = A): pm_Ev sl xs d y pc L (.ref 0 :: st) (sh, h) = A := by
  subst hp
  rw [pm_Ev_eq hM hq]
  exact kk
theorem e_alen {k n : Nat} {fl : List (Option (Option Nat))} (hM : pm_mt y = some M) (hq : pm_lk pc M.2.2.2.2.2.2 = some (1, .arraylength)) (hp : pc + 1 = pc2) (hs : sh[k]? = some (0, n, fl)) (kk : pm_Ev sl xs d y pc2 L (.int (nI n) :: st) (sh, h) = A): pm_Ev sl xs d y pc L (.ref (k + 1) :: st) (sh, h) = A := by
  subst hp
  rw [pm_Ev_eq hM hq]
  show pm_ar none sh 0 (k + 1) (fun _ n => pm_Ev sl xs d y (pc + 1) L (.int (nI n) :: st) (sh, h)) = _
  rw [pm_ar_ok hs]
  exact kk
theorem e_iast {k n : Nat} {fl : List (Option (Option Nat))} {i x : Int32} {F : Nat → Option pmR} (hM : pm_mt y = some M) (hq : pm_lk pc M.2.2.2.2.2.2 = some (1, .iastore)) (hp : pc + 1 = pc2) (hs : sh[k]? = some (0, n, fl)) (kk : ∀ j, pm_Ev sl xs d y pc2 L st (sh, pm_up h k j x) = F j): pm_Ev sl xs d y pc L (.int x :: .int i :: .ref (k + 1) :: st) (sh, h) = pm_ix none i n F := by
  subst hp
  rw [pm_Ev_eq hM hq]
  show pm_ar none sh 0 (k + 1) (fun c n => pm_ix none i n fun j => pm_Ev sl xs d y (pc + 1) L st (sh, pm_up h c j x)) = _
  rw [pm_ar_ok hs]
  congr 1
  funext j
  exact kk j
theorem e_bast {k n : Nat} {fl : List (Option (Option Nat))} {i x : Int32} {F : Nat → Option pmR} (hM : pm_mt y = some M) (hq : pm_lk pc M.2.2.2.2.2.2 = some (1, .bastore)) (hp : pc + 1 = pc2) (hs : sh[k]? = some (1, n, fl)) (hx : x = 0 ∨ x = 1) (kk : ∀ j, pm_Ev sl xs d y pc2 L st (sh, pm_up h k j x) = F j): pm_Ev sl xs d y pc L (.int x :: .int i :: .ref (k + 1) :: st) (sh, h) = pm_ix none i n F := by
  subst hp
  rw [pm_Ev_eq hM hq]
  show pm_ar none sh 1 (k + 1) (fun c n => pm_ix none i n fun j => if x = 0 ∨ x = 1 then pm_Ev sl xs d y (pc + 1) L st (sh, pm_up h c j x) else none) = _
  rw [pm_ar_ok hs]
  congr 1
  funext j
  rw [if_pos hx]
  exact kk j
theorem e_cvi {i y2 na oc k : Nat} {fl : List (Option (Option Nat))} {S As rest : List Value} {F : Int32 → pmH → Option pmR} (hM : pm_mt y = some M) (hq : pm_lk pc M.2.2.2.2.2.2 = some (3, .invokevirtual i)) (hp : pc + 3 = pc2) (hv : pm_lk i (pm_mvL M.2.2.2.2.1) = some (y2, na, 1, oc)) (hd : S.drop na = .ref (k + 1) :: rest) (hA : .ref (k + 1) :: (S.take na).reverse = As) (hs : sh[k]? = some (2, oc, fl)) (hb : Nat.ble (pm_cs rest) 8 = true) (kk : ∀ x h2, pm_Ev sl xs d y pc2 L (.int x :: rest) (sh, h2) = F x h2): pm_Ev sl xs d y pc L S (sh, h) = pm_ri (pm_cf (pm_Ev sl xs) d y2 As (sh, h)) sh F := by
  subst hp
  rw [pm_Ev_eq hM hq]
  show pm_o none (pm_lk i (pm_mvL M.2.2.2.2.1)) (fun q => pm_pr none (S.drop q.2.1) fun a rest => pm_ob none sh q.2.2.2 a fun _ _ => pm_b none (Nat.ble (pm_cs rest) 8) (pm_cl (pm_cf (pm_Ev sl xs) d) (pm_Ev sl xs d y) q.1 q.2.2.1 (.ref a :: (S.take q.2.1).reverse) (sh, h) (pc + 3) L rest)) = _
  rw [hv]
  show pm_pr none (S.drop na) (fun a rest => pm_ob none sh oc a fun _ _ => pm_b none (Nat.ble (pm_cs rest) 8) (pm_cl (pm_cf (pm_Ev sl xs) d) (pm_Ev sl xs d y) y2 1 (.ref a :: (S.take na).reverse) (sh, h) (pc + 3) L rest)) = _
  rw [hd]
  show pm_ob none sh oc (k + 1) (fun _ _ => pm_b none (Nat.ble (pm_cs rest) 8) (pm_cl (pm_cf (pm_Ev sl xs) d) (pm_Ev sl xs d y) y2 1 (.ref (k + 1) :: (S.take na).reverse) (sh, h) (pc + 3) L rest)) = _
  rw [pm_ob_ok hs, hb, hA]
  show pm_ri (pm_cf (pm_Ev sl xs) d y2 As (sh, h)) sh (fun x h2 => pm_Ev sl xs d y (pc + 3) L (.int x :: rest) (sh, h2)) = _
  congr 1
  funext x h2
  exact kk x h2
theorem e_cvv {i y2 na oc k : Nat} {fl : List (Option (Option Nat))} {S As rest : List Value} {F : pmH → Option pmR} (hM : pm_mt y = some M) (hq : pm_lk pc M.2.2.2.2.2.2 = some (3, .invokevirtual i)) (hp : pc + 3 = pc2) (hv : pm_lk i (pm_mvL M.2.2.2.2.1) = some (y2, na, 0, oc)) (hd : S.drop na = .ref (k + 1) :: rest) (hA : .ref (k + 1) :: (S.take na).reverse = As) (hs : sh[k]? = some (2, oc, fl)) (hb : Nat.ble (pm_cs rest) 8 = true) (kk : ∀ h2, pm_Ev sl xs d y pc2 L rest (sh, h2) = F h2): pm_Ev sl xs d y pc L S (sh, h) = pm_rv (pm_cf (pm_Ev sl xs) d y2 As (sh, h)) sh F := by
  subst hp
  rw [pm_Ev_eq hM hq]
  show pm_o none (pm_lk i (pm_mvL M.2.2.2.2.1)) (fun q => pm_pr none (S.drop q.2.1) fun a rest => pm_ob none sh q.2.2.2 a fun _ _ => pm_b none (Nat.ble (pm_cs rest) 8) (pm_cl (pm_cf (pm_Ev sl xs) d) (pm_Ev sl xs d y) q.1 q.2.2.1 (.ref a :: (S.take q.2.1).reverse) (sh, h) (pc + 3) L rest)) = _
  rw [hv]
  show pm_pr none (S.drop na) (fun a rest => pm_ob none sh oc a fun _ _ => pm_b none (Nat.ble (pm_cs rest) 8) (pm_cl (pm_cf (pm_Ev sl xs) d) (pm_Ev sl xs d y) y2 0 (.ref a :: (S.take na).reverse) (sh, h) (pc + 3) L rest)) = _
  rw [hd]
  show pm_ob none sh oc (k + 1) (fun _ _ => pm_b none (Nat.ble (pm_cs rest) 8) (pm_cl (pm_cf (pm_Ev sl xs) d) (pm_Ev sl xs d y) y2 0 (.ref (k + 1) :: (S.take na).reverse) (sh, h) (pc + 3) L rest)) = _
  rw [pm_ob_ok hs, hb, hA]
  show pm_rv (pm_cf (pm_Ev sl xs) d y2 As (sh, h)) sh (fun h2 => pm_Ev sl xs d y (pc + 3) L rest (sh, h2)) = _
  congr 1
  funext h2
  exact kk h2
theorem e_csi {i y2 na oc : Nat} {S As rest : List Value} {F : Int32 → pmH → Option pmR} (hM : pm_mt y = some M) (hq : pm_lk pc M.2.2.2.2.2.2 = some (3, .invokestatic i)) (hp : pc + 3 = pc2) (hn : pm_lk i (pm_mxL M.2.2.2.2.1) = none) (hv : pm_lk i (pm_msL M.2.2.2.2.1 ++ pm_mnL M.2.2.2.2.1) = some (y2, na, 1, oc)) (hd : S.drop na = rest) (hA : (S.take na).reverse = As) (hb : (Nat.ble na S.length && Nat.ble (pm_cs rest) 8) = true) (kk : ∀ x h2, pm_Ev sl xs d y pc2 L (.int x :: rest) (sh, h2) = F x h2): pm_Ev sl xs d y pc L S (sh, h) = pm_ri (pm_cf (pm_Ev sl xs) d y2 As (sh, h)) sh F := by
  subst hp
  rw [pm_Ev_eq hM hq]
  subst hd
  show (match pm_lk i (pm_mxL M.2.2.2.2.1) with
      | some 0 => _
      | some _ => _
      | none => pm_o none (pm_lk i (pm_msL M.2.2.2.2.1 ++ pm_mnL M.2.2.2.2.1)) fun q => pm_b none (Nat.ble q.2.1 S.length && Nat.ble (pm_cs (S.drop q.2.1)) 8) (pm_cl (pm_cf (pm_Ev sl xs) d) (pm_Ev sl xs d y) q.1 q.2.2.1 (S.take q.2.1).reverse (sh, h) (pc + 3) L (S.drop q.2.1))) = _
  rw [hn]
  dsimp only
  rw [hv]
  show pm_b none (Nat.ble na S.length && Nat.ble (pm_cs (S.drop na)) 8) (pm_cl (pm_cf (pm_Ev sl xs) d) (pm_Ev sl xs d y) y2 1 (S.take na).reverse (sh, h) (pc + 3) L (S.drop na)) = _
  rw [hb, hA]
  show pm_ri (pm_cf (pm_Ev sl xs) d y2 As (sh, h)) sh (fun x h2 => pm_Ev sl xs d y (pc + 3) L (.int x :: (S.drop na)) (sh, h2)) = _
  congr 1
  funext x h2
  exact kk x h2
theorem e_csv {i y2 na oc : Nat} {S As rest : List Value} {F : pmH → Option pmR} (hM : pm_mt y = some M) (hq : pm_lk pc M.2.2.2.2.2.2 = some (3, .invokestatic i)) (hp : pc + 3 = pc2) (hn : pm_lk i (pm_mxL M.2.2.2.2.1) = none) (hv : pm_lk i (pm_msL M.2.2.2.2.1 ++ pm_mnL M.2.2.2.2.1) = some (y2, na, 0, oc)) (hd : S.drop na = rest) (hA : (S.take na).reverse = As) (hb : (Nat.ble na S.length && Nat.ble (pm_cs rest) 8) = true) (kk : ∀ h2, pm_Ev sl xs d y pc2 L rest (sh, h2) = F h2): pm_Ev sl xs d y pc L S (sh, h) = pm_rv (pm_cf (pm_Ev sl xs) d y2 As (sh, h)) sh F := by
  subst hp
  rw [pm_Ev_eq hM hq]
  subst hd
  show (match pm_lk i (pm_mxL M.2.2.2.2.1) with
      | some 0 => _
      | some _ => _
      | none => pm_o none (pm_lk i (pm_msL M.2.2.2.2.1 ++ pm_mnL M.2.2.2.2.1)) fun q => pm_b none (Nat.ble q.2.1 S.length && Nat.ble (pm_cs (S.drop q.2.1)) 8) (pm_cl (pm_cf (pm_Ev sl xs) d) (pm_Ev sl xs d y) q.1 q.2.2.1 (S.take q.2.1).reverse (sh, h) (pc + 3) L (S.drop q.2.1))) = _
  rw [hn]
  dsimp only
  rw [hv]
  show pm_b none (Nat.ble na S.length && Nat.ble (pm_cs (S.drop na)) 8) (pm_cl (pm_cf (pm_Ev sl xs) d) (pm_Ev sl xs d y) y2 0 (S.take na).reverse (sh, h) (pc + 3) L (S.drop na)) = _
  rw [hb, hA]
  show pm_rv (pm_cf (pm_Ev sl xs) d y2 As (sh, h)) sh (fun h2 => pm_Ev sl xs d y (pc + 3) L (S.drop na) (sh, h2)) = _
  congr 1
  funext h2
  exact kk h2
theorem e_max {i : Nat} {x y2 : Int32} (hM : pm_mt y = some M) (hq : pm_lk pc M.2.2.2.2.2.2 = some (3, .invokestatic i)) (hp : pc + 3 = pc2) (hn : pm_lk i (pm_mxL M.2.2.2.2.1) = some 0) (hb : (pm_hd d && Nat.ble (pm_cs st) 8) = true) (kk : pm_Ev sl xs d y pc2 L (.int (if x < y2 then y2 else x) :: st) (sh, h) = A): pm_Ev sl xs d y pc L (.int y2 :: .int x :: st) (sh, h) = A := by
  subst hp
  rw [pm_Ev_eq hM hq]
  unfold pm_F
  dsimp only
  rw [hn]
  dsimp only [pm_pi]
  rw [hb]
  exact kk
theorem e_min {i : Nat} {x y2 : Int32} (hM : pm_mt y = some M) (hq : pm_lk pc M.2.2.2.2.2.2 = some (3, .invokestatic i)) (hp : pc + 3 = pc2) (hn : pm_lk i (pm_mxL M.2.2.2.2.1) = some 1) (hb : (pm_hd d && Nat.ble (pm_cs st) 8) = true) (kk : pm_Ev sl xs d y pc2 L (.int (if y2 < x then y2 else x) :: st) (sh, h) = A): pm_Ev sl xs d y pc L (.int y2 :: .int x :: st) (sh, h) = A := by
  subst hp
  rw [pm_Ev_eq hM hq]
  unfold pm_F
  dsimp only
  rw [hn]
  dsimp only [pm_pi]
  rw [hb]
  exact kk
theorem e_iret {x : Int32} (hM : pm_mt y = some M) (hq : pm_lk pc M.2.2.2.2.2.2 = some (1, .ireturn)) (hr : M.2.2.2.1 = some .int): pm_Ev sl xs d y pc L [.int x] (sh, h) = some (some (.int x), (sh, h)) := by
  rw [pm_Ev_eq hM hq]
  unfold pm_F pm_rt
  dsimp only [pm_pi]
  rw [hr]
theorem e_zret {x : Int32} (hM : pm_mt y = some M) (hq : pm_lk pc M.2.2.2.2.2.2 = some (1, .ireturn)) (hr : M.2.2.2.1 = some .boolean) (hx : x = 0 ∨ x = 1): pm_Ev sl xs d y pc L [.int x] (sh, h) = some (some (.int x), (sh, h)) := by
  rw [pm_Ev_eq hM hq]
  unfold pm_F pm_rt
  dsimp only [pm_pi]
  rw [hr]
  exact if_pos hx
theorem e_zretX {x : Int32} (hM : pm_mt y = some M) (hq : pm_lk pc M.2.2.2.2.2.2 = some (1, .ireturn)) (hr : M.2.2.2.1 = some .boolean): pm_Ev sl xs d y pc L [.int x] (sh, h) = if x = 0 ∨ x = 1 then some (some (.int x), (sh, h)) else none := by
  rw [pm_Ev_eq hM hq]
  unfold pm_F pm_rt
  dsimp only [pm_pi]
  rw [hr]
theorem e_ret (hM : pm_mt y = some M) (hq : pm_lk pc M.2.2.2.2.2.2 = some (1, .return_)) (hr : M.2.2.2.1 = none): pm_Ev sl xs d y pc L [] (sh, h) = some (none, (sh, h)) := by
  rw [pm_Ev_eq hM hq]
  unfold pm_F
  dsimp only
  rw [hr]
theorem e_call {as : List Value} (hM : pm_mt y = some M) (hc : (pm_c11 as && Nat.ble as.length M.2.2.1) = true) (hL : pm_en M.2.2.1 as = L) (kk : pm_Ev sl xs d y 0 L [] (sh, h) = A): pm_cf (pm_Ev sl xs) (d + 1) y as (sh, h) = A := by
  unfold pm_cf
  dsimp only
  rw [hM]
  dsimp only [pm_o]
  rw [hc, hL]
  exact kk
theorem pm_01a : nI 0 = 0 ∨ nI 0 = 1 := Or.inl rfl
theorem pm_01b : nI 1 = 0 ∨ nI 1 = 1 := Or.inr rfl
end PME2
