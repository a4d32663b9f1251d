/-! the component's tries -/
theorem hb_T {U s : Nat} (hU : U < 2 ^ 31) (hs : s < 32) : hb (nI U) (nI s) = U.testBit s := by
  have hd : U / 2 ^ s ≤ U := Nat.div_le_self _ _
  unfold hb
  rw [pk_shrN hU (nI s &&& 31) s (sh5 s hs), pk_andN (by omega) 1 (by decide), Nat.pow_one, Nat.testBit_eq_decide_div_mod_eq]
  have hm : U / 2 ^ s % 2 < 2 := Nat.mod_lt _ (by decide)
  by_cases c : U / 2 ^ s % 2 = 1
  · rw [c]; rfl
  · rw [decide_eq_false c, decide_eq_false]
    intro z
    exact c ((nI_eq (by omega) (by decide)).mp z)
theorem or_lt {U s : Nat} (hU : U < 2 ^ 24) (hs : s < 24) : U ||| 2 ^ s < 2 ^ 24 := Nat.or_lt_two_pow hU (Nat.pow_lt_pow_right (by decide) hs)
theorem bit_or {U s t : Nat} : (U ||| 2 ^ s).testBit t = (U.testBit t || decide (s = t)) := by
  rw [Nat.testBit_or, Nat.testBit_two_pow]
def ftS (h : pmH) (C : Nat) (q : pS) (e : Nat) (pre : List Nat) (b : Nat × List Nat) (l : List Nat) : Nat × List Nat := if (plL h C l q e).2 < b.1 then ((plL h C l q e).2, pre ++ l) else b
theorem plL_ge {h : pmH} {C : Nat} : ∀ (l : List Nat) (q : pS) (e : Nat), e ≤ (plL h C l q e).2
  | [], q, e => Nat.le_refl _
  | s :: l, q, e => by
    rw [plL]
    exact Nat.le_trans (Nat.le_max_left _ _) (plL_ge l _ _)
theorem ftS_map {h : pmH} {C s e : Nat} {q : pS} {pre : List Nat} : ∀ (L : List (List Nat)) (b : Nat × List Nat), (L.map (fun l => s :: l)).foldl (ftS h C q e pre) b = L.foldl (ftS h C (pl_hg h C s q) (max e (pl_ev h C s q)) (pre ++ [s])) b
  | [], b => rfl
  | l :: L, b => by
    rw [List.map_cons, List.foldl_cons, List.foldl_cons, ftS_map L]
    congr 1
    unfold ftS
    rw [plL, List.append_assoc]
    rfl
theorem ftS_cut {h : pmH} {C e : Nat} {q : pS} {pre : List Nat} : ∀ (L : List (List Nat)) (b : Nat × List Nat), b.1 ≤ e → L.foldl (ftS h C q e pre) b = b
  | [], b, _ => rfl
  | l :: L, b, hb => by
    have : ftS h C q e pre b l = b := by
      unfold ftS
      rw [if_neg (Nat.not_lt.mpr (Nat.le_trans hb (plL_ge l q e)))]
    rw [List.foldl_cons, this]
    exact ftS_cut L b hb
def G3 (g : pmH) (f34 f30 r : Nat → Int32) : pmH := pm_pt (pm_pt (pm_pt g 34 f34) 30 f30) 28 r
theorem G3_ne {g : pmH} {f34 f30 r : Nat → Int32} {k : Nat} (h1 : k ≠ 34) (h2 : k ≠ 30) (h3 : k ≠ 28) : G3 g f34 f30 r k = g k := by unfold G3; rw [pt_ne h3, pt_ne h2, pt_ne h1]
theorem G3_34 {g : pmH} {f34 f30 r : Nat → Int32} : G3 g f34 f30 r 34 = f34 := by unfold G3; rw [pt_ne (by decide), pt_ne (by decide), pt_same]
theorem G3_30 {g : pmH} {f34 f30 r : Nat → Int32} : G3 g f34 f30 r 30 = f30 := by unfold G3; rw [pt_ne (by decide), pt_same]
theorem G3_28 {g : pmH} {f34 f30 r : Nat → Int32} : G3 g f34 f30 r 28 = r := by unfold G3; rw [pt_same]
theorem G3_self (g : pmH) : G3 g (g 34) (g 30) (g 28) = g := by unfold G3; rw [pt_self, pt_self, pt_self]
theorem W_34 {g : pmH} {f34 f30 r : Nat → Int32} {q : pS} {j : Nat} {x : Int32} : pm_up (S3 (G3 g f34 f30 r) q) 34 j x = S3 (G3 g (upd f34 j x) f30 r) q := by
  funext a
  unfold S3 G3 pm_up pm_pt
  by_cases h1 : a = 34
  · subst h1; simp
  · simp [h1]
theorem W_30 {g : pmH} {f34 f30 r : Nat → Int32} {q : pS} {j : Nat} {x : Int32} : pm_up (S3 (G3 g f34 f30 r) q) 30 j x = S3 (G3 g f34 (upd f30 j x) r) q := by
  funext a
  unfold S3 G3 pm_up pm_pt
  by_cases h1 : a = 30
  · subst h1; simp
  · simp [h1]
theorem W_28 {g : pmH} {f34 f30 r : Nat → Int32} {q : pS} {j : Nat} {x : Int32} : pm_up (S3 (G3 g f34 f30 r) q) 28 j x = S3 (G3 g f34 f30 (upd r j x)) q := by
  funext a
  unfold S3 G3 pm_up pm_pt
  by_cases h1 : a = 28
  · subst h1; simp
  · simp [h1]
theorem W_n {g : pmH} {f34 f30 r : Nat → Int32} {q : pS} {k : Nat} (hk : k ∉ [28, 30, 31, 32, 33, 34]) : S3 (G3 g f34 f30 r) q k = g k := by
  simp at hk
  rw [S3_ne (by omega) (by omega) (by omega), G3_ne (by omega) (by omega) (by omega)]
theorem W_28v {g : pmH} {f34 f30 r : Nat → Int32} {q : pS} : S3 (G3 g f34 f30 r) q 28 = r := by rw [S3_ne (by decide) (by decide) (by decide), G3_28]
theorem W_34v {g : pmH} {f34 f30 r : Nat → Int32} {q : pS} : S3 (G3 g f34 f30 r) q 34 = f34 := by rw [S3_ne (by decide) (by decide) (by decide), G3_34]
theorem W_30v {g : pmH} {f34 f30 r : Nat → Int32} {q : pS} : S3 (G3 g f34 f30 r) q 30 = f30 := by rw [S3_ne (by decide) (by decide) (by decide), G3_30]
theorem upd_upd (f : Nat → Int32) (k : Nat) (x y : Int32) : upd (upd f k x) k y = upd f k y := by
  funext j
  unfold upd
  by_cases e : j = k
  · rw [if_pos e, if_pos e]
  · rw [if_neg e, if_neg e, if_neg e]
theorem upd_id {f : Nat → Int32} {k : Nat} {x : Int32} (h : f k = x) : upd f k x = f := by rw [← h]; exact upd_self _ _
/-- a row that holds a list -/
def RO (f : Nat → Int32) (l : List Nat) (n : Nat) : Prop := ∀ i, i < n → f i = nI (l.getD i 0)
def FRE (q : pS) (U n : Nat) : Prop := ∀ s, s < n → U.testBit s = false → q.1 s = -nI 1 ∧ q.2.1 s = -nI 1
theorem hg_ne2 {h : pmH} {C s j : Nat} {q : pS} (e : j ≠ s) : (pl_hg h C s q).2.1 j = q.2.1 j := by
  unfold pl_hg
  cases hp : pl_pl h C q s with
  | none => rfl
  | some p => exact upd_n e
theorem FRE.hg {h : pmH} {C s U n : Nat} {q : pS} (hf : FRE q U n) : FRE (pl_hg h C s q) (U ||| 2 ^ s) n := fun t ht hb => by
  rw [bit_or, Bool.or_eq_false_iff] at hb
  have e : t ≠ s := fun z => by
    have := of_decide_eq_false hb.2
    omega
  rw [hg_ne e, hg_ne2 e]
  exact hf t ht hb.1
section TRIES
variable {sl : Nat} {xs : Nat → Int32}
theorem c_takeDown {d : Nat} {g h : pmH} {C H n s : Nat} {q : pS} (hC : C ≤ 3) (hn : n ≤ 24) (hs : s < n) (hV : VS h n) (hp : PKc g h C H n) (hq : GQ q n H) (h1 : q.1 s = -nI 1) (h2 : q.2.1 s = -nI 1) : pm_cf (pm_Ev sl xs) (d + 2) 35 [.ref 29, .int (nI s)] (SH, S3 g (pl_hg h C s q)) = some (none, (SH, S3 g q)) := by
  have ix : ∀ (t : Nat → Option pmR), pm_ix none (nI s) 24 t = t s := fun t => pm_ix_nI (by omega) (by decide)
  rw [qX4_takeDown_0, ix, S3_31]
  unfold pl_hg
  cases hpl : pl_pl h C q s with
  | none =>
    show (if q.1 s < 0 then some (none, (SH, S3 g q)) else _) = _
    rw [if_pos (by rw [h1]; exact neg1)]
  | some p =>
    obtain ⟨p1, p2, p3⟩ := pl_pl_some hV.up hn hs hq hpl
    have hh : pm_cf (pm_Ev sl xs) (d + 1) 48 [.ref 8, .int (nI s)] (SH, S3 g (pl_put h s q (some p))) = some (some (.int (pl_wd h s)), (SH, S3 g (pl_put h s q (some p)))) := c_hours hp.S.2.2.1 (by omega)
    have ij : ∀ (t : Nat → Option pmR), pm_ix none (nI p.1 * nI 3 + nI p.2) 180 t = t (3 * p.1 + p.2) := fun t => by
      rw [pk_mul, nI_add, Nat.mul_comm]; exact pm_ix_nI (by omega) (by decide)
    have v1 : (pl_put h s q (some p)).1 s = nI p.1 := upd_s _ _ _
    have v2 : (pl_put h s q (some p)).2.1 s = nI p.2 := upd_s _ _ _
    have v3 : (pl_put h s q (some p)).2.2 (3 * p.1 + p.2) = q.2.2 (3 * p.1 + p.2) - pl_wd h s := upd_s _ _ _
    rw [v1, if_neg (nI_pos (by omega)), ix, ix, S3_32, v1, v2, ij, hh, pm_ri_ok, ij, ix, ix, S3_33, v3, i_sadd, S3_u]
    have e : (upd (pl_put h s q (some p)).1 s (-nI 1), upd (pl_put h s q (some p)).2.1 s (-nI 1), upd (pl_put h s q (some p)).2.2 (3 * p.1 + p.2) (q.2.2 (3 * p.1 + p.2))) = q := by
      unfold pl_put
      dsimp only
      rw [upd_upd, upd_upd, upd_upd, upd_id h1, upd_id h2, upd_self]
    rw [e]
theorem keep_c {d : Nat} {g : pmH} {n : Nat} {q : pS} {f34 r : Nat → Int32} {b1 : Int32} (hn : n ≤ 6) (n7 : g 7 0 = nI n) : ∀ (k i : Nat) (f30 : Nat → Int32), i + k = n → (∀ j, j < i → f30 j = f34 j) → ∃ f2, pm_Ev sl xs d 38 16 [some (.ref 29), some (.int b1), some (.int (nI i))] [] (SH, S3 (G3 g f34 f30 r) q) = some (none, (SH, S3 (G3 g f34 f2 r) q)) ∧ (∀ j, j < n → f2 j = f34 j) ∧ ∀ j, n ≤ j → f2 j = f30 j
  | 0, i, f30, hk, hf => by
    refine ⟨f30, ?_, fun j hj => hf j (by omega), fun _ _ => rfl⟩
    rw [qX4_keepTrial_16, W_n (k := 7) (by decide), n7, if_pos (nI_le (by omega) (by omega))]
  | k + 1, i, f30, hk, hf => by
    obtain ⟨f2, a1, a2, a3⟩ := keep_c (d := d) (g := g) (q := q) (f34 := f34) (r := r) (b1 := b1) hn n7 k (i + 1) (upd f30 i (f34 i)) (by omega) (fun j hj => by
      by_cases e : j = i
      · subst e; rw [upd_s]
      · rw [upd_n e]; exact hf j (by omega))
    refine ⟨f2, ?_, a2, fun j hj => by rw [a3 j hj, upd_n (by omega)]⟩
    rw [qX4_keepTrial_16, W_n (k := 7) (by decide), n7, if_neg (nI_ge (by omega) (by omega)), if_neg (nI_ge (by omega) (by omega)), pm_ix_nI (by omega) (by decide), pm_ix_nI (by omega) (by decide), W_34v, W_30, nI_add]
    exact a1
/-- what a part of the tries does to the rows -/
def TR (sl : Nat) (xs : Nat → Int32) (g h : pmH) (n C : Nat) (q : pS) (k : Nat) (A : pmH → Option pmR) (f34 f30 r : Nat → Int32) (b2 : Nat × List Nat) : Prop :=
  ∃ f34' f30' r', A (S3 (G3 g f34 f30 r) q) = some (none, (SH, S3 (G3 g f34' f30' r') q)) ∧ (∀ i, i < k → f34' i = f34 i) ∧ RO f30' b2.2 n ∧ (∀ j, n ≤ j → f30' j = f30 j) ∧ r' 9 = nI b2.1 ∧ b2.1 ≤ 99 ∧ (∀ j, j ≠ 9 → r' j = r j)
theorem keep_all {d : Nat} {g h : pmH} {C n e : Nat} {q : pS} {f34 f30 r : Nat → Int32} {pre : List Nat} {b : Nat × List Nat} (hn : n ≤ 6) (n7 : g 7 0 = nI n) (he : e ≤ 99) (hpre : ∀ i, i < n → f34 i = nI (pre.getD i 0)) (hb : RO f30 b.2 n) (hr : r 9 = nI b.1) (hb9 : b.1 ≤ 99) : TR sl xs g h n C q n (fun w => pm_cf (pm_Ev sl xs) (d + 1) 38 [.ref 29, .int (nI e)] (SH, w)) f34 f30 r (ftS h C q e pre b []) := by
  unfold TR
  dsimp only
  rw [qX4_keepTrial_0, W_28v, hr]
  unfold ftS
  rw [plL, List.append_nil]
  dsimp only
  by_cases c : e < b.1
  · rw [if_pos (nI_lt c (by omega)), if_pos c, W_28]
    obtain ⟨f2, a1, a2, a3⟩ := keep_c (sl := sl) (xs := xs) (d := d) (g := g) (q := q) (f34 := f34) (r := upd r 9 (nI e)) (b1 := nI e) hn n7 n 0 f30 (by omega) (fun j hj => absurd hj (Nat.not_lt_zero _))
    exact ⟨f34, f2, upd r 9 (nI e), a1, fun _ _ => rfl, fun i hi => by rw [a2 i hi]; exact hpre i hi, a3, upd_s _ _ _, he, fun j hj => upd_n hj⟩
  · rw [if_neg (nI_nlt (by omega) (by omega)), if_neg c]
    exact ⟨f34, f30, r, rfl, fun _ _ => rfl, hb, fun _ _ => rfl, hr, hb9, fun _ _ => rfl⟩
theorem getD_app {pre : List Nat} {s i : Nat} (hi : i < pre.length) : (pre ++ [s]).getD i 0 = pre.getD i 0 := by
  rw [List.getD_eq_getElem?_getD, List.getD_eq_getElem?_getD, List.getElem?_append_left hi]
theorem getD_last {pre : List Nat} {s : Nat} : (pre ++ [s]).getD pre.length 0 = s := by
  rw [List.getD_eq_getElem?_getD, List.getElem?_append_right (Nat.le_refl _), Nat.sub_self]
  rfl
theorem try_c {g h : pmH} {C H n : Nat} (hC : C ≤ 3) (hH : H ≤ 12) (hn : n ≤ 6) (hV : VS h n) (e9 : g 9 = h 9) (e10 : g 10 = h 10) (e11 : g 11 = h 11) (e29 : g 29 = h 29) (n7 : g 7 0 = nI n) : ∀ (r d k U e : Nat) (pre : List Nat) (q : pS) (f34 f30 rw9 : Nat → Int32) (b : Nat × List Nat), k + r = n → pre.length = k → U < 2 ^ 24 → e ≤ 99 → GQ q n H → FRE q U n → (∀ i, i < k → f34 i = nI (pre.getD i 0)) → RO f30 b.2 n → rw9 9 = nI b.1 → b.1 ≤ 99 → rw9 1 = nI C → rw9 2 = nI H →
    TR sl xs g h n C q k (fun w => pm_cf (pm_Ev sl xs) (d + r + 3) 37 [.ref 29, .int (nI k), .int (nI U), .int (nI e)] (SH, w)) f34 f30 rw9 ((dfL n r U).foldl (ftS h C q e pre) b) := by
  intro r
  induction r with
  | zero =>
    intro d k U e pre q f34 f30 rw9 b hk hl hU he hq hF hp hb hr hb9 r1 r2
    have ek : k = n := by omega
    subst ek
    obtain ⟨x1, x2, x3, y1, y2⟩ := keep_all (sl := sl) (xs := xs) (d := d + 1) (g := g) (h := h) (C := C) (q := q) (e := e) hn n7 he hp hb hr hb9
    refine ⟨x1, x2, x3, ?_, y2⟩
    dsimp only at y1 ⊢
    rw [qX4_tryFrom_0, W_n (k := 7) (by decide), n7, if_pos (nI_le (Nat.le_refl _) (by omega)), y1, pm_rv_ok]
  | succ r ih =>
    intro d k U e pre q f34 f30 rw9 b hk hl hU he hq hF hp hb hr hb9 r1 r2
    -- the loop
    have lp : ∀ (kk s : Nat) (o5 : Option Value) (f34 f30 rw9 : Nat → Int32) (b : Nat × List Nat), s + kk = n → (∀ i, i < k → f34 i = nI (pre.getD i 0)) → RO f30 b.2 n → rw9 9 = nI b.1 → b.1 ≤ 99 → rw9 1 = nI C → rw9 2 = nI H →
        TR sl xs g h n C q k (fun w => pm_Ev sl xs (d + r + 3) 37 26 [some (.ref 29), some (.int (nI k)), some (.int (nI U)), some (.int (nI e)), some (.int (nI s)), o5] [] (SH, w)) f34 f30 rw9 ((lpS (fun s => if U.testBit s = true then [] else (dfL n r (U ||| 2 ^ s)).map (fun l => s :: l)) kk s).foldl (ftS h C q e pre) b) := by
      intro kk
      induction kk with
      | zero =>
        intro s o5 f34 f30 rw9 b hs hp hb hr hb9 r1 r2
        refine ⟨f34, f30, rw9, ?_, fun _ _ => rfl, hb, fun _ _ => rfl, hr, hb9, fun _ _ => rfl⟩
        dsimp only
        rw [qX4_tryFrom_26, W_n (k := 7) (by decide), n7, if_pos (nI_le (by omega) (by omega))]
      | succ kk ihk =>
        intro s o5 f34 f30 rw9 b hs hp hb hr hb9 r1 r2
        have hsn : s < n := by omega
        have hpk : ∀ (f34 f30 rw9 : Nat → Int32), rw9 1 = nI C → rw9 2 = nI H → PKc (G3 g f34 f30 rw9) h C H n := fun f34 f30 rw9 r1 r2 => by
          unfold PKc
          rw [G3_28, G3_ne (by decide) (by decide) (by decide), G3_ne (by decide) (by decide) (by decide), G3_ne (by decide) (by decide) (by decide), G3_ne (by decide) (by decide) (by decide), G3_ne (by decide) (by decide) (by decide)]
          exact ⟨e9, e10, e11, e29, r1, r2, n7⟩
        rw [lpS, List.foldl_append]
        have hst : ∀ (w : pmH), w = S3 (G3 g f34 f30 rw9) q → pm_Ev sl xs (d + r + 3) 37 26 [some (.ref 29), some (.int (nI k)), some (.int (nI U)), some (.int (nI e)), some (.int (nI s)), o5] [] (SH, w) = _ := fun w hw => by
          rw [hw, qX4_tryFrom_26, W_n (k := 7) (by decide), n7, if_neg (nI_ge (by omega) (by omega)), c_hasBit, pm_ri_ok, bI_if, hb_T (by omega) (by omega), nI_add, nI_add]
        cases hbit : U.testBit s with
        | true =>
          rw [if_pos rfl]
          obtain ⟨x1, x2, x3, y1, y2⟩ := ihk (s + 1) o5 f34 f30 rw9 b (by omega) hp hb hr hb9 r1 r2
          refine ⟨x1, x2, x3, ?_, y2⟩
          dsimp only at y1 ⊢
          rw [hst _ rfl, hbit, if_pos rfl]
          exact y1
        | false =>
          rw [if_neg (show ¬ false = true by decide)]
          have hF2 := hF s hsn hbit
          have ew := c_endWith (sl := sl) (xs := xs) (d := d + r + 1) (g := G3 g f34 f30 rw9) (q := q) hC hH (by omega) hsn hV (hpk f34 f30 rw9 r1 r2) hq
          have hev := pl_ev_le (C := C) hV.up (by omega) hsn hq
          have hla : max e (pl_ev h C s q) ≤ 99 := Nat.max_le.mpr ⟨he, hev⟩
          rw [ftS_map]
          by_cases c : b.1 ≤ max e (pl_ev h C s q)
          · -- cut
            rw [ftS_cut _ _ c]
            have td := c_takeDown (sl := sl) (xs := xs) (d := d + r + 1) (g := G3 g f34 f30 rw9) (q := q) hC (by omega) hsn hV (hpk f34 f30 rw9 r1 r2) hq hF2.1 hF2.2
            obtain ⟨x1, x2, x3, y1, y2⟩ := ihk (s + 1) (some (.int (nI (max e (pl_ev h C s q))))) f34 f30 rw9 b (by omega) hp hb hr hb9 r1 r2
            refine ⟨x1, x2, x3, ?_, y2⟩
            dsimp only at y1 ⊢
            rw [hst _ rfl, hbit, if_neg (show ¬ false = true by decide), ew, pm_ri_ok, max_nI he hev, W_28v, hr, if_pos (nI_le c (by omega)), td, pm_rv_ok]
            exact y1
          · -- deeper
            obtain ⟨x1, x2, x3, y1, y2, y3, y4, y5, y6, y7⟩ := ih d (k + 1) (U ||| 2 ^ s) (max e (pl_ev h C s q)) (pre ++ [s]) (pl_hg h C s q) (upd f34 k (nI s)) f30 rw9 b (by omega) (by rw [List.length_append, hl]; rfl) (or_lt hU (by omega)) hla (hq.hg hV (by omega) hsn hH) hF.hg (fun i hi => by
              by_cases ei : i = k
              · subst ei; rw [upd_s, ← hl, getD_last]
              · rw [upd_n ei, getD_app (by omega)]; exact hp i (by omega)) hb hr hb9 r1 r2
            have td := c_takeDown (sl := sl) (xs := xs) (d := d + r + 1) (g := G3 g x1 x2 x3) (q := q) hC (by omega) hsn hV (hpk x1 x2 x3 (by rw [y7 1 (by decide)]; exact r1) (by rw [y7 2 (by decide)]; exact r2)) hq hF2.1 hF2.2
            obtain ⟨z1, z2, z3, w1, w2, w3, w4, w5, w6, w7⟩ := ihk (s + 1) (some (.int (nI (max e (pl_ev h C s q))))) x1 x2 x3 _ (by omega) (fun i hi => by rw [y2 i (by omega), upd_n (by omega)]; exact hp i hi) y3 y5 y6 (by rw [y7 1 (by decide)]; exact r1) (by rw [y7 2 (by decide)]; exact r2)
            refine ⟨z1, z2, z3, ?_, fun i hi => by rw [w2 i hi, y2 i (by omega), upd_n (by omega)], w3, fun j hj => by rw [w4 j hj, y4 j hj], w5, w6, fun j hj => by rw [w7 j hj, y7 j hj]⟩
            dsimp only at y1 w1 ⊢
            rw [hst _ rfl, hbit, if_neg (show ¬ false = true by decide), ew, pm_ri_ok, max_nI he hev, W_28v, hr, if_neg (nI_ge (by omega) (by omega)), pm_ix_nI (by omega) (by decide), shl1 (by omega), nI_or, W_34, y1, pm_rv_ok, td, pm_rv_ok]
            exact w1
    obtain ⟨x1, x2, x3, y1, y2⟩ := lp n 0 none f34 f30 rw9 b (by omega) hp hb hr hb9 r1 r2
    refine ⟨x1, x2, x3, ?_, y2⟩
    dsimp only at y1 ⊢
    rw [show d + (r + 1) + 3 = (d + r + 2) + 2 by omega, qX4_tryFrom_0, W_n (k := 7) (by decide), n7, if_neg (nI_ge (by omega) (by omega)), if_pos (nI_lt (by omega) (by decide))]
    exact y1
end TRIES
