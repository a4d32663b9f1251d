/-! string -/
/-- k lamps one after another: the crates' rows, the lamps' row from place a on -/
def tkF (m : Nat) : Nat → (Nat → Int32) → (Nat → Int32)
  | 0, f => f
  | k + 1, f => tkF m k (upd f (tkN f m) (f (tkN f m) - nI 1))
def tkL (m : Nat) : Nat → Nat → (Nat → Int32) → (Nat → Int32) → (Nat → Int32)
  | 0, _, _, lc => lc
  | k + 1, a, f, lc => tkL m k (a + 1) (upd f (tkN f m) (f (tkN f m) - nI 1)) (upd lc a (nI (tkN f m)))
def tk6 (m : Nat) : Nat → (Nat → Int32) → (Nat → Int32) → (Nat → Int32)
  | 0, _, w => w
  | k + 1, f, w => tk6 m k (upd f (tkN f m) (f (tkN f m) - nI 1)) (upd w (tkN f m) (w (tkN f m) + nI 1))
def cq (lc : Nat → Int32) (c : Nat) : Nat → Nat → Nat
  | _, 0 => 0
  | a, k + 1 => (if lc a = nI c then 1 else 0) + cq lc c (a + 1) k
theorem cq_t (lc : Nat → Int32) (c : Nat) : ∀ (k a : Nat), cq lc c a (k + 1) = cq lc c a k + (if lc (a + k) = nI c then 1 else 0)
  | 0, a => by rw [cq, cq, cq, Nat.add_zero, Nat.zero_add, Nat.add_zero]
  | k + 1, a => by
    rw [cq, cq_t lc c k (a + 1), cq, show a + 1 + k = a + (k + 1) by omega]
    omega
theorem tkF_ok {m : Nat} : ∀ (k : Nat) (f : Nat → Int32), VCf f m → k ≤ sN f m → VCf (tkF m k f) m
  | 0, f, hV, _ => hV
  | k + 1, f, hV, hk => by
    obtain ⟨t1, t2⟩ := tkN_ok (f := f) (m := m) (by omega)
    have := sN_dec hV t1 t2 m t1 (Nat.le_refl _)
    exact tkF_ok k _ (hV.dec t1 t2).1 (by omega)
theorem tkL_ok {m : Nat} : ∀ (k a : Nat) (f lc : Nat → Int32), VCf f m → k ≤ sN f m → (∀ j, j < a ∨ a + k ≤ j → tkL m k a f lc j = lc j) ∧ (∀ j, a ≤ j → j < a + k → ∃ c, c < m ∧ tkL m k a f lc j = nI c)
  | 0, a, f, lc, _, _ => ⟨fun _ _ => rfl, fun j h1 h2 => absurd h2 (by omega)⟩
  | k + 1, a, f, lc, hV, hk => by
    obtain ⟨t1, t2⟩ := tkN_ok (f := f) (m := m) (by omega)
    have := sN_dec hV t1 t2 m t1 (Nat.le_refl _)
    obtain ⟨b1, b2⟩ := tkL_ok k (a + 1) _ (upd lc a (nI (tkN f m))) (hV.dec t1 t2).1 (by omega)
    refine ⟨fun j hj => ?_, fun j h1 h2 => ?_⟩
    · rw [tkL, b1 j (by omega), upd_n (by omega)]
    · rw [tkL]
      by_cases e : j = a
      · subst e
        rw [b1 j (by omega), upd_s]
        exact ⟨_, t1, rfl⟩
      · exact b2 j (by omega) (by omega)
theorem tk6_ok {m : Nat} (hm : m ≤ 12) {c : Nat} (hc : c < 12) : ∀ (k a : Nat) (f lc w : Nat → Int32), VCf f m → k ≤ sN f m → tk6 m k f w c = w c + nI (cq (tkL m k a f lc) c a k)
  | 0, a, f, lc, w, _, _ => by rw [tk6, cq]; show w c = w c + 0; rw [Int32.add_zero]
  | k + 1, a, f, lc, w, hV, hk => by
    obtain ⟨t1, t2⟩ := tkN_ok (f := f) (m := m) (by omega)
    have hs := sN_dec hV t1 t2 m t1 (Nat.le_refl _)
    have hV2 := (hV.dec t1 t2).1
    have b1 := (tkL_ok k (a + 1) _ (upd lc a (nI (tkN f m))) hV2 (by omega)).1 a (by omega)
    rw [tk6, tk6_ok hm hc k (a + 1) _ (upd lc a (nI (tkN f m))) _ hV2 (by omega), tkL, cq, b1, upd_s]
    by_cases e : c = tkN f m
    · subst e
      rw [upd_s, if_pos rfl, Int32.add_assoc, nI_add]
    · rw [upd_n e, if_neg (fun z => e ((nI_eq (by omega) (by omega)).mp z).symm), Nat.zero_add]
def isH (a : Int32) : Bool := decide (¬ a < 0) && (decide (¬ nI 8 ≤ a / nI 100) && (decide (¬ nI 2 < a / nI 10 - a / nI 10 / nI 10 * nI 10) && decide (¬ nI 1 < a - a / nI 10 * nI 10)))
def isU (u a : Int32) (n : Nat) : Bool := if u = nI 1 then inS a n else decide (a = 0)
theorem z10' : ¬ nI 10 = 0 := by decide
theorem z100 : ¬ nI 100 = 0 := by decide
theorem isH_nat {a : Int32} (h : isH a = true) : ∃ x, x < 800 ∧ a = nI x ∧ a / nI 100 = nI (x / 100) ∧ a / nI 10 - a / nI 10 / nI 10 * nI 10 = nI (x / 10 % 10) ∧ a - a / nI 10 * nI 10 = nI (x % 10) ∧ x / 10 % 10 ≤ 2 ∧ x % 10 ≤ 1 := by
  unfold isH at h
  simp only [Bool.and_eq_true, decide_eq_true_eq] at h
  obtain ⟨h1, h2, h3, h4⟩ := h
  obtain ⟨x, hx, rfl⟩ := nI_of h1
  have e1 : nI x / nI 100 = nI (x / 100) := pk_div hx (by decide) (by decide)
  have e2 : nI x / nI 10 = nI (x / 10) := pk_div hx (by decide) (by decide)
  have e3 : nI (x / 10) - nI (x / 10) / nI 10 * nI 10 = nI (x / 10 % 10) := pk_rem (by omega) (by decide) (by decide)
  have e4 : nI x - nI x / nI 10 * nI 10 = nI (x % 10) := pk_rem hx (by decide) (by decide)
  rw [e1, nI_leI (by decide) (by omega)] at h2
  rw [e2, e3, nI_ltI (by decide) (by omega)] at h3
  rw [e4, nI_ltI (by decide) (by omega)] at h4
  refine ⟨x, by omega, rfl, e1, ?_, e4, by omega, by omega⟩
  rw [e2, e3]
section STRING
variable {sl : Nat} {xs : Nat → Int32}
theorem c_isHow {d : Nat} {h : pmH} {a : Int32} : pm_cf (pm_Ev sl xs) (d + 1) 89 [.int a] (SH, h) = some (some (.int (bI (isH a))), (SH, h)) := by
  rw [qX7_isHow_0]
  unfold isH bI
  simp only [z10', z100, if_false]
  by_cases h1 : a < 0
  · simp [h1]
  · by_cases h2 : nI 8 ≤ a / nI 100
    · simp [h1, h2]
    · by_cases h3 : nI 2 < a / nI 10 - a / nI 10 / nI 10 * nI 10
      · simp [h1, h2, h3]
      · by_cases h4 : nI 1 < a - a / nI 10 * nI 10
        · simp [h1, h2, h3, h4]
        · simp [h1, h2, h3, h4]
theorem c_isUp {d : Nat} {h : pmH} {u a : Int32} {n : Nat} (n7 : h 7 0 = nI n) : pm_cf (pm_Ev sl xs) (d + 2) 90 [.ref 1, .int u, .int a] (SH, h) = some (some (.int (bI (isU u a n))), (SH, h)) := by
  rw [qX7_isUp_0]
  unfold isU
  by_cases h1 : u = nI 1
  · rw [if_pos h1, if_pos h1, c_has n7, pm_ri_ok, if_pos (bI_01 _)]
  · rw [if_neg h1, if_neg h1]
    unfold bI
    by_cases h2 : a = 0
    · simp [h2]
    · simp [h2]
/-- all numbers of a string are as told -/
def okS (a0 a1 a2 a3 a4 a5 : Int32) (n : Nat) : Bool := isH a0 && (isU (a0 - a0 / nI 10 * nI 10) a1 n && (inR a2 (nI 1) (nI 100) && (inR a3 (nI 1) (nI 10) && (inR a4 (nI 1) (nI 60) && inR a5 (nI 1) (nI 20)))))
theorem bIt0 : (bI true = 0) = False := by decide
theorem bIf0 : (bI false = 0) = True := by decide
theorem str_bad {d : Nat} {h : pmH} {n : Nat} {a0 a1 a2 a3 a4 a5 : Int32} (n7 : h 7 0 = nI n) (hb : okS a0 a1 a2 a3 a4 a5 n = false) : pm_cf (pm_Ev sl xs) (d + 3) 55 [.ref 1, .int a0, .int a1, .int a2, .int a3, .int a4, .int a5] (SH, h) = some (some (.int (-1000000001)), (SH, pm_up h 1 1 (h 1 1 + nI 1))) := by
  unfold okS at hb
  have hf : ∀ {h : pmH}, pm_cf (pm_Ev sl xs) (d + 1 + 1) 85 [.ref 1, .int (-1000000001)] (SH, h) = some (some (.int (-1000000001)), (SH, pm_up h 1 1 (h 1 1 + nI 1))) := c_find (k := 1) (by decide) f_1
  rw [qX7_string_0, c_isHow, pm_ri_ok]
  cases b1 : isH a0 with
  | false => rw [bI_f, hf, pm_ri_ok]
  | true =>
    rw [bI_t, if_neg z10', c_isUp n7, pm_ri_ok]
    cases b2 : isU (a0 - a0 / nI 10 * nI 10) a1 n with
    | false => rw [bI_f, hf, pm_ri_ok]
    | true =>
      rw [bI_t, c_within, pm_ri_ok]
      cases b3 : inR a2 (nI 1) (nI 100) with
      | false => rw [bI_f, hf, pm_ri_ok]
      | true =>
        rw [bI_t, c_within, pm_ri_ok]
        cases b4 : inR a3 (nI 1) (nI 10) with
        | false => rw [bI_f, hf, pm_ri_ok]
        | true =>
          rw [bI_t, c_within, pm_ri_ok]
          cases b5 : inR a4 (nI 1) (nI 60) with
          | false => rw [bI_f, hf, pm_ri_ok]
          | true =>
            rw [bI_t, c_within, pm_ri_ok]
            cases b6 : inR a5 (nI 1) (nI 20) with
            | false => rw [bI_f, hf, pm_ri_ok]
            | true => rw [b1, b2, b3, b4, b5, b6] at hb; cases hb
theorem lt7 {x : Int32} : nI 7 < x ↔ nI 8 ≤ x := by
  rw [Int32.lt_iff_toInt_lt, Int32.le_iff_toInt_le, nI_toInt (by decide), nI_toInt (by decide)]
  omega
theorem str_bad_m {d : Nat} {h : pmH} {n : Nat} {a0 a1 a2 a3 a4 a5 : Int32} (n39 : h 39 1 = nI n) (hn : n ≤ 24) (hb : okS a0 a1 a2 a3 a4 a5 n = false) : pm_cf (pm_Ev sl xs) (d + 3) 102 [.ref 40, .int a0, .int a1, .int a2, .int a3, .int a4, .int a5] (SH, h) = some (some (.int (-1000000001)), (SH, pm_up h 58 1 (h 58 1 + nI 1))) := by
  unfold okS at hb
  have hf : ∀ {h : pmH}, pm_cf (pm_Ev sl xs) (d + 1 + 1) 96 [.ref 40, .int (nI 1)] (SH, h) = some (some (.int (-1000000001)), (SH, pm_up h 58 1 (h 58 1 + nI 1))) := by intro h; rw [c_finds (by decide), g_1]
  rw [qX8_string_0, if_neg z10']
  cases b1 : isH a0 with
  | false =>
    unfold isH at b1
    by_cases h5 : a0 - a0 / nI 10 * nI 10 = nI 1
    · rw [if_pos h5]
      by_cases h1 : a0 < 0
      · rw [if_pos h1, hf, pm_ri_ok]
      · rw [if_neg h1, if_neg z100]
        by_cases h2 : nI 8 ≤ a0 / nI 100
        · rw [if_pos (lt7.mpr h2), hf, pm_ri_ok]
        · rw [if_neg (fun z => h2 (lt7.mp z)), if_neg z10', if_neg z10']
          by_cases h3 : nI 2 < a0 / nI 10 - a0 / nI 10 / nI 10 * nI 10
          · rw [if_pos h3, hf, pm_ri_ok]
          · rw [if_neg h3, if_neg z10']
            by_cases h4 : nI 1 < a0 - a0 / nI 10 * nI 10
            · rw [if_pos h4, hf, pm_ri_ok]
            · simp [h1, h2, h3, h4] at b1
    · rw [if_neg h5]
      by_cases h1 : a0 < 0
      · rw [if_pos h1, hf, pm_ri_ok]
      · rw [if_neg h1, if_neg z100]
        by_cases h2 : nI 8 ≤ a0 / nI 100
        · rw [if_pos (lt7.mpr h2), hf, pm_ri_ok]
        · rw [if_neg (fun z => h2 (lt7.mp z)), if_neg z10', if_neg z10']
          by_cases h3 : nI 2 < a0 / nI 10 - a0 / nI 10 / nI 10 * nI 10
          · rw [if_pos h3, hf, pm_ri_ok]
          · rw [if_neg h3, if_neg z10']
            by_cases h4 : nI 1 < a0 - a0 / nI 10 * nI 10
            · rw [if_pos h4, hf, pm_ri_ok]
            · simp [h1, h2, h3, h4] at b1
  | true =>
    rw [b1, Bool.true_and] at hb
    unfold isH at b1
    simp only [Bool.and_eq_true, decide_eq_true_eq] at b1
    obtain ⟨h1, h2, h3, h4⟩ := b1
    have h2' : ¬ nI 7 < a0 / nI 100 := fun z => h2 (lt7.mp z)
    unfold isU at hb
    by_cases h5 : a0 - a0 / nI 10 * nI 10 = nI 1
    · rw [if_pos h5] at hb ⊢
      rw [if_neg h1, if_neg z100, if_neg h2', if_neg z10', if_neg z10', if_neg h3, if_neg z10', if_neg h4, if_neg z10, c_isS n39 hn, pm_ri_ok]
      cases b2 : inS a1 n with
      | false => rw [bI_f, hf, pm_ri_ok]
      | true =>
        rw [bI_t, c_in, pm_ri_ok]
        cases b3 : inR a2 (nI 1) (nI 100) with
        | false => rw [bI_f, hf, pm_ri_ok]
        | true =>
          rw [bI_t, c_in, pm_ri_ok]
          cases b4 : inR a3 (nI 1) (nI 10) with
          | false => rw [bI_f, hf, pm_ri_ok]
          | true =>
            rw [bI_t, c_in, pm_ri_ok]
            cases b5 : inR a4 (nI 1) (nI 60) with
            | false => rw [bI_f, hf, pm_ri_ok]
            | true =>
              rw [bI_t, c_in, pm_ri_ok]
              cases b6 : inR a5 (nI 1) (nI 20) with
              | false => rw [bI_f, hf, pm_ri_ok]
              | true => rw [b2, b3, b4, b5, b6] at hb; cases hb
    · rw [if_neg h5] at hb ⊢
      rw [if_neg h1, if_neg z100, if_neg h2', if_neg z10', if_neg z10', if_neg h3, if_neg z10', if_neg h4, if_pos z00]
      by_cases b2 : a1 = 0
      · rw [if_pos b2, c_in, pm_ri_ok]
        cases b3 : inR a2 (nI 1) (nI 100) with
        | false => rw [bI_f, hf, pm_ri_ok]
        | true =>
          rw [bI_t, c_in, pm_ri_ok]
          cases b4 : inR a3 (nI 1) (nI 10) with
          | false => rw [bI_f, hf, pm_ri_ok]
          | true =>
            rw [bI_t, c_in, pm_ri_ok]
            cases b5 : inR a4 (nI 1) (nI 60) with
            | false => rw [bI_f, hf, pm_ri_ok]
            | true =>
              rw [bI_t, c_in, pm_ri_ok]
              cases b6 : inR a5 (nI 1) (nI 20) with
              | false => rw [bI_f, hf, pm_ri_ok]
              | true => rw [decide_eq_true b2, b3, b4, b5, b6] at hb; cases hb
      · rw [if_neg b2, hf, pm_ri_ok]
/-- the loops of the lamps -/
def R3 (g : pmH) (f w lc : Nat → Int32) : pmH := pm_pt (pm_pt (pm_pt g 4 f) 6 w) 19 lc
theorem R3_ne {g : pmH} {f w lc : Nat → Int32} {k : Nat} (h1 : k ≠ 4) (h2 : k ≠ 6) (h3 : k ≠ 19) : R3 g f w lc k = g k := by unfold R3; rw [pt_ne h3, pt_ne h2, pt_ne h1]
theorem R3_4 {g : pmH} {f w lc : Nat → Int32} : R3 g f w lc 4 = f := by unfold R3; rw [pt_ne (by decide), pt_ne (by decide), pt_same]
theorem R3_6 {g : pmH} {f w lc : Nat → Int32} : R3 g f w lc 6 = w := by unfold R3; rw [pt_ne (by decide), pt_same]
theorem R3_19 {g : pmH} {f w lc : Nat → Int32} : R3 g f w lc 19 = lc := by unfold R3; rw [pt_same]
theorem R3_u {g : pmH} {f w lc : Nat → Int32} {i j k : Nat} {x y z : Int32} : pm_up (pm_up (pm_up (R3 g f w lc) 4 i x) 6 j y) 19 k z = R3 g (upd f i x) (upd w j y) (upd lc k z) := by
  funext a
  unfold R3 pm_up pm_pt
  by_cases a1 : a = 4
  · subst a1; simp
  · by_cases a2 : a = 6
    · subst a2; simp
    · by_cases a3 : a = 19
      · subst a3; simp
      · simp [a1, a2, a3]
theorem R3_self (g : pmH) : R3 g (g 4) (g 6) (g 19) = g := by unfold R3; rw [pt_self, pt_self, pt_self]
theorem str_c {d : Nat} {g : pmH} {n m L : Nat} {o1 o2 o3 o4 o6 : Option Value} (hn : n < 24) (hm : m ≤ 12) (hL : L ≤ 60) (e2 : g 2 0 = nI m) : ∀ (k p : Nat) (f w lc : Nat → Int32), p + k = L → VCf f m → k ≤ sN f m → pm_Ev sl xs (d + 1) 55 128 [some (.ref 1), o1, o2, o3, o4, some (.int (nI L)), o6, some (.int (nI n)), some (.int (nI p))] [] (SH, R3 g f w lc) = some (some (.int (nI n)), (SH, pm_up (R3 g (tkF m k f) (tk6 m k f w) (tkL m k (60 * n + p) f lc)) 30 n (nI n)))
  | 0, p, f, w, lc, hk, hV, hs => by
    rw [qX7_string_128, if_pos (nI_le (by omega) (by omega)), qX4_putLast_0, pm_ix_nI hn (by decide), pm_rv_ok]
    rfl
  | k + 1, p, f, w, lc, hk, hV, hs => by
    obtain ⟨t1, t2⟩ := tkN_ok (f := f) (m := m) (by omega)
    have hd := sN_dec hV t1 t2 m t1 (Nat.le_refl _)
    have ht := c_take (sl := sl) (xs := xs) (d := d) (h := R3 g f w lc) hm (by rw [R3_ne (by decide) (by decide) (by decide)]; exact e2) (by rw [R3_4]; exact hV) (by rw [R3_4]; omega)
    rw [R3_4, R3_6] at ht
    rw [qX7_string_128, if_neg (nI_ge (by omega) (by omega)), ht, pm_ri_ok, qX5_setCrateOf_0, pk_mul, nI_add, Nat.mul_comm n 60, pm_ix_nI (by omega) (by decide), pm_rv_ok, R3_u, nI_add, tkF, tk6, tkL]
    exact str_c hn hm hL e2 k (p + 1) _ _ _ (by omega) (hV.dec t1 t2).1 (by omega)
theorem str_m {d : Nat} {g : pmH} {n m L : Nat} {o1 o2 o3 o4 o6 o7 : Option Value} (hn : n < 24) (hm : m ≤ 12) (hL : L ≤ 60) (n39 : g 39 1 = nI n) : ∀ (k p : Nat) (f lc : Nat → Int32), p + k = L → VCf f m → k ≤ sN f m → pm_Ev sl xs (d + 1) 102 254 [some (.ref 40), o1, o2, o3, o4, some (.int (nI L)), o6, o7, some (.int (nI n)), some (.int (nI p))] [] (SH, pP g 41 f 54 lc) = some (some (.int (nI n)), (SH, pm_up (pm_up (pP g 41 (tkF m k f) 54 (tkL m k (60 * n + p) f lc)) 59 n (nI n)) 39 1 (nI (n + 1))))
  | 0, p, f, lc, hk, hV, hs => by
    rw [qX8_string_254, if_pos (nI_le (by omega) (by omega)), pm_ix_nI hn (by decide), pP_ne (by decide) (by decide), n39, nI_add]
    rfl
  | k + 1, p, f, lc, hk, hV, hs => by
    obtain ⟨t1, t2⟩ := tkN_ok (f := f) (m := m) (by omega)
    have hd := sN_dec hV t1 t2 m t1 (Nat.le_refl _)
    rw [qX8_string_254, if_neg (nI_ge (by omega) (by omega)), m_taken (f := f) hm (pP_a (by decide)) (by omega), pm_ri_ok, pk_mul, nI_add, pm_ix_nI (by omega) (by decide), pP_ua (by decide), pP_ub, nI_add, tkF, tkL]
    exact str_m hn hm hL n39 k (p + 1) _ _ (by omega) (hV.dec t1 t2).1 (by omega)
end STRING
