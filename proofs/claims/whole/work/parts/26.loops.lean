/-! explain; the lamps left; counts of the dead -/
theorem z10 : ¬ nI 1 = 0 := by decide
theorem z00 : nI 0 = 0 := rfl
def hb (a b : Int32) : Bool := decide ((a >>> (b &&& 31)) &&& nI 1 = nI 1)
section LOOPS
variable {sl : Nat} {xs : Nat → Int32}
theorem c_hasBit {d : Nat} {h : pmH} {a b : Int32} : pm_cf (pm_Ev sl xs) (d + 1) 88 [.int a, .int b] (SH, h) = some (some (.int (bI (hb a b))), (SH, h)) := by
  rw [qX7_hasBit_0]; unfold hb bI
  by_cases h1 : (a >>> (b &&& 31)) &&& nI 1 = nI 1 <;> simp [h1]
theorem c_hasM {d : Nat} {h : pmH} {a b : Int32} : pm_cf (pm_Ev sl xs) (d + 1) 98 [.int a, .int b] (SH, h) = some (some (.int (bI (hb a b))), (SH, h)) := by
  rw [qX8_has_0]; unfold hb bI
  by_cases h1 : (a >>> (b &&& 31)) &&& nI 1 = nI 1 <;> simp [h1]
/-- a string whose up is among the bits -/
def hangs (up : Nat → Int32) (a : Int32) (i : Nat) : Bool := if up i < 0 then false else hb a (up i)
def expl (up : Nat → Int32) (a : Int32) : Nat → Nat → Int32 → Option Int32
  | 0, _, b => some b
  | m + 1, i, b => if hangs up a i = true then (if hb a (nI i) = true then expl up a m (i + 1) b else none) else (if hb a (nI i) = true then expl up a m (i + 1) (b ||| (nI 1 <<< (nI i &&& 31))) else expl up a m (i + 1) b)
theorem expl_c {d : Nat} {h : pmH} {n : Nat} {a : Int32} (hn : n ≤ 24) (n7 : h 7 0 = nI n) : ∀ (m i : Nat) (b : Int32) (o4 o5 : Option Value), i + m = n → pm_Ev sl xs (d + 2) 65 27 [some (.ref 1), some (.int a), some (.int b), some (.int (nI i)), o4, o5] [] (SH, h) = (match expl (h 9) a m i b with
    | some r => some (some (.int r), (SH, h))
    | none => some (some (.int (-1000000002)), (SH, pm_up h 1 2 (h 1 2 + nI 1))))
  | 0, i, b, o4, o5, hi => by
    rw [qX7_explain_27, n7, if_pos (nI_le (by omega) (by omega))]
    rfl
  | m + 1, i, b, o4, o5, hi => by
    have ih := fun b o4 o5 => expl_c (d := d) (a := a) hn n7 m (i + 1) b o4 o5 (by omega)
    rw [qX7_explain_27, n7, if_neg (nI_ge (by omega) (by omega)), c_hasBit, pm_ri_ok, pm_ix_nI (by omega) (by decide)]
    unfold expl hangs
    by_cases hu : h 9 i < 0
    · rw [if_pos hu, if_pos hu, if_pos z00, bI_if, if_pos z00, nI_add, ih, ih]
      simp only [Bool.false_eq_true, if_false]
      by_cases hh : hb a (nI i) = true
      · rw [if_pos hh, if_pos hh]
      · rw [if_neg hh, if_neg hh]
    · rw [if_neg hu, if_neg hu, pm_ix_nI (by omega) (by decide), c_hasBit, pm_ri_ok, bI_if]
      simp only [bI_if, nI_add, ih]
      by_cases hg : hb a (h 9 i) = true
      · by_cases hh : hb a (nI i) = true
        · simp [hg, hh, z10]
        · simp [hg, hh, z10, c_find (k := 2) (by decide) f_2, pm_ri_ok]
      · by_cases hh : hb a (nI i) = true
        · simp [hg, hh, z00]
        · simp [hg, hh, z00]
theorem expl_m {d : Nat} {h : pmH} {n : Nat} {a : Int32} {up : Nat → Int32} (hn : n ≤ 24) (n39 : h 39 1 = nI n) (e9 : h 44 = up) : ∀ (m i : Nat) (b : Int32) (o4 : Option Value), i + m = n → pm_Ev sl xs (d + 2) 123 23 [some (.ref 40), some (.int a), some (.int b), some (.int (nI i)), o4] [] (SH, h) = (match expl up a m i b with
    | some r => some (some (.int r), (SH, h))
    | none => some (some (.int (-1000000002)), (SH, pm_up h 58 2 (h 58 2 + nI 1))))
  | 0, i, b, o4, hi => by
    rw [qX8_explain_23, n39, if_pos (nI_le (by omega) (by omega))]
    rfl
  | m + 1, i, b, o4, hi => by
    have ih := fun b o4 => expl_m (d := d) (a := a) hn n39 e9 m (i + 1) b o4 (by omega)
    rw [qX8_explain_23, n39, if_neg (nI_ge (by omega) (by omega)), pm_ix_nI (by omega) (by decide), e9]
    unfold expl hangs
    by_cases hu : up i < 0
    · rw [if_pos hu, if_pos hu, if_pos z00, c_hasM, pm_ri_ok, bI_if, if_pos z00, nI_add, ih, ih]
      simp only [Bool.false_eq_true, if_false]
      by_cases hh : hb a (nI i) = true
      · rw [if_pos hh, if_pos hh]
      · rw [if_neg hh, if_neg hh]
    · rw [if_neg hu, if_neg hu, pm_ix_nI (by omega) (by decide), c_hasM, pm_ri_ok, bI_if]
      simp only [c_hasM, pm_ri_ok, bI_if, nI_add, ih]
      by_cases hg : hb a (up i) = true
      · by_cases hh : hb a (nI i) = true
        · simp [hg, hh, z10]
        · simp [hg, hh, z10, c_finds (k := 2) (by decide), pm_ri_ok, g_2]
      · by_cases hh : hb a (nI i) = true
        · simp [hg, hh, z00]
        · simp [hg, hh, z00]
theorem step_explain {a : Int32} : Step sl xs 65 123 [.int a] := by
  intro d h ⟨n, m, q, hi⟩
  have hn : n ≤ 24 := hi.1.1
  have n7 := hi.n7
  have n39 : ∀ {x : pmH}, x 39 = h 39 → x 39 1 = nI n := fun e => by rw [e]; exact hi.n39
  have e9 : h 44 = h 9 := (hi.eq (by decide)).symm
  by_cases h1 : a < 0
  · refine ⟨-1000000001, pm_up h 1 1 (h 1 1 + nI 1), _, ?_, ?_, n, m, q, hi.fnd 1⟩
    · rw [qX7_explain_0, if_pos h1, c_find (k := 1) (by decide) f_1, pm_ri_ok]
    · rw [qX8_explain_0, if_pos h1, c_finds (by decide), pm_ri_ok, g_1]
  · by_cases h2 : (a >>> (nI n &&& 31)) = 0
    · cases hx : expl (h 9) a n 0 (nI 0) with
      | none =>
        refine ⟨-1000000002, pm_up h 1 2 (h 1 2 + nI 1), _, ?_, ?_, n, m, q, hi.fnd 2⟩
        · rw [qX7_explain_0, if_neg h1, n7, if_pos h2, expl_c (d := d + 37) hn n7 n 0 _ _ _ (by omega), hx]
        · rw [qX8_explain_0, if_neg h1, n39 (pm_up_ne (by decide)), if_pos h2, expl_m (d := d + 37) (up := h 9) hn (n39 (pm_up_ne (by decide))) (by rw [pm_up_ne (by decide)]; exact e9) n 0 _ _ (by omega), hx]
      | some r =>
        refine ⟨r, h, h, ?_, ?_, n, m, q, hi⟩
        · rw [qX7_explain_0, if_neg h1, n7, if_pos h2, expl_c (d := d + 37) hn n7 n 0 _ _ _ (by omega), hx]
        · rw [qX8_explain_0, if_neg h1, n39 rfl, if_pos h2, expl_m (d := d + 37) (up := h 9) hn (n39 rfl) e9 n 0 _ _ (by omega), hx]
    · refine ⟨-1000000001, pm_up h 1 1 (h 1 1 + nI 1), _, ?_, ?_, n, m, q, hi.fnd 1⟩
      · rw [qX7_explain_0, if_neg h1, n7, if_neg h2, c_find (k := 1) (by decide) f_1, pm_ri_ok]
      · rw [qX8_explain_0, if_neg h1, n39 (pm_up_ne (by decide)), if_neg h2, c_finds (by decide), pm_ri_ok, g_1]
/-! lamps left -/
def sumF (f : Nat → Int32) : Nat → Int32
  | 0 => nI 0
  | k + 1 => sumF f k + f k
theorem left_c {d : Nat} {h : pmH} {m : Nat} (hm : m ≤ 12) (e : h 2 0 = nI m) : ∀ (k i : Nat), i + k = m → pm_Ev sl xs d 15 4 [some (.ref 3), some (.int (sumF (h 4) i)), some (.int (nI i))] [] (SH, h) = some (some (.int (sumF (h 4) m)), (SH, h))
  | 0, i, hi => by
    have z : i = m := by omega
    subst z
    rw [qX2_allLeft_4, e, if_pos (nI_le (by omega) (by omega))]
  | k + 1, i, hi => by
    rw [qX2_allLeft_4, e, if_neg (nI_ge (by omega) (by omega)), pm_ix_nI (by omega) (by decide), nI_add]
    exact left_c hm e k (i + 1) (by omega)
theorem left_m {d : Nat} {h : pmH} {m : Nat} (hm : m ≤ 12) (e : h 39 0 = nI m) : ∀ (k i : Nat), i + k = m → pm_Ev sl xs d 100 4 [some (.ref 40), some (.int (sumF (h 41) i)), some (.int (nI i))] [] (SH, h) = some (some (.int (sumF (h 41) m)), (SH, h))
  | 0, i, hi => by
    have z : i = m := by omega
    subst z
    rw [qX8_lampsLeft_4, e, if_pos (nI_le (by omega) (by omega))]
  | k + 1, i, hi => by
    rw [qX8_lampsLeft_4, e, if_neg (nI_ge (by omega) (by omega)), pm_ix_nI (by omega) (by decide), nI_add]
    exact left_m hm e k (i + 1) (by omega)
theorem c_allLeft {d : Nat} {h : pmH} {m : Nat} (hm : m ≤ 12) (e : h 2 0 = nI m) : pm_cf (pm_Ev sl xs) (d + 1) 15 [.ref 3] (SH, h) = some (some (.int (sumF (h 4) m)), (SH, h)) := by
  rw [qX2_allLeft_0]; exact left_c hm e m 0 (by omega)
theorem c_lampsLeft {d : Nat} {h : pmH} {m : Nat} (hm : m ≤ 12) (e : h 39 0 = nI m) : pm_cf (pm_Ev sl xs) (d + 1) 100 [.ref 40] (SH, h) = some (some (.int (sumF (h 41) m)), (SH, h)) := by
  rw [qX8_lampsLeft_0]; exact left_m hm e m 0 (by omega)
end LOOPS
