/-! as, lamp, crate -/
section EASY4
variable {sl : Nat} {xs : Nat → Int32}
/-- a string's load, as both reckon it -/
def ldS (h : pmH) (j : Nat) : Int32 := if h 8 j = nI 2 then nI 2 * (h 13 j * h 14 j) else h 13 j * h 14 j
theorem c_load {d : Nat} {h : pmH} {j : Nat} (hj : j < 24) : pm_cf (pm_Ev sl xs) (d + 1) 46 [.ref 8, .int (nI j)] (SH, h) = some (some (.int (ldS h j)), (SH, h)) := by
  rw [qX5_load_0, pm_ix_nI hj (by decide), pm_ix_nI hj (by decide), pm_ix_nI hj (by decide)]
  unfold ldS
  by_cases hk : h 8 j = nI 2
  · rw [if_pos hk, if_pos hk]
  · rw [if_neg hk, if_neg hk]
theorem VS.load {h : pmH} {n j : Nat} (hV : VS h n) (hj : j < n) : ∃ k, 1 ≤ k ∧ k ≤ 2400 ∧ ldS h j = nI k ∧ (if h 8 j = nI 2 then h 13 j * h 14 j * nI 2 else h 13 j * h 14 j * nI 1) = nI k := by
  obtain ⟨-, -, -, -, -, ⟨a, a1, a2, a3⟩, ⟨b, b1, b2, b3⟩, -, -⟩ := hV j hj
  unfold ldS
  rw [a3, b3, pk_mul, pk_mul, pk_mul, pk_mul]
  have h1 : 1 ≤ a * b := Nat.mul_pos a1 b1
  have h2 : a * b ≤ 60 * 20 := Nat.mul_le_mul a2 b2
  by_cases hk : h 8 j = nI 2
  · exact ⟨2 * (a * b), by omega, by omega, by rw [if_pos hk], by rw [if_pos hk, Nat.mul_comm]⟩
  · exact ⟨a * b, h1, by omega, by rw [if_neg hk], by rw [if_neg hk, Nat.mul_one]⟩
theorem c_loadOf {d : Nat} {h : pmH} {n j : Nat} (hn : n ≤ 24) (hj : j < n) (e8 : h 43 = h 8) (e13 : h 48 = h 13) (e14 : h 49 = h 14) (hV : VS h n) : pm_cf (pm_Ev sl xs) (d + 1) 108 [.ref 40, .int (nI j)] (SH, h) = some (some (.int (ldS h j)), (SH, h)) := by
  obtain ⟨k, -, -, h1, h2⟩ := hV.load hj
  rw [qX8_loadOf_0, pm_ix_nI (by omega) (by decide), pm_ix_nI (by omega) (by decide), pm_ix_nI (by omega) (by decide), e8, e13, e14, h1, ← h2]
  by_cases hk : h 8 j = nI 2
  · rw [if_pos hk, if_pos hk]
  · rw [if_neg hk, if_neg hk]
theorem c_isOf {d : Nat} {h : pmH} {j : Nat} {c : Int32} (hj : j < 24) : pm_cf (pm_Ev sl xs) (d + 1) 45 [.ref 8, .int (nI j), .int c] (SH, h) = some (some (.int (bI (decide (c = 0) || decide (h 8 j = c)))), (SH, h)) := by
  rw [qX5_isOf_0, pm_ix_nI hj (by decide)]
  unfold bI
  by_cases hc : c = 0
  · simp [hc]
  · by_cases hk : h 8 j = c
    · simp [hc, hk]
    · simp [hc, hk]
theorem step_as {a c : Int32} : Step sl xs 59 109 [.int a, .int c] := by
  intro d h ⟨n, m, q, hi⟩
  have hn : n ≤ 24 := hi.1.1
  have n7 := hi.n7
  have n39 : ∀ {x : pmH}, x 39 = h 39 → x 39 1 = nI n := fun e => by rw [e]; exact hi.n39
  have e8 : h 43 = h 8 := (hi.eq (by decide)).symm
  have e13 : h 48 = h 13 := (hi.eq (by decide)).symm
  have e14 : h 49 = h 14 := (hi.eq (by decide)).symm
  have hV : VS h n := hi.2.2.2.1
  cases hr : inS a n with
  | false =>
    refine ⟨-1000000001, pm_up h 1 1 (h 1 1 + nI 1), _, ?_, ?_, n, m, q, hi.fnd 1⟩
    · rw [qX7_as_0, c_has n7, pm_ri_ok, hr, bI_f, c_find (k := 1) (by decide) f_1, pm_ri_ok]
    · rw [qX8_as_0, c_isS (n39 (pm_up_ne (by decide))) hn, pm_ri_ok, hr, bI_f, c_finds (by decide), pm_ri_ok, g_1]
  | true =>
    cases hr2 : inR c (nI 0) (nI 2) with
    | false =>
      refine ⟨-1000000001, pm_up h 1 1 (h 1 1 + nI 1), _, ?_, ?_, n, m, q, hi.fnd 1⟩
      · rw [qX7_as_0, c_has n7, pm_ri_ok, hr, bI_t, c_within, pm_ri_ok, hr2, bI_f, c_find (k := 1) (by decide) f_1, pm_ri_ok]
      · rw [qX8_as_0, c_isS (n39 (pm_up_ne (by decide))) hn, pm_ri_ok, hr, bI_t, c_in, pm_ri_ok, hr2, bI_f, c_finds (by decide), pm_ri_ok, g_1]
    | true =>
      obtain ⟨j, hj, rfl⟩ := inS_nat (by omega) hr
      by_cases hc : c = 0
      · refine ⟨ldS h j, h, h, ?_, ?_, n, m, q, hi⟩
        · rw [qX7_as_0, c_has n7, pm_ri_ok, hr, bI_t, c_within, pm_ri_ok, hr2, bI_t, c_isOf (by omega), pm_ri_ok, decide_eq_true hc, Bool.true_or, bI_t, c_load (by omega), pm_ri_ok]
        · rw [qX8_as_0, c_isS (n39 rfl) hn, pm_ri_ok, hr, bI_t, c_in, pm_ri_ok, hr2, bI_t, if_pos hc, c_loadOf hn hj e8 e13 e14 hV, pm_ri_ok]
      · by_cases hk : h 8 j = c
        · refine ⟨ldS h j, h, h, ?_, ?_, n, m, q, hi⟩
          · rw [qX7_as_0, c_has n7, pm_ri_ok, hr, bI_t, c_within, pm_ri_ok, hr2, bI_t, c_isOf (by omega), pm_ri_ok, decide_eq_false hc, decide_eq_true hk, Bool.false_or, bI_t, c_load (by omega), pm_ri_ok]
          · rw [qX8_as_0, c_isS (n39 rfl) hn, pm_ri_ok, hr, bI_t, c_in, pm_ri_ok, hr2, bI_t, if_neg hc, pm_ix_nI (by omega) (by decide), e8, if_pos hk.symm, c_loadOf hn hj e8 e13 e14 hV, pm_ri_ok]
        · refine ⟨-1000000005, pm_up h 1 5 (h 1 5 + nI 1), _, ?_, ?_, n, m, q, hi.fnd 5⟩
          · rw [qX7_as_0, c_has n7, pm_ri_ok, hr, bI_t, c_within, pm_ri_ok, hr2, bI_t, c_isOf (by omega), pm_ri_ok, decide_eq_false hc, decide_eq_false hk, Bool.false_or, bI_f, c_find (k := 5) (by decide) f_5, pm_ri_ok]
          · rw [qX8_as_0, c_isS (n39 (pm_up_ne (by decide))) hn, pm_ri_ok, hr, bI_t, c_in, pm_ri_ok, hr2, bI_t, if_neg hc, pm_ix_nI (by omega) (by decide), pm_up_ne (a := 43) (by decide), e8, if_neg (fun z => hk z.symm), c_finds (by decide), pm_ri_ok, g_5]
/-- a lamp of a string -/
def inL (h : pmH) (a c : Int32) (n : Nat) : Bool := inS a n && (decide (¬ c < 0) && decide (¬ h 13 a.toNatClampNeg ≤ c))
theorem c_hasLamp {d : Nat} {h : pmH} {n : Nat} {a c : Int32} (hn : n ≤ 24) (n7 : h 7 0 = nI n) : pm_cf (pm_Ev sl xs) (d + 2) 41 [.ref 8, .int a, .int c] (SH, h) = some (some (.int (bI (inL h a c n))), (SH, h)) := by
  rw [qX5_hasLamp_0, c_has n7, pm_ri_ok]
  unfold inL
  cases hr : inS a n with
  | false => rw [bI_f]; rfl
  | true =>
    obtain ⟨j, hj, rfl⟩ := inS_nat (by omega) hr
    rw [bI_t, pm_ix_nI (by omega) (by decide), nI_clamp (by omega), Bool.true_and]
    unfold bI
    by_cases h1 : c < 0
    · simp [h1]
    · by_cases h2 : h 13 j ≤ c
      · simp [h1, h2]
      · simp [h1, h2]
theorem c_isLamp {d : Nat} {h : pmH} {n : Nat} {a c : Int32} (hn : n ≤ 24) (n39 : h 39 1 = nI n) (e13 : h 48 = h 13) (hV : VS h n) : pm_cf (pm_Ev sl xs) (d + 3) 141 [.ref 40, .int a, .int c] (SH, h) = some (some (.int (bI (inL h a c n))), (SH, h)) := by
  rw [qX8_isLamp_0, c_isS n39 hn, pm_ri_ok]
  unfold inL
  cases hr : inS a n with
  | false => rw [bI_f]; rfl
  | true =>
    obtain ⟨j, hj, rfl⟩ := inS_nat (by omega) hr
    obtain ⟨-, -, -, -, -, ⟨k, k1, k2, k3⟩, -, -, -⟩ := hV j hj
    rw [bI_t, pm_ix_nI (by omega) (by decide), nI_clamp (by omega), Bool.true_and, e13, k3, c_in, pm_ri_ok, inR_S (by omega)]
    show (if bI (inS c k) = 0 then some (some (Value.int (nI 0)), (SH, h)) else some (some (Value.int (nI 1)), (SH, h))) = some (some (Value.int (bI (inS c k))), (SH, h))
    cases inS c k <;> rfl
theorem inL_nat {h : pmH} {n : Nat} {a c : Int32} (hn : n ≤ 24) (hV : VS h n) (hr : inL h a c n = true) : ∃ j p, j < n ∧ p < 60 ∧ a = nI j ∧ c = nI p ∧ nI p < h 13 j := by
  unfold inL at hr
  rw [Bool.and_eq_true] at hr
  obtain ⟨j, hj, rfl⟩ := inS_nat (by omega) hr.1
  obtain ⟨-, -, -, -, -, ⟨k, k1, k2, k3⟩, -, -, -⟩ := hV j hj
  have h2 := hr.2
  rw [nI_clamp (by omega), k3] at h2
  obtain ⟨p, hp, rfl⟩ := inS_nat (n := k) (by omega) h2
  exact ⟨j, p, hj, by omega, rfl, rfl, by rw [k3]; exact nI_lt hp (by omega)⟩
theorem step_lamp {a c : Int32} : Step sl xs 78 142 [.int a, .int c] := by
  intro d h ⟨n, m, q, hi⟩
  have hn : n ≤ 24 := hi.1.1
  have n7 := hi.n7
  have e13 : h 48 = h 13 := (hi.eq (by decide)).symm
  have e19 : h 54 = h 19 := (hi.eq (by decide)).symm
  have hV : VS h n := hi.2.2.2.1
  cases hr : inL h a c n with
  | false =>
    refine ⟨-1000000001, pm_up h 1 1 (h 1 1 + nI 1), _, ?_, ?_, n, m, q, hi.fnd 1⟩
    · rw [qX7_lamp_0, c_hasLamp hn n7, pm_ri_ok, hr, bI_f, c_find (k := 1) (by decide) f_1, pm_ri_ok]
    · have hr' : inL (pm_up h 1 1 (h 1 1 + nI 1)) a c n = false := by
        unfold inL at hr ⊢
        rw [pm_up_ne (by decide)]
        exact hr
      have hV' : VS (pm_up h 1 1 (h 1 1 + nI 1)) n := (VA.up (k := 1) (j := 1) (x := h 1 1 + nI 1) hi.to.2.2.2.1 (by decide)).1
      rw [qX8_lamp_0, c_isLamp hn (by rw [pm_up_ne (by decide)]; exact hi.n39) (by rw [pm_up_ne (by decide), pm_up_ne (by decide)]; exact e13) hV', pm_ri_ok, hr', bI_f, c_finds (by decide), pm_ri_ok, g_1]
  | true =>
    obtain ⟨j, p, hj, hp, rfl, rfl, -⟩ := inL_nat hn hV hr
    refine ⟨h 19 (60 * j + p), h, h, ?_, ?_, n, m, q, hi⟩
    · rw [qX7_lamp_0, c_hasLamp hn n7, pm_ri_ok, hr, bI_t, qX5_crateOf_0, pk_mul, nI_add, pm_ix_nI (by omega) (by decide), pm_ri_ok, Nat.mul_comm]
    · rw [qX8_lamp_0, c_isLamp hn hi.n39 e13 hV, pm_ri_ok, hr, bI_t, pk_mul, nI_add, pm_ix_nI (by omega) (by decide), e19]
end EASY4
