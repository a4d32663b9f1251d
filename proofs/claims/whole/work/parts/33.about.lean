/-! about, count -/
theorem FR_survey {h h2 : pmH} (hf : ∀ k, k < 21 ∨ 25 < k → h2 k = h k) : FR h h2 := by
  have k1 : ∀ k ∈ relA, k < 21 ∨ 25 < k := by decide
  have k2 : ∀ p ∈ relF, p.1 < 21 ∨ 25 < p.1 := by decide
  exact ⟨fun k hk => hf k (k1 k hk), fun p hp => by rw [hf p.1 (k2 p hp)]⟩
theorem FR_flow {h h2 : pmH} (hf : ∀ k, k < 60 ∨ 62 < k → h2 k = h k) : FR h h2 := by
  have k1 : ∀ k ∈ relA, k < 60 ∨ 62 < k := by decide
  have k2 : ∀ p ∈ relF, p.1 < 60 ∨ 62 < p.1 := by decide
  exact ⟨fun k hk => hf k (k1 k hk), fun p hp => by rw [hf p.1 (k2 p hp)]⟩
theorem DV_01 (h : pmH) (j : Nat) : DV h j = 0 ∨ DV h j = 1 := dk_01 (j + 1) j
section ABOUT
variable {sl : Nat} {xs : Nat → Int32}
theorem c_darkNow {d : Nat} {h : pmH} {n j : Nat} (hn : n ≤ 24) (n7 : h 7 0 = nI n) (hV : VS h n) (hj : j < n) : ∃ h2, pm_cf (pm_Ev sl xs) (d + 4) 91 [.ref 1, .int (nI j)] (SH, h) = some (some (.int (DV h j)), (SH, h2)) ∧ ∀ k, k < 21 ∨ 25 < k → h2 k = h k := by
  obtain ⟨h2, a1, a2, a3, -⟩ := c_survey (sl := sl) (xs := xs) (d := d) hn n7 hV
  refine ⟨h2, ?_, a2⟩
  rw [qX7_darkNow_0, a1, pm_rv_ok, pm_ix_nI (by omega) (by decide), a3 j hj, if_pos (DV_01 h j)]
theorem step_about {a c : Int32} : Step sl xs 58 107 [.int a, .int c] := by
  intro d h ⟨n, m, q, hi⟩
  have hn : n ≤ 24 := hi.1.1
  have n7 := hi.n7
  have n39 : ∀ {x : pmH}, x 39 = h 39 → x 39 1 = nI n := fun e => by rw [e]; exact hi.n39
  have hV : VS h n := hi.2.2.2.1
  cases hr : inS a n with
  | false =>
    refine ⟨-1000000001, pm_up h 1 1 (h 1 1 + nI 1), _, ?_, ?_, n, m, q, hi.fnd 1⟩
    · rw [qX7_about_0, c_has n7, pm_ri_ok, hr, bI_f, c_find (k := 1) (by decide) f_1, pm_ri_ok]
    · rw [qX8_about_0, c_isS (n39 (pm_up_ne (by decide))) hn, pm_ri_ok, hr, bI_f, c_finds (by decide), pm_ri_ok, g_1]
  | true =>
    obtain ⟨j, hj, rfl⟩ := inS_nat (by omega) hr
    have ix : ∀ (t : Nat → Option pmR), pm_ix none (nI j) 24 t = t j := fun t => pm_ix_nI (by omega) (by decide)
    have h01 : h 16 j = 0 ∨ h 16 j = 1 := (hV j hj).2.2.2.2.2.2.2.2
    by_cases c0 : c = nI 0
    · refine ⟨h 8 j, h, h, ?_, ?_, n, m, q, hi⟩
      · rw [qX7_about_0, c_has n7, pm_ri_ok, hr, bI_t, if_pos c0, ix]
      · rw [qX8_about_0, c_isS (n39 rfl) hn, pm_ri_ok, hr, bI_t, if_pos c0, ix, hi.eq (k := 8) (k2 := 43) (by decide)]
    by_cases c1 : c = nI 1
    · refine ⟨h 9 j, h, h, ?_, ?_, n, m, q, hi⟩
      · rw [qX7_about_0, c_has n7, pm_ri_ok, hr, bI_t, if_neg c0, if_pos c1, ix]
      · rw [qX8_about_0, c_isS (n39 rfl) hn, pm_ri_ok, hr, bI_t, if_neg c0, if_pos c1, ix, hi.eq (k := 9) (k2 := 44) (by decide)]
    by_cases c2 : c = nI 2
    · refine ⟨h 10 j, h, h, ?_, ?_, n, m, q, hi⟩
      · rw [qX7_about_0, c_has n7, pm_ri_ok, hr, bI_t, if_neg c0, if_neg c1, if_pos c2, ix]
      · rw [qX8_about_0, c_isS (n39 rfl) hn, pm_ri_ok, hr, bI_t, if_neg c0, if_neg c1, if_pos c2, ix, hi.eq (k := 10) (k2 := 45) (by decide)]
    by_cases c3 : c = nI 3
    · refine ⟨h 11 j, h, h, ?_, ?_, n, m, q, hi⟩
      · rw [qX7_about_0, c_has n7, pm_ri_ok, hr, bI_t, if_neg c0, if_neg c1, if_neg c2, if_pos c3, ix]
      · rw [qX8_about_0, c_isS (n39 rfl) hn, pm_ri_ok, hr, bI_t, if_neg c0, if_neg c1, if_neg c2, if_pos c3, ix, hi.eq (k := 11) (k2 := 46) (by decide)]
    by_cases c4 : c = nI 4
    · refine ⟨h 12 j, h, h, ?_, ?_, n, m, q, hi⟩
      · rw [qX7_about_0, c_has n7, pm_ri_ok, hr, bI_t, if_neg c0, if_neg c1, if_neg c2, if_neg c3, if_pos c4, ix]
      · rw [qX8_about_0, c_isS (n39 rfl) hn, pm_ri_ok, hr, bI_t, if_neg c0, if_neg c1, if_neg c2, if_neg c3, if_pos c4, ix, hi.eq (k := 12) (k2 := 47) (by decide)]
    by_cases c5 : c = nI 5
    · refine ⟨h 13 j, h, h, ?_, ?_, n, m, q, hi⟩
      · rw [qX7_about_0, c_has n7, pm_ri_ok, hr, bI_t, if_neg c0, if_neg c1, if_neg c2, if_neg c3, if_neg c4, if_pos c5, ix]
      · rw [qX8_about_0, c_isS (n39 rfl) hn, pm_ri_ok, hr, bI_t, if_neg c0, if_neg c1, if_neg c2, if_neg c3, if_neg c4, if_pos c5, ix, hi.eq (k := 13) (k2 := 48) (by decide)]
    by_cases c6 : c = nI 6
    · refine ⟨h 14 j, h, h, ?_, ?_, n, m, q, hi⟩
      · rw [qX7_about_0, c_has n7, pm_ri_ok, hr, bI_t, if_neg c0, if_neg c1, if_neg c2, if_neg c3, if_neg c4, if_neg c5, if_pos c6, ix]
      · rw [qX8_about_0, c_isS (n39 rfl) hn, pm_ri_ok, hr, bI_t, if_neg c0, if_neg c1, if_neg c2, if_neg c3, if_neg c4, if_neg c5, if_pos c6, ix, hi.eq (k := 14) (k2 := 49) (by decide)]
    by_cases c7 : c = nI 7
    · refine ⟨h 15 j, h, h, ?_, ?_, n, m, q, hi⟩
      · rw [qX7_about_0, c_has n7, pm_ri_ok, hr, bI_t, if_neg c0, if_neg c1, if_neg c2, if_neg c3, if_neg c4, if_neg c5, if_neg c6, if_pos c7, ix]
      · rw [qX8_about_0, c_isS (n39 rfl) hn, pm_ri_ok, hr, bI_t, if_neg c0, if_neg c1, if_neg c2, if_neg c3, if_neg c4, if_neg c5, if_neg c6, if_pos c7, ix, hi.eq (k := 15) (k2 := 50) (by decide)]
    by_cases c8 : c = nI 8
    · refine ⟨h 16 j, h, h, ?_, ?_, n, m, q, hi⟩
      · rw [qX7_about_0, c_has n7, pm_ri_ok, hr, bI_t, if_neg c0, if_neg c1, if_neg c2, if_neg c3, if_neg c4, if_neg c5, if_neg c6, if_neg c7, if_pos c8, ix, c_bit h01, pm_ri_ok]
      · rw [qX8_about_0, c_isS (n39 rfl) hn, pm_ri_ok, hr, bI_t, if_neg c0, if_neg c1, if_neg c2, if_neg c3, if_neg c4, if_neg c5, if_neg c6, if_neg c7, if_pos c8, ix, ← hi.eq (k := 16) (k2 := 53) (by decide)]
        rcases h01 with z | z
        · rw [if_pos z, z]; rfl
        · rw [z]; rfl
    by_cases c9 : c = nI 9
    · obtain ⟨h2, a1, a2⟩ := c_darkNow (sl := sl) (xs := xs) (d := d + 35) hn n7 hV hj
      have e9 : h2 44 = h 9 := by rw [a2 44 (by decide)]; exact (hi.eq (by decide)).symm
      have e16 : h2 53 = h 16 := by rw [a2 53 (by decide)]; exact (hi.eq (by decide)).symm
      refine ⟨DV h j, h2, h2, ?_, ?_, n, m, q, hi.frame (FR_survey a2)⟩
      · rw [qX7_about_0, c_has n7, pm_ri_ok, hr, bI_t, if_neg c0, if_neg c1, if_neg c2, if_neg c3, if_neg c4, if_neg c5, if_neg c6, if_neg c7, if_neg c8, if_pos c9, a1, pm_ri_ok, c_bit (DV_01 h j), pm_ri_ok]
      · rw [qX8_about_0, c_isS (n39 (a2 39 (by decide))) hn, pm_ri_ok, hr, bI_t, if_neg c0, if_neg c1, if_neg c2, if_neg c3, if_neg c4, if_neg c5, if_neg c6, if_neg c7, if_neg c8, if_pos c9, c_isDark hn hV.up e9 e16 hj, pm_ri_ok]
        show (if DV h j = 0 then _ else _) = some (some (Value.int (DV h j)), (SH, h2))
        rcases DV_01 h j with z | z
        · rw [if_pos z, z]; rfl
        · rw [z]; rfl
    refine ⟨-1000000001, pm_up h 1 1 (h 1 1 + nI 1), _, ?_, ?_, n, m, q, hi.fnd 1⟩
    · rw [qX7_about_0, c_has n7, pm_ri_ok, hr, bI_t, if_neg c0, if_neg c1, if_neg c2, if_neg c3, if_neg c4, if_neg c5, if_neg c6, if_neg c7, if_neg c8, if_neg c9, c_find (k := 1) (by decide) f_1, pm_ri_ok]
    · rw [qX8_about_0, c_isS (n39 (pm_up_ne (by decide))) hn, pm_ri_ok, hr, bI_t, if_neg c0, if_neg c1, if_neg c2, if_neg c3, if_neg c4, if_neg c5, if_neg c6, if_neg c7, if_neg c8, if_neg c9, c_finds (by decide), pm_ri_ok, g_1]
/-! counts -/
theorem cd_c {d : Nat} {h : pmH} {n : Nat} (hn : n ≤ 24) (n7 : h 7 0 = nI n) (h01 : ∀ j, j < n → h 16 j = 0 ∨ h 16 j = 1) : ∀ (m i : Nat), i + m = n → pm_Ev sl xs (d + 1) 92 4 [some (.ref 1), some (.int (sumF (h 16) i)), some (.int (nI i))] [] (SH, h) = some (some (.int (sumF (h 16) n)), (SH, h))
  | 0, i, hi => by
    have z : i = n := by omega
    subst z
    rw [qX7_countDead_4, n7, if_pos (nI_le (by omega) (by omega))]
  | m + 1, i, hi => by
    rw [qX7_countDead_4, n7, if_neg (nI_ge (by omega) (by omega)), pm_ix_nI (by omega) (by decide), c_bit (h01 i (by omega)), pm_ri_ok, nI_add]
    exact cd_c hn n7 h01 m (i + 1) (by omega)
theorem cd_m {d : Nat} {h : pmH} {n : Nat} {b1 : Int32} {f : Nat → Int32} (hn : n ≤ 24) (n39 : h 39 1 = nI n) (e16 : h 53 = f) (h01 : ∀ j, j < n → f j = 0 ∨ f j = 1) : ∀ (m i : Nat), i + m = n → pm_Ev sl xs (d + 1) 147 52 [some (.ref 40), some (.int b1), some (.int (sumF f i)), some (.int (nI i))] [] (SH, h) = some (some (.int (sumF f n)), (SH, h))
  | 0, i, hi => by
    have z : i = n := by omega
    subst z
    rw [qX8_count_52, n39, if_pos (nI_le (by omega) (by omega))]
  | m + 1, i, hi => by
    have ih := cd_m (d := d) (b1 := b1) hn n39 e16 h01 m (i + 1) (by omega)
    rw [qX8_count_52, n39, if_neg (nI_ge (by omega) (by omega)), pm_ix_nI (by omega) (by decide), e16, nI_add]
    rcases h01 i (by omega) with z | z
    · rw [if_pos z]
      have e : sumF f (i + 1) = sumF f i + nI 0 := by rw [sumF, z]; rfl
      rw [← e]; exact ih
    · rw [if_neg (by rw [z]; decide)]
      have e : sumF f (i + 1) = sumF f i + nI 1 := by rw [sumF, z]; rfl
      rw [← e]; exact ih
theorem ck_c {d : Nat} {h : pmH} {n : Nat} {f : Nat → Int32} (hn : n ≤ 24) (n7 : h 7 0 = nI n) (hf : ∀ j, j < n → h 21 j = f j) (h01 : ∀ j, j < n → f j = 0 ∨ f j = 1) : ∀ (m i : Nat), i + m = n → pm_Ev sl xs (d + 1) 93 11 [some (.ref 1), some (.int (sumF f i)), some (.int (nI i))] [] (SH, h) = some (some (.int (sumF f n)), (SH, h))
  | 0, i, hi => by
    have z : i = n := by omega
    subst z
    rw [qX7_countDark_11, n7, if_pos (nI_le (by omega) (by omega))]
  | m + 1, i, hi => by
    rw [qX7_countDark_11, n7, if_neg (nI_ge (by omega) (by omega)), pm_ix_nI (by omega) (by decide), hf i (by omega), c_bit (h01 i (by omega)), pm_ri_ok, nI_add]
    exact ck_c hn n7 hf h01 m (i + 1) (by omega)
theorem ck_m {d : Nat} {h : pmH} {n : Nat} {b1 : Int32} {up dead : Nat → Int32} (hn : n ≤ 24) (n39 : h 39 1 = nI n) (hU : UPok up n) (e9 : h 44 = up) (e16 : h 53 = dead) : ∀ (m i : Nat), i + m = n → pm_Ev sl xs (d + 1) 147 87 [some (.ref 40), some (.int b1), some (.int (sumF (dk up dead) i)), some (.int (nI i))] [] (SH, h) = some (some (.int (sumF (dk up dead) n)), (SH, h))
  | 0, i, hi => by
    have z : i = n := by omega
    subst z
    rw [qX8_count_87, n39, if_pos (nI_le (by omega) (by omega))]
  | m + 1, i, hi => by
    have ih := ck_m (d := d) (b1 := b1) hn n39 hU e9 e16 m (i + 1) (by omega)
    rw [qX8_count_87, n39, if_neg (nI_ge (by omega) (by omega)), c_isDark hn hU e9 e16 (by omega), pm_ri_ok, nI_add]
    rcases dk_01 (up := up) (dead := dead) (i + 1) i with z | z
    · have z : dk up dead i = nI 0 := z
      rw [if_pos (show dk up dead i = 0 from z)]
      have e : sumF (dk up dead) (i + 1) = sumF (dk up dead) i + nI 0 := by rw [sumF, z]
      rw [← e]; exact ih
    · have z : dk up dead i = nI 1 := z
      rw [if_neg (by rw [z]; exact z10)]
      have e : sumF (dk up dead) (i + 1) = sumF (dk up dead) i + nI 1 := by rw [sumF, z]
      rw [← e]; exact ih
theorem step_count {a : Int32} : Step sl xs 83 147 [.int a] := by
  intro d h ⟨n, m, q, hi⟩
  have hn : n ≤ 24 := hi.1.1
  have hm : m ≤ 12 := hi.1.2.1
  have n7 := hi.n7
  have n39 : ∀ {x : pmH}, x 39 = h 39 → x 39 1 = nI n := fun e => by rw [e]; exact hi.n39
  have hV : VS h n := hi.2.2.2.1
  have m2 : h 2 0 = nI m := hi.2.2.1.2.1.1
  have m39 : h 39 0 = nI m := hi.2.2.1.2.1.2
  have q37 : h 37 0 = nI q := hi.2.2.1.2.2.1.1
  have q39 : h 39 6 = nI q := hi.2.2.1.2.2.1.2
  have h01 : ∀ j, j < n → h 16 j = 0 ∨ h 16 j = 1 := fun j hj => (hV j hj).2.2.2.2.2.2.2.2
  by_cases c0 : a = nI 0
  · refine ⟨nI n, h, h, ?_, ?_, n, m, q, hi⟩
    · rw [qX7_count_0, if_pos c0, n7]
    · rw [qX8_count_0, if_pos c0, n39 rfl]
  by_cases c1 : a = nI 1
  · refine ⟨nI m, h, h, ?_, ?_, n, m, q, hi⟩
    · rw [qX7_count_0, if_neg c0, if_pos c1, m2]
    · rw [qX8_count_0, if_neg c0, if_pos c1, m39]
  by_cases c2 : a = nI 2
  · refine ⟨sumF (h 16) n, h, h, ?_, ?_, n, m, q, hi⟩
    · rw [qX7_count_0, if_neg c0, if_neg c1, if_pos c2, qX7_countDead_0, show (nI 0 : Int32) = sumF (h 16) 0 from rfl]
      rw [show pm_Ev sl xs (d + 37 + 1) 92 4 [some (.ref 1), some (.int (sumF (h 16) 0)), some (.int (sumF (h 16) 0))] [] (SH, h) = some (some (.int (sumF (h 16) n)), (SH, h)) from cd_c hn n7 h01 n 0 (by omega), pm_ri_ok]
    · rw [qX8_count_0, if_neg c0, if_neg c1, if_pos c2]
      exact cd_m (f := h 16) hn (n39 rfl) (hi.eq (by decide)).symm h01 n 0 (by omega)
  by_cases c3 : a = nI 3
  · obtain ⟨h2, a1, a2, a3, -⟩ := c_survey (sl := sl) (xs := xs) (d := d + 35) hn n7 hV
    have e9 : h2 44 = h 9 := by rw [a2 44 (by decide)]; exact (hi.eq (by decide)).symm
    have e16 : h2 53 = h 16 := by rw [a2 53 (by decide)]; exact (hi.eq (by decide)).symm
    refine ⟨sumF (DV h) n, h2, h2, ?_, ?_, n, m, q, hi.frame (FR_survey a2)⟩
    · rw [qX7_count_0, if_neg c0, if_neg c1, if_neg c2, if_pos c3, qX7_countDark_0, a1, pm_rv_ok]
      have h9 := ck_c (sl := sl) (xs := xs) (d := d + 37) (h := h2) (f := DV h) hn (by rw [a2 7 (by decide)]; exact n7) a3 (fun j _ => DV_01 h j) n 0 (by omega)
      have h9 : pm_Ev sl xs (d + 37 + 1) 93 11 [some (.ref 1), some (.int (nI 0)), some (.int (nI 0))] [] (SH, h2) = some (some (.int (sumF (DV h) n)), (SH, h2)) := h9
      rw [h9, pm_ri_ok]
    · rw [qX8_count_0, if_neg c0, if_neg c1, if_neg c2, if_pos c3]
      exact ck_m hn (n39 (a2 39 (by decide))) hV.up e9 e16 n 0 (by omega)
  by_cases c4 : a = nI 4
  · refine ⟨nI q, h, h, ?_, ?_, n, m, q, hi⟩
    · rw [qX7_count_0, if_neg c0, if_neg c1, if_neg c2, if_neg c3, if_pos c4, q37]
    · rw [qX8_count_0, if_neg c0, if_neg c1, if_neg c2, if_neg c3, if_pos c4, q39]
  by_cases c5 : a = nI 5
  · refine ⟨sumF (h 4) m, h, h, ?_, ?_, n, m, q, hi⟩
    · rw [qX7_count_0, if_neg c0, if_neg c1, if_neg c2, if_neg c3, if_neg c4, if_pos c5, c_allLeft hm m2, pm_ri_ok]
    · rw [qX8_count_0, if_neg c0, if_neg c1, if_neg c2, if_neg c3, if_neg c4, if_pos c5, c_lampsLeft hm m39, pm_ri_ok, hi.eq (k := 4) (k2 := 41) (by decide)]
  refine ⟨-1000000001, pm_up h 1 1 (h 1 1 + nI 1), _, ?_, ?_, n, m, q, hi.fnd 1⟩
  · rw [qX7_count_0, if_neg c0, if_neg c1, if_neg c2, if_neg c3, if_neg c4, if_neg c5, c_find (k := 1) (by decide) f_1, pm_ri_ok]
  · rw [qX8_count_0, if_neg c0, if_neg c1, if_neg c2, if_neg c3, if_neg c4, if_neg c5, c_finds (by decide), pm_ri_ok, g_1]
end ABOUT
