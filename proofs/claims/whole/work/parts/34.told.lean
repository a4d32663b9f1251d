/-! told -/
def wrV (f k w fl mo be g : Int32) : Int32 := if ¬ f ≤ 0 ∧ ¬ w ≤ f then nI 1 else if k = nI 1 ∧ (f = 0 ∨ ¬ f ≤ nI 500) then nI 2 else if ¬ fl ≤ mo then nI 3 else if ¬ f ≤ be then nI 4 else if g = 0 then nI 5 else if g ≤ be then nI 0 else nI 6
theorem VS.f0 {h : pmH} {n j : Nat} (hV : VS h n) (hj : j < n) : (h 15 j ≤ 0 ↔ h 15 j = 0) ∧ (h 15 j ≤ 0 ∨ 0 < h 15 j) := by
  obtain ⟨-, -, -, -, -, -, -, ⟨k, k1, k2⟩, -⟩ := hV j hj
  rw [k2, Int32.le_iff_toInt_le, Int32.lt_iff_toInt_lt, ← Int32.toInt_inj, nI_toInt (by omega), Int32.toInt_zero]
  omega
theorem gd_eq {h : pmH} {n s : Nat} (hn : n ≤ 24) (hV : VS h n) (hs : s < n) : gdV h s = if h 15 s = 0 then (if h 9 s < 0 then nI 0 else gdV h (upI (h 9) s)) else h 15 s := by
  have e : gdV h s = if h 9 s < 0 then (if h 15 s ≤ 0 then nI 0 else h 15 s) else (if h 15 s ≤ 0 then gdV h (upI (h 9) s) else h 15 s) := tr_eq hn hV.up hs
  rw [e]
  have h0 := (hV.f0 hs).1
  by_cases a : h 15 s = 0
  · rw [if_pos (h0.mpr a), if_pos (h0.mpr a), if_pos a]
  · rw [if_neg (fun z => a (h0.mp z)), if_neg (fun z => a (h0.mp z)), if_neg a]
    by_cases b : h 9 s < 0
    · rw [if_pos b]
    · rw [if_neg b]
theorem ldS_row {h h2 : pmH} (e : ∀ k, 8 ≤ k → k ≤ 16 → h2 k = h k) : ldS h2 = ldS h := funext fun j => ldS_cg (e 8 (by decide) (by decide)) (e 13 (by decide) (by decide)) (e 14 (by decide) (by decide))
theorem WV_row {h h2 : pmH} {n : Nat} (e : ∀ k, 8 ≤ k → k ≤ 16 → h2 k = h k) : WV h2 n = WV h n := by unfold WV; rw [ldS_row e, e 9 (by decide) (by decide)]
theorem DV_row {h h2 : pmH} (e : ∀ k, 8 ≤ k → k ≤ 16 → h2 k = h k) : DV h2 = DV h := by unfold DV; rw [e 16 (by decide) (by decide), e 9 (by decide) (by decide)]
theorem CV_row {h h2 : pmH} {n : Nat} (e : ∀ k, 8 ≤ k → k ≤ 16 → h2 k = h k) : CV h2 n = CV h n := by unfold CV; rw [ldS_row e, DV_row e, e 9 (by decide) (by decide)]
theorem flV_row {h h2 : pmH} {w : Nat → Int32} (e : ∀ k, 8 ≤ k → k ≤ 16 → h2 k = h k) : flV h2 w = flV h w := by
  have e1 : ownF h2 w = ownF h w := funext fun j => by unfold ownF; rw [e 11 (by decide) (by decide), e 12 (by decide) (by decide)]
  unfold flV; rw [e1, e 9 (by decide) (by decide)]
theorem gdV_row {h h2 : pmH} (e : ∀ k, 8 ≤ k → k ≤ 16 → h2 k = h k) : gdV h2 = gdV h := by unfold gdV; rw [e 15 (by decide) (by decide), e 9 (by decide) (by decide)]
section TOLD
variable {sl : Nat} {xs : Nat → Int32}
theorem c_wrong {d : Nat} {h : pmH} {j : Nat} (hj : j < 24) : pm_cf (pm_Ev sl xs) (d + 2) 9 [.ref 21, .int (nI j)] (SH, h) = some (some (.int (wrV (h 15 j) (h 8 j) (h 23 j) (h 24 j) (h 20 1) (nI 500 * h 12 j) (h 25 j))), (SH, h)) := by
  have ix : ∀ (t : Nat → Option pmR), pm_ix none (nI j) 24 t = t j := fun t => pm_ix_nI hj (by decide)
  have hb : pm_cf (pm_Ev sl xs) (d + 1) 47 [.ref 8, .int (nI j)] (SH, h) = some (some (.int (nI 500 * h 12 j)), (SH, h)) := by rw [qX5_bears_0, ix]
  rw [qX1_wrong_0]
  simp only [ix, hb, pm_ri_ok]
  unfold wrV
  generalize h 15 j = f; generalize h 8 j = k; generalize h 23 j = w; generalize h 24 j = fl; generalize h 20 1 = mo; generalize nI 500 * h 12 j = be; generalize h 25 j = g
  by_cases a1 : f ≤ 0
  · by_cases a3 : k = nI 1
    · by_cases a4 : f = 0
      · simp only [a1, a3, a4, if_true, not_true, false_and, if_false, true_and, true_or]
        simp
      · by_cases a5 : f ≤ nI 500 <;> by_cases a6 : fl ≤ mo <;> by_cases a7 : f ≤ be <;> by_cases a8 : g = 0 <;> by_cases a9 : g ≤ be <;> simp [a1, a3, a4, a5, a6, a7, a8, a9]
    · by_cases a6 : fl ≤ mo <;> by_cases a7 : f ≤ be <;> by_cases a8 : g = 0 <;> by_cases a9 : g ≤ be <;> simp [a1, a3, a6, a7, a8, a9]
  · by_cases a2 : w ≤ f
    · by_cases a3 : k = nI 1
      · by_cases a4 : f = 0 <;> by_cases a5 : f ≤ nI 500 <;> by_cases a6 : fl ≤ mo <;> by_cases a7 : f ≤ be <;> by_cases a8 : g = 0 <;> by_cases a9 : g ≤ be <;> simp [a1, a2, a3, a4, a5, a6, a7, a8, a9]
      · by_cases a6 : fl ≤ mo <;> by_cases a7 : f ≤ be <;> by_cases a8 : g = 0 <;> by_cases a9 : g ≤ be <;> simp [a1, a2, a3, a6, a7, a8, a9]
    · simp [a1, a2]
theorem wrong_w {d : Nat} {g h : pmH} {n j : Nat} (hn : n ≤ 24) (hV : VS h n) (hj : j < n) (e9 : g 44 = h 9) (e12 : g 47 = h 12) (e15 : g 50 = h 15) (hbe : h 15 j ≤ nI 500 * h 12 j) : ∀ (b s : Nat), s < b → s < n → pm_Ev sl xs (d + 1) 112 92 [some (.ref 40), some (.int (nI j)), some (.int (nI s))] [] (SH, g) = some (some (.int (if gdV h s = 0 then nI 5 else if gdV h s ≤ nI 500 * h 12 j then nI 0 else nI 6)), (SH, g))
  | 0, s, h1, _ => absurd h1 (Nat.not_lt_zero _)
  | b + 1, s, h1, h2 => by
    have ixs : ∀ (t : Nat → Option pmR), pm_ix none (nI s) 24 t = t s := fun t => pm_ix_nI (by omega) (by decide)
    have hb : pm_cf (pm_Ev sl xs) (d + 1) 111 [.ref 40, .int (nI j)] (SH, g) = some (some (.int (nI 500 * h 12 j)), (SH, g)) := by rw [qX8_bears_0, pm_ix_nI (by omega) (by decide), e12]
    have hnn : ¬ nI s < 0 := nI_pos (by omega)
    have hge := gd_eq hn hV h2
    rw [qX8_wrong_92, if_neg hnn, ixs, e15]
    by_cases hf : h 15 s = 0
    · rw [if_pos hf] at hge
      rw [if_pos hf, ixs, e9]
      by_cases hu : h 9 s < 0
      · rw [if_pos hu] at hge
        rw [qX8_wrong_92, if_pos hu, if_neg (fun z => (ge0 _).mp z hu), hge, if_pos z00]
      · obtain ⟨h3, h4⟩ := hV.up.lt hn h2 hu
        rw [if_neg hu] at hge
        rw [h4, hge]
        exact wrong_w hn hV hj e9 e12 e15 hbe b _ (by omega) (by omega)
    · rw [if_neg hf] at hge
      rw [if_neg hf, if_pos ((ge0 _).mpr hnn), hge, if_neg hf]
      by_cases hsj : s = j
      · subst hsj
        rw [if_pos rfl, if_pos hbe]
      · rw [if_neg (fun z => hsj ((nI_eq (by omega) (by omega)).mp z)), ixs, hb, pm_ri_ok]
        by_cases hl : h 15 s ≤ nI 500 * h 12 j
        · rw [if_pos hl, if_pos hl]
        · rw [if_neg hl, if_neg hl]
theorem m_wrong {d : Nat} {g h : pmH} {n j : Nat} (hn : n ≤ 24) (hV : VS h n) (hj : j < n) (e8 : g 43 = h 8) (e9 : g 44 = h 9) (e12 : g 47 = h 12) (e15 : g 50 = h 15) : pm_cf (pm_Ev sl xs) (d + 2) 112 [.ref 40, .int (nI j)] (SH, g) = some (some (.int (wrV (h 15 j) (h 8 j) (g 61 j) (g 62 j) (g 39 2) (nI 500 * h 12 j) (gdV h j))), (SH, g)) := by
  have ix : ∀ (t : Nat → Option pmR), pm_ix none (nI j) 24 t = t j := fun t => pm_ix_nI (by omega) (by decide)
  have hb : pm_cf (pm_Ev sl xs) (d + 1) 111 [.ref 40, .int (nI j)] (SH, g) = some (some (.int (nI 500 * h 12 j)), (SH, g)) := by rw [qX8_bears_0, ix, e12]
  have hw := wrong_w (sl := sl) (xs := xs) (d := d) (g := g) hn hV hj e9 e12 e15
  rw [qX8_wrong_0]
  simp only [ix, hb, pm_ri_ok, e8, e15]
  unfold wrV
  by_cases a7 : h 15 j ≤ nI 500 * h 12 j
  · have hw2 := hw a7 (j + 1) j (by omega) hj
    simp only [hw2]
    revert a7
    generalize h 15 j = f; generalize h 8 j = k; generalize g 61 j = w; generalize g 62 j = fl; generalize g 39 2 = mo; generalize nI 500 * h 12 j = be; generalize gdV h j = gg
    intro a7
    by_cases a1 : f ≤ 0
    · by_cases a3 : k = nI 1
      · by_cases a4 : f = 0
        · simp [a1, a3, a4]
        · by_cases a5 : f ≤ nI 500 <;> by_cases a6 : fl ≤ mo <;> simp [a1, a3, a4, a5, a6, a7]
      · by_cases a6 : fl ≤ mo <;> simp [a1, a3, a6, a7]
    · by_cases a2 : w ≤ f
      · by_cases a3 : k = nI 1
        · by_cases a4 : f = 0 <;> by_cases a5 : f ≤ nI 500 <;> by_cases a6 : fl ≤ mo <;> simp [a1, a2, a3, a4, a5, a6, a7]
        · by_cases a6 : fl ≤ mo <;> simp [a1, a2, a3, a6, a7]
      · simp [a1, a2]
  · simp only [a7, if_false]
    revert a7
    generalize h 15 j = f; generalize h 8 j = k; generalize g 61 j = w; generalize g 62 j = fl; generalize g 39 2 = mo; generalize nI 500 * h 12 j = be; generalize gdV h j = gg
    intro a7
    by_cases a1 : f ≤ 0
    · by_cases a3 : k = nI 1
      · by_cases a4 : f = 0
        · simp [a1, a3, a4]
        · by_cases a5 : f ≤ nI 500 <;> by_cases a6 : fl ≤ mo <;> simp [a1, a3, a4, a5, a6, a7]
      · by_cases a6 : fl ≤ mo <;> simp [a1, a3, a6, a7]
    · by_cases a2 : w ≤ f
      · by_cases a3 : k = nI 1
        · by_cases a4 : f = 0 <;> by_cases a5 : f ≤ nI 500 <;> by_cases a6 : fl ≤ mo <;> simp [a1, a2, a3, a4, a5, a6, a7]
        · by_cases a6 : fl ≤ mo <;> simp [a1, a2, a3, a6, a7]
      · simp [a1, a2]
theorem step_told {a c : Int32} : Step sl xs 60 113 [.int a, .int c] := by
  intro d h ⟨n, m, q, hi⟩
  have hn : n ≤ 24 := hi.1.1
  have n7 := hi.n7
  have n39 : ∀ {x : pmH}, x 39 = h 39 → x 39 1 = nI n := fun e => by rw [e]; exact hi.n39
  have hV : VS h n := hi.2.2.2.1
  cases hr : inS a n with
  | false =>
    refine ⟨-1000000001, pm_up h 1 1 (h 1 1 + nI 1), _, ?_, ?_, n, m, q, hi.fnd 1⟩
    · rw [qX7_told_0, c_has n7, pm_ri_ok, hr, bI_f, c_find (k := 1) (by decide) f_1, pm_ri_ok]
    · rw [qX8_told_0, c_isS (n39 (pm_up_ne (by decide))) hn, pm_ri_ok, hr, bI_f, c_finds (by decide), pm_ri_ok, g_1]
  | true =>
    cases hr2 : inR c (nI 0) (nI 3) with
    | false =>
      refine ⟨-1000000001, pm_up h 1 1 (h 1 1 + nI 1), _, ?_, ?_, n, m, q, hi.fnd 1⟩
      · rw [qX7_told_0, c_has n7, pm_ri_ok, hr, bI_t, c_within, pm_ri_ok, hr2, bI_f, c_find (k := 1) (by decide) f_1, pm_ri_ok]
      · rw [qX8_told_0, c_isS (n39 (pm_up_ne (by decide))) hn, pm_ri_ok, hr, bI_t, c_in, pm_ri_ok, hr2, bI_f, c_finds (by decide), pm_ri_ok, g_1]
    | true =>
      obtain ⟨j, hj, rfl⟩ := inS_nat (by omega) hr
      have ix : ∀ (t : Nat → Option pmR), pm_ix none (nI j) 24 t = t j := fun t => pm_ix_nI (by omega) (by decide)
      obtain ⟨h2, a1, a2, -, a4, a5, a6, a7⟩ := c_survey (sl := sl) (xs := xs) (d := d + 36) hn n7 hV
      have er : ∀ k, 8 ≤ k → k ≤ 16 → h2 k = h k := fun k k1 k2 => a2 k (by omega)
      have hV2 : VS h2 n := hV.cg er
      have hi2 : InvN h2 n m q := hi.frame (FR_survey a2)
      obtain ⟨h3, b1, b2, b3, b4, b5⟩ := c_flow (sl := sl) (xs := xs) (d := d + 37) (h := h2) hn hi2.n39 hV2 (hi2.eq (by decide)).symm (hi2.eq (by decide)).symm (hi2.eq (by decide)).symm (hi2.eq (by decide)).symm (hi2.eq (by decide)).symm (hi2.eq (by decide)).symm (hi2.eq (by decide)).symm
      rw [CV_row er] at b3
      rw [WV_row er] at b4
      rw [WV_row er, flV_row er] at b5
      have hi3 : InvN h3 n m q := hi2.frame (FR_flow b2)
      by_cases c0 : c = nI 0
      · refine ⟨CV h n j, h2, h3, ?_, ?_, n, m, q, hi3⟩
        · rw [qX7_told_0, c_has n7, pm_ri_ok, hr, bI_t, c_within, pm_ri_ok, hr2, bI_t, a1, pm_rv_ok, if_pos c0, ix, a4 j hj]
        · rw [qX8_told_0, c_isS hi2.n39 hn, pm_ri_ok, hr, bI_t, c_in, pm_ri_ok, hr2, bI_t, b1, pm_rv_ok, if_pos (show c = 0 from c0), ix, b3 j hj]
      by_cases c1 : c = nI 1
      · refine ⟨WV h n j, h2, h3, ?_, ?_, n, m, q, hi3⟩
        · rw [qX7_told_0, c_has n7, pm_ri_ok, hr, bI_t, c_within, pm_ri_ok, hr2, bI_t, a1, pm_rv_ok, if_neg c0, if_pos c1, ix, a5 j hj]
        · rw [qX8_told_0, c_isS hi2.n39 hn, pm_ri_ok, hr, bI_t, c_in, pm_ri_ok, hr2, bI_t, b1, pm_rv_ok, if_neg (show ¬ c = 0 from c0), if_pos c1, ix, b4 j hj]
      by_cases c2 : c = nI 2
      · refine ⟨flV h (WV h n) j, h2, h3, ?_, ?_, n, m, q, hi3⟩
        · rw [qX7_told_0, c_has n7, pm_ri_ok, hr, bI_t, c_within, pm_ri_ok, hr2, bI_t, a1, pm_rv_ok, if_neg c0, if_neg c1, if_pos c2, ix, a6 j hj]
        · rw [qX8_told_0, c_isS hi2.n39 hn, pm_ri_ok, hr, bI_t, c_in, pm_ri_ok, hr2, bI_t, b1, pm_rv_ok, if_neg (show ¬ c = 0 from c0), if_neg c1, if_pos c2, ix, b5 j hj]
      · have e3 : ∀ k, k < 60 → h3 k = h2 k := fun k hk => b2 k (by omega)
        refine ⟨wrV (h 15 j) (h 8 j) (WV h n j) (flV h (WV h n) j) (h 20 1) (nI 500 * h 12 j) (gdV h j), h2, h3, ?_, ?_, n, m, q, hi3⟩
        · rw [qX7_told_0, c_has n7, pm_ri_ok, hr, bI_t, c_within, pm_ri_ok, hr2, bI_t, a1, pm_rv_ok, if_neg c0, if_neg c1, if_neg c2, c_wrong (by omega), pm_ri_ok, a5 j hj, a6 j hj, a7 j hj, a2 15 (by decide), a2 8 (by decide), a2 20 (by decide), a2 12 (by decide)]
        · rw [qX8_told_0, c_isS hi2.n39 hn, pm_ri_ok, hr, bI_t, c_in, pm_ri_ok, hr2, bI_t, b1, pm_rv_ok, if_neg (show ¬ c = 0 from c0), if_neg c1, if_neg c2, m_wrong (h := h2) hn hV2 hj (by rw [e3 43 (by decide)]; exact (hi2.eq (by decide)).symm) (by rw [e3 44 (by decide)]; exact (hi2.eq (by decide)).symm) (by rw [e3 47 (by decide)]; exact (hi2.eq (by decide)).symm) (by rw [e3 50 (by decide)]; exact (hi2.eq (by decide)).symm), pm_ri_ok, b4 j hj, b5 j hj, e3 39 (by decide), gdV_row er, a2 15 (by decide), a2 8 (by decide), a2 12 (by decide), a2 39 (by decide), hi.2.2.1.2.2.2.1]
end TOLD
