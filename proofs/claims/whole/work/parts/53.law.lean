/-! the law's loop; the start -/
theorem hI_zero : ∀ k ∈ [1, 58, 3, 40, 4, 41, 5, 42, 8, 43, 9, 44, 10, 45, 11, 46, 12, 47, 13, 48, 14, 49, 15, 50, 16, 53, 17, 51, 18, 52, 19, 54, 36, 56, 38, 57, 30, 59, 6], hI k = fun _ => 0 := by
  intro k hk
  simp only [List.mem_cons, List.not_mem_nil, or_false] at hk
  rcases hk with rfl | rfl | rfl | rfl | rfl | rfl | rfl | rfl | rfl | rfl | rfl | rfl | rfl | rfl | rfl | rfl | rfl | rfl | rfl | rfl | rfl | rfl | rfl | rfl | rfl | rfl | rfl | rfl | rfl | rfl | rfl | rfl | rfl | rfl | rfl | rfl | rfl | rfl | rfl <;> rfl
theorem hI_rows : hI 29 = hI 55 := rfl
theorem Inv_0 : Inv hI := by
  refine ⟨0, 0, 0, InvN.of ⟨by decide, by decide, by decide⟩ ?_ ?_ ⟨?_, ?_, ?_, ?_, ?_, ?_⟩ ?_ ?_⟩
  · have key : ∀ p ∈ prs, p = (29, 55) ∨ (p.1 ∈ [1, 58, 3, 40, 4, 41, 5, 42, 8, 43, 9, 44, 10, 45, 11, 46, 12, 47, 13, 48, 14, 49, 15, 50, 16, 53, 17, 51, 18, 52, 19, 54, 36, 56, 38, 57, 30, 59, 6] ∧ p.2 ∈ [1, 58, 3, 40, 4, 41, 5, 42, 8, 43, 9, 44, 10, 45, 11, 46, 12, 47, 13, 48, 14, 49, 15, 50, 16, 53, 17, 51, 18, 52, 19, 54, 36, 56, 38, 57, 30, 59, 6]) := by decide
    intro p hp
    rcases key p hp with rfl | ⟨h1, h2⟩
    · exact hI_rows
    · rw [hI_zero _ h1, hI_zero _ h2]
  · unfold SC
    refine ⟨⟨rfl, rfl⟩, ⟨rfl, rfl⟩, ⟨rfl, rfl⟩, rfl, rfl, rfl, rfl⟩
  · intro j hj; exact absurd hj (Nat.not_lt_zero _)
  · intro j _; rw [hI_zero 15 (by decide), hI_zero 16 (by decide)]; exact ⟨rfl, rfl⟩
  · intro j hj; exact absurd hj (Nat.not_lt_zero _)
  · intro s p hs; exact absurd hs (Nat.not_lt_zero _)
  · exact ⟨fun j hj => absurd hj (Nat.not_lt_zero _), fun i j hi => absurd hi (Nat.not_lt_zero _)⟩
  · intro c hc; rw [hI_zero 6 (by decide)]; rfl
  · exact ⟨⟨1, by decide, by decide, rfl⟩, ⟨6, by decide, by decide, rfl⟩⟩
  · exact ⟨fun j hj => ⟨0, by decide, by rw [hI_zero 36 (by decide)]; rfl⟩, ⟨50, by decide, rfl⟩⟩
set_option maxHeartbeats 4000000 in
theorem law_loop {sl : Nat} {xs : Nat → Int32} {d : Nat} (hsl : sl ≤ 3584) : ∀ (f i : Nat) (h : pmH), sl < i + f → i ≤ 10000 → Inv h → ∃ h2, pm_Ev sl xs (d + 40) 152 18 [some (.ref 0), some (.ref 1), some (.ref 40), some (.int (nI i))] [] (SH, h) = some (some (.int (nI 1)), (SH, h2)) := by
  intro f
  induction f with
  | zero =>
    intro i h hf hi _
    refine ⟨h, ?_⟩
    rw [qL_law_18, if_pos]
    rw [Int32.lt_iff_toInt_lt, pk_sub_toInt (by omega) (by decide), nI_toInt (by omega)]
    omega
  | succ f ih =>
    intro i h hf hi hI
    by_cases hend : sl < i + 7
    · refine ⟨h, ?_⟩
      rw [qL_law_18, if_pos]
      rw [Int32.lt_iff_toInt_lt, pk_sub_toInt (by omega) (by decide), nI_toInt (by omega)]
      omega
    · have hne : ¬ (nI sl - nI 7) < nI i := by
        rw [Int32.lt_iff_toInt_lt, pk_sub_toInt (by omega) (by decide), nI_toInt (by omega)]
        omega
      have i0 : ∀ (t : Nat → Option pmR), pm_ix none (nI i) sl t = t i := fun t => pm_ix_nI (by omega) (by omega)
      have i1 : ∀ (t : Nat → Option pmR), pm_ix none (nI i + nI 1) sl t = t (i + 1) := fun t => by rw [nI_add]; exact pm_ix_nI (by omega) (by omega)
      have i2 : ∀ (t : Nat → Option pmR), pm_ix none (nI i + nI 2) sl t = t (i + 2) := fun t => by rw [nI_add]; exact pm_ix_nI (by omega) (by omega)
      have i3 : ∀ (t : Nat → Option pmR), pm_ix none (nI i + nI 3) sl t = t (i + 3) := fun t => by rw [nI_add]; exact pm_ix_nI (by omega) (by omega)
      have i4 : ∀ (t : Nat → Option pmR), pm_ix none (nI i + nI 4) sl t = t (i + 4) := fun t => by rw [nI_add]; exact pm_ix_nI (by omega) (by omega)
      have i5 : ∀ (t : Nat → Option pmR), pm_ix none (nI i + nI 5) sl t = t (i + 5) := fun t => by rw [nI_add]; exact pm_ix_nI (by omega) (by omega)
      have i6 : ∀ (t : Nat → Option pmR), pm_ix none (nI i + nI 6) sl t = t (i + 6) := fun t => by rw [nI_add]; exact pm_ix_nI (by omega) (by omega)
      have go : ∀ (h2 : pmH), Inv h2 → ∃ h3, pm_Ev sl xs (d + 40) 152 18 [some (.ref 0), some (.ref 1), some (.ref 40), some (.int (nI i + nI 7))] [] (SH, h2) = some (some (.int (nI 1)), (SH, h3)) := fun h2 hh => by rw [nI_add]; exact ih (i + 7) h2 (by omega) (by omega) hh
      rw [qL_law_18, if_neg hne, i0]
      by_cases c0 : (xs i &&& nI 31) = nI 0
      · obtain ⟨r, h1, h2, e1, e2, e3⟩ := step_crate (sl := sl) (xs := xs) (a := xs (i + 1)) d h hI
        rw [if_pos c0, i1, e1, pm_ri_ok, i1, e2, pm_ri_ok, if_pos rfl]
        exact go h2 e3
      rw [if_neg c0]
      by_cases c1 : (xs i &&& nI 31) = nI 1
      · obtain ⟨r, h1, h2, e1, e2, e3⟩ := step_string (sl := sl) (xs := xs) (a0 := xs (i + 1)) (a1 := xs (i + 2)) (a2 := xs (i + 3)) (a3 := xs (i + 4)) (a4 := xs (i + 5)) (a5 := xs (i + 6)) d h hI
        rw [if_pos c1, i1, i2, i3, i4, i5, i6, e1, pm_ri_ok, i1, i2, i3, i4, i5, i6, e2, pm_ri_ok, if_pos rfl]
        exact go h2 e3
      rw [if_neg c1]
      by_cases c2 : (xs i &&& nI 31) = nI 2
      · obtain ⟨r, h1, h2, e1, e2, e3⟩ := step_fuse (sl := sl) (xs := xs) (a := xs (i + 1)) (c := xs (i + 2)) d h hI
        rw [if_pos c2, i1, i2, e1, pm_ri_ok, i1, i2, e2, pm_ri_ok, if_pos rfl]
        exact go h2 e3
      rw [if_neg c2]
      by_cases c3 : (xs i &&& nI 31) = nI 3
      · obtain ⟨r, h1, h2, e1, e2, e3⟩ := step_dead (sl := sl) (xs := xs) (a := xs (i + 1)) (c := xs (i + 2)) d h hI
        rw [if_pos c3, i1, i2, e1, pm_ri_ok, i1, i2, e2, pm_ri_ok, if_pos rfl]
        exact go h2 e3
      rw [if_neg c3]
      by_cases c4 : (xs i &&& nI 31) = nI 4
      · obtain ⟨r, h1, h2, e1, e2, e3⟩ := step_about (sl := sl) (xs := xs) (a := xs (i + 1)) (c := xs (i + 2)) d h hI
        rw [if_pos c4, i1, i2, e1, pm_ri_ok, i1, i2, e2, pm_ri_ok, if_pos rfl]
        exact go h2 e3
      rw [if_neg c4]
      by_cases c5 : (xs i &&& nI 31) = nI 5
      · obtain ⟨r, h1, h2, e1, e2, e3⟩ := step_as (sl := sl) (xs := xs) (a := xs (i + 1)) (c := xs (i + 2)) d h hI
        rw [if_pos c5, i1, i2, e1, pm_ri_ok, i1, i2, e2, pm_ri_ok, if_pos rfl]
        exact go h2 e3
      rw [if_neg c5]
      by_cases c6 : (xs i &&& nI 31) = nI 6
      · obtain ⟨r, h1, h2, e1, e2, e3⟩ := step_told (sl := sl) (xs := xs) (a := xs (i + 1)) (c := xs (i + 2)) d h hI
        rw [if_pos c6, i1, i2, e1, pm_ri_ok, i1, i2, e2, pm_ri_ok, if_pos rfl]
        exact go h2 e3
      rw [if_neg c6]
      by_cases c7 : (xs i &&& nI 31) = nI 7
      · obtain ⟨r, h1, h2, e1, e2, e3⟩ := step_most (sl := sl) (xs := xs) (a := xs (i + 1)) d h hI
        rw [if_pos c7, i1, e1, pm_ri_ok, i1, e2, pm_ri_ok, if_pos rfl]
        exact go h2 e3
      rw [if_neg c7]
      by_cases c8 : (xs i &&& nI 31) = nI 8
      · obtain ⟨r, h1, h2, e1, e2, e3⟩ := step_blow (sl := sl) (xs := xs)  d h hI
        rw [if_pos c8, e1, pm_ri_ok, e2, pm_ri_ok, if_pos rfl]
        exact go h2 e3
      rw [if_neg c8]
      by_cases c9 : (xs i &&& nI 31) = nI 9
      · obtain ⟨r, h1, h2, e1, e2, e3⟩ := step_fewest (sl := sl) (xs := xs) (a := xs (i + 1)) d h hI
        rw [if_pos c9, i1, e1, pm_ri_ok, i1, e2, pm_ri_ok, if_pos rfl]
        exact go h2 e3
      rw [if_neg c9]
      by_cases c10 : (xs i &&& nI 31) = nI 10
      · obtain ⟨r, h1, h2, e1, e2, e3⟩ := step_fuses (sl := sl) (xs := xs)  d h hI
        rw [if_pos c10, e1, pm_ri_ok, e2, pm_ri_ok, if_pos rfl]
        exact go h2 e3
      rw [if_neg c10]
      by_cases c11 : (xs i &&& nI 31) = nI 11
      · obtain ⟨r, h1, h2, e1, e2, e3⟩ := step_explain (sl := sl) (xs := xs) (a := xs (i + 1)) d h hI
        rw [if_pos c11, i1, e1, pm_ri_ok, i1, e2, pm_ri_ok, if_pos rfl]
        exact go h2 e3
      rw [if_neg c11]
      by_cases c12 : (xs i &&& nI 31) = nI 12
      · obtain ⟨r, h1, h2, e1, e2, e3⟩ := step_look (sl := sl) (xs := xs) (a := xs (i + 1)) (c := xs (i + 2)) (b := xs (i + 3)) d h hI
        rw [if_pos c12, i1, i2, i3, e1, pm_ri_ok, i1, i2, i3, e2, pm_ri_ok, if_pos rfl]
        exact go h2 e3
      rw [if_neg c12]
      by_cases c13 : (xs i &&& nI 31) = nI 13
      · obtain ⟨r, h1, h2, e1, e2, e3⟩ := step_next (sl := sl) (xs := xs) (a := xs (i + 1)) d h hI
        rw [if_pos c13, i1, e1, pm_ri_ok, i1, e2, pm_ri_ok, if_pos rfl]
        exact go h2 e3
      rw [if_neg c13]
      by_cases c14 : (xs i &&& nI 31) = nI 14
      · rw [if_pos c14, i1, i2]
        by_cases cz : xs (i + 2) = 0
        · obtain ⟨r, h1, h2, e1, e2, e3⟩ := step_fault (sl := sl) (xs := xs) (a := xs (i + 1)) (c := nI 0) d h hI
          rw [if_pos cz, e1, pm_ri_ok, i1, i2, if_pos cz, e2, pm_ri_ok, if_pos rfl]
          exact go h2 e3
        · obtain ⟨r, h1, h2, e1, e2, e3⟩ := step_fault (sl := sl) (xs := xs) (a := xs (i + 1)) (c := nI 1) d h hI
          rw [if_neg cz, e1, pm_ri_ok, i1, i2, if_neg cz, e2, pm_ri_ok, if_pos rfl]
          exact go h2 e3
      rw [if_neg c14]
      by_cases c15 : (xs i &&& nI 31) = nI 15
      · obtain ⟨r, h1, h2, e1, e2, e3⟩ := step_crews (sl := sl) (xs := xs) (a := xs (i + 1)) (c := xs (i + 2)) d h hI
        rw [if_pos c15, i1, i2, e1, pm_ri_ok, i1, i2, e2, pm_ri_ok, if_pos rfl]
        exact go h2 e3
      rw [if_neg c15]
      by_cases c16 : (xs i &&& nI 31) = nI 16
      · obtain ⟨r, h1, h2, e1, e2, e3⟩ := step_open (sl := sl) (xs := xs) (a := xs (i + 1)) (c := xs (i + 2)) d h hI
        rw [if_pos c16, i1, i2, e1, pm_ri_ok, i1, i2, e2, pm_ri_ok, if_pos rfl]
        exact go h2 e3
      rw [if_neg c16]
      by_cases c17 : (xs i &&& nI 31) = nI 17
      · obtain ⟨r, h1, h2, e1, e2, e3⟩ := step_order (sl := sl) (xs := xs) (a := xs (i + 1)) (c := xs (i + 2)) d h hI
        rw [if_pos c17, i1, i2, e1, pm_ri_ok, i1, i2, e2, pm_ri_ok, if_pos rfl]
        exact go h2 e3
      rw [if_neg c17]
      by_cases c18 : (xs i &&& nI 31) = nI 18
      · obtain ⟨r, h1, h2, e1, e2, e3⟩ := step_plan (sl := sl) (xs := xs)  d h hI
        rw [if_pos c18, e1, pm_ri_ok, e2, pm_ri_ok, if_pos rfl]
        exact go h2 e3
      rw [if_neg c18]
      by_cases c19 : (xs i &&& nI 31) = nI 19
      · obtain ⟨r, h1, h2, e1, e2, e3⟩ := step_hung (sl := sl) (xs := xs) (a := xs (i + 1)) (c := xs (i + 2)) d h hI
        rw [if_pos c19, i1, i2, e1, pm_ri_ok, i1, i2, e2, pm_ri_ok, if_pos rfl]
        exact go h2 e3
      rw [if_neg c19]
      by_cases c20 : (xs i &&& nI 31) = nI 20
      · obtain ⟨r, h1, h2, e1, e2, e3⟩ := step_best (sl := sl) (xs := xs)  d h hI
        rw [if_pos c20, e1, pm_ri_ok, e2, pm_ri_ok, if_pos rfl]
        exact go h2 e3
      rw [if_neg c20]
      by_cases c21 : (xs i &&& nI 31) = nI 21
      · obtain ⟨r, h1, h2, e1, e2, e3⟩ := step_front (sl := sl) (xs := xs) (a := xs (i + 1)) (c := xs (i + 2)) d h hI
        rw [if_pos c21, i1, i2, e1, pm_ri_ok, i1, i2, e2, pm_ri_ok, if_pos rfl]
        exact go h2 e3
      rw [if_neg c21]
      by_cases c22 : (xs i &&& nI 31) = nI 22
      · obtain ⟨r, h1, h2, e1, e2, e3⟩ := step_part (sl := sl) (xs := xs) (a := xs (i + 1)) d h hI
        rw [if_pos c22, i1, e1, pm_ri_ok, i1, e2, pm_ri_ok, if_pos rfl]
        exact go h2 e3
      rw [if_neg c22]
      by_cases c23 : (xs i &&& nI 31) = nI 23
      · obtain ⟨r, h1, h2, e1, e2, e3⟩ := step_share (sl := sl) (xs := xs) (a := xs (i + 1)) (c := xs (i + 2)) d h hI
        rw [if_pos c23, i1, i2, e1, pm_ri_ok, i1, i2, e2, pm_ri_ok, if_pos rfl]
        exact go h2 e3
      rw [if_neg c23]
      by_cases c24 : (xs i &&& nI 31) = nI 24
      · obtain ⟨r, h1, h2, e1, e2, e3⟩ := step_lamp (sl := sl) (xs := xs) (a := xs (i + 1)) (c := xs (i + 2)) d h hI
        rw [if_pos c24, i1, i2, e1, pm_ri_ok, i1, i2, e2, pm_ri_ok, if_pos rfl]
        exact go h2 e3
      rw [if_neg c24]
      by_cases c25 : (xs i &&& nI 31) = nI 25
      · obtain ⟨r, h1, h2, e1, e2, e3⟩ := step_replace (sl := sl) (xs := xs) (a := xs (i + 1)) (c := xs (i + 2)) d h hI
        rw [if_pos c25, i1, i2, e1, pm_ri_ok, i1, i2, e2, pm_ri_ok, if_pos rfl]
        exact go h2 e3
      rw [if_neg c25]
      by_cases c26 : (xs i &&& nI 31) = nI 26
      · obtain ⟨r, h1, h2, e1, e2, e3⟩ := step_box (sl := sl) (xs := xs) (a := xs (i + 1)) (c := xs (i + 2)) d h hI
        rw [if_pos c26, i1, i2, e1, pm_ri_ok, i1, i2, e2, pm_ri_ok, if_pos rfl]
        exact go h2 e3
      rw [if_neg c26]
      by_cases c27 : (xs i &&& nI 31) = nI 27
      · obtain ⟨r, h1, h2, e1, e2, e3⟩ := step_tell (sl := sl) (xs := xs) (a := xs (i + 1)) d h hI
        rw [if_pos c27, i1, e1, pm_ri_ok, i1, e2, pm_ri_ok, if_pos rfl]
        exact go h2 e3
      rw [if_neg c27]
      by_cases c28 : (xs i &&& nI 31) = nI 28
      · obtain ⟨r, h1, h2, e1, e2, e3⟩ := step_check (sl := sl) (xs := xs)  d h hI
        rw [if_pos c28, e1, pm_ri_ok, e2, pm_ri_ok, if_pos rfl]
        exact go h2 e3
      rw [if_neg c28]
      by_cases c29 : (xs i &&& nI 31) = nI 29
      · obtain ⟨r, h1, h2, e1, e2, e3⟩ := step_count (sl := sl) (xs := xs) (a := xs (i + 1)) d h hI
        rw [if_pos c29, i1, e1, pm_ri_ok, i1, e2, pm_ri_ok, if_pos rfl]
        exact go h2 e3
      rw [if_neg c29]
      by_cases c30 : (xs i &&& nI 31) = nI 30
      · obtain ⟨r, h1, h2, e1, e2, e3⟩ := step_found (sl := sl) (xs := xs) (a := xs (i + 1)) d h hI
        rw [if_pos c30, i1, e1, pm_ri_ok, i1, e2, pm_ri_ok, if_pos rfl]
        exact go h2 e3
      rw [if_neg c30]
      exact go h hI
theorem law_holds (L : Nat) (xs : Nat → Int32) (hL : L ≤ 3584) : pm_law L xs := by
  obtain ⟨h2, e⟩ := law_loop (sl := L) (xs := xs) (d := 20) hL (L + 1) 0 hI (by omega) (by omega) Inv_0
  refine ⟨(SH, h2), ?_, SH_small.1, SH_small.2⟩
  rw [law_begin (d := 55), e]
  rfl
