/-! more of the easy calls -/
theorem bI_t {α : Type} (x y : α) : (if bI true = 0 then x else y) = y := bI_if true x y
theorem bI_f {α : Type} (x y : α) : (if bI false = 0 then x else y) = x := bI_if false x y
theorem n60000 : (60000 : Int32) = nI 60000 := by decide
theorem InvN.n7 {h : pmH} {n m q : Nat} (hi : InvN h n m q) : h 7 0 = nI n := hi.2.2.1.1.1
theorem InvN.n39 {h : pmH} {n m q : Nat} (hi : InvN h n m q) : h 39 1 = nI n := hi.2.2.1.1.2
theorem InvN.eq {h : pmH} {n m q : Nat} (hi : InvN h n m q) {k k2 : Nat} (hp : (k, k2) ∈ prs) : h k = h k2 := hi.2.1 (k, k2) hp
section EASY2
variable {sl : Nat} {xs : Nat → Int32}
theorem step_found {a : Int32} : Step sl xs 84 148 [.int a] := by
  intro d h ⟨n, m, q, hi⟩
  cases hr : inR a (nI 1) (nI 5) with
  | false =>
    refine ⟨-1000000001, pm_up h 1 1 (h 1 1 + nI 1), _, ?_, ?_, n, m, q, hi.fnd 1⟩
    · rw [qX7_found_0, c_within, pm_ri_ok, hr, bI_f, c_find (k := 1) (by decide) f_1, pm_ri_ok]
    · rw [qX8_found_0, c_in, pm_ri_ok, hr, bI_f, c_finds (by decide), pm_ri_ok, g_1]
  | true =>
    obtain ⟨j, hj1, hj2, rfl⟩ := inR_nat (by decide) (by decide) hr
    refine ⟨h 1 j, h, h, ?_, ?_, n, m, q, hi⟩
    · rw [qX7_found_0, c_within, pm_ri_ok, hr, bI_t, pm_ix_nI (by omega) (by decide)]
    · rw [qX8_found_0, c_in, pm_ri_ok, hr, bI_t, pm_ix_nI (by omega) (by decide), hi.eq (k := 1) (k2 := 58) (by decide)]
theorem step_part {a : Int32} : Step sl xs 76 139 [.int a] := by
  intro d h ⟨n, m, q, hi⟩
  cases hr : inR a (nI 0) (nI 100) with
  | false =>
    refine ⟨-1000000001, pm_up h 1 1 (h 1 1 + nI 1), _, ?_, ?_, n, m, q, hi.fnd 1⟩
    · rw [qX7_part_0, c_within, pm_ri_ok, hr, bI_f, c_find (k := 1) (by decide) f_1, pm_ri_ok]
    · rw [qX8_part_0, c_in, pm_ri_ok, hr, bI_f, c_finds (by decide), pm_ri_ok, g_1]
  | true =>
    obtain ⟨j, hj1, hj2, hj3⟩ := inR_nat (by decide) (by decide) hr
    have e : h 35 1 = h 39 5 := hi.2.2.1.2.2.2.2.2.2
    refine ⟨h 35 1, pm_up h 35 1 a, pm_up (pm_up h 35 1 a) 39 5 a, ?_, ?_, n, m, q, ?_⟩
    · rw [qX7_part_0, c_within, pm_ri_ok, hr, bI_t]
    · rw [qX8_part_0, c_in, pm_ri_ok, hr, bI_t, pm_up_ne (a := 39) (by decide), e]
    · obtain ⟨hb, hE, hS, hA, hN, hB⟩ := hi.to
      refine InvN.of hb ((hE.other (by decide)).other (by decide)) ?_ ((hA.up (by decide)).up (by decide)) ((hN.up (by decide)).up (by decide)) ?_
      · unfold SC at hS ⊢
        simpa [pm_up, upd] using ⟨hS.1, hS.2.1, hS.2.2.1, hS.2.2.2.1, hS.2.2.2.2.1, hS.2.2.2.2.2.1⟩
      · unfold VB at hB ⊢
        simp only [pm_up, upd]
        exact ⟨hB.1, j, hj2, hj3⟩
theorem step_crews {a c : Int32} : Step sl xs 69 127 [.int a, .int c] := by
  intro d h ⟨n, m, q, hi⟩
  cases hr : inR a (nI 1) (nI 3) with
  | false =>
    refine ⟨-1000000001, pm_up h 1 1 (h 1 1 + nI 1), _, ?_, ?_, n, m, q, hi.fnd 1⟩
    · rw [qX7_crews_0, c_within, pm_ri_ok, hr, bI_f, c_find (k := 1) (by decide) f_1, pm_ri_ok]
    · rw [qX8_crews_0, c_in, pm_ri_ok, hr, bI_f, c_finds (by decide), pm_ri_ok, g_1]
  | true =>
    cases hr2 : inR c (nI 1) (nI 12) with
    | false =>
      refine ⟨-1000000001, pm_up h 1 1 (h 1 1 + nI 1), _, ?_, ?_, n, m, q, hi.fnd 1⟩
      · rw [qX7_crews_0, c_within, pm_ri_ok, hr, bI_t, c_within, pm_ri_ok, hr2, bI_f, c_find (k := 1) (by decide) f_1, pm_ri_ok]
      · rw [qX8_crews_0, c_in, pm_ri_ok, hr, bI_t, c_in, pm_ri_ok, hr2, bI_f, c_finds (by decide), pm_ri_ok, g_1]
    | true =>
      obtain ⟨j, hj1, hj2, hj3⟩ := inR_nat (by decide) (by decide) hr
      obtain ⟨i, hi1, hi2, hi3⟩ := inR_nat (by decide) (by decide) hr2
      refine ⟨nI 1, pm_up (pm_up h 28 1 a) 28 2 c, pm_up (pm_up (pm_up (pm_up h 28 1 a) 28 2 c) 39 3 a) 39 4 c, ?_, ?_, n, m, q, ?_⟩
      · rw [qX7_crews_0, c_within, pm_ri_ok, hr, bI_t, c_within, pm_ri_ok, hr2, bI_t]
      · rw [qX8_crews_0, c_in, pm_ri_ok, hr, bI_t, c_in, pm_ri_ok, hr2, bI_t]
      · obtain ⟨hb, hE, hS, hA, hN, hB⟩ := hi.to
        refine InvN.of hb ((((hE.other (by decide)).other (by decide)).other (by decide)).other (by decide)) ?_ ((((hA.up (by decide)).up (by decide)).up (by decide)).up (by decide)) ?_ ((((hB.up (by decide)).up (by decide)).up (by decide)).up (by decide))
        · unfold SC at hS ⊢
          simpa [pm_up, upd] using ⟨hS.1, hS.2.1, hS.2.2.1, hS.2.2.2.1, hS.2.2.2.2.2.2⟩
        · unfold VN
          refine ⟨⟨j, hj1, hj2, ?_⟩, ⟨i, hi1, hi2, ?_⟩⟩
          · simp [pm_up, upd, hj3]
          · simp [pm_up, upd, hi3]
theorem step_open {a c : Int32} : Step sl xs 70 128 [.int a, .int c] := by
  intro d h ⟨n, m, q, hi⟩
  cases hr : inR a (nI 0) (nI 7) with
  | false =>
    refine ⟨-1000000001, pm_up h 1 1 (h 1 1 + nI 1), _, ?_, ?_, n, m, q, hi.fnd 1⟩
    · rw [qX7_open_0, c_within, pm_ri_ok, hr, bI_f, c_find (k := 1) (by decide) f_1, pm_ri_ok]
    · rw [qX8_open_0, c_in, pm_ri_ok, hr, bI_f, c_finds (by decide), pm_ri_ok, g_1]
  | true =>
    cases hr2 : inR c (nI 0) (nI 127) with
    | false =>
      refine ⟨-1000000001, pm_up h 1 1 (h 1 1 + nI 1), _, ?_, ?_, n, m, q, hi.fnd 1⟩
      · rw [qX7_open_0, c_within, pm_ri_ok, hr, bI_t, c_within, pm_ri_ok, hr2, bI_f, c_find (k := 1) (by decide) f_1, pm_ri_ok]
      · rw [qX8_open_0, c_in, pm_ri_ok, hr, bI_t, c_in, pm_ri_ok, hr2, bI_f, c_finds (by decide), pm_ri_ok, g_1]
    | true =>
      obtain ⟨j, hj1, hj2, rfl⟩ := inR_nat (by decide) (by decide) hr
      refine ⟨h 29 j, pm_up h 29 j c, pm_up (pm_up h 29 j c) 55 j c, ?_, ?_, n, m, q, hi.pair (by decide) (by decide) (by decide)⟩
      · rw [qX7_open_0, c_within, pm_ri_ok, hr, bI_t, c_within, pm_ri_ok, hr2, bI_t, pm_ix_nI (by omega) (by decide), pm_ix_nI (by omega) (by decide)]
      · rw [qX8_open_0, c_in, pm_ri_ok, hr, bI_t, c_in, pm_ri_ok, hr2, bI_t, pm_ix_nI (by omega) (by decide), pm_ix_nI (by omega) (by decide), pm_up_ne (a := 55) (by decide), hi.eq (k := 29) (k2 := 55) (by decide)]
theorem step_front {a c : Int32} : Step sl xs 75 138 [.int a, .int c] := by
  intro d h ⟨n, m, q, hi⟩
  cases hr : inR a (nI 0) (nI 7) with
  | false =>
    refine ⟨-1000000001, pm_up h 1 1 (h 1 1 + nI 1), _, ?_, ?_, n, m, q, hi.fnd 1⟩
    · rw [qX7_front_0, c_within, pm_ri_ok, hr, bI_f, c_find (k := 1) (by decide) f_1, pm_ri_ok]
    · rw [qX8_front_0, c_in, pm_ri_ok, hr, bI_f, c_finds (by decide), pm_ri_ok, g_1]
  | true =>
    cases hr2 : inR c (nI 0) (nI 1000) with
    | false =>
      refine ⟨-1000000001, pm_up h 1 1 (h 1 1 + nI 1), _, ?_, ?_, n, m, q, hi.fnd 1⟩
      · rw [qX7_front_0, c_within, pm_ri_ok, hr, bI_t, c_within, pm_ri_ok, hr2, bI_f, c_find (k := 1) (by decide) f_1, pm_ri_ok]
      · rw [qX8_front_0, c_in, pm_ri_ok, hr, bI_t, c_in, pm_ri_ok, hr2, bI_f, c_finds (by decide), pm_ri_ok, g_1]
    | true =>
      obtain ⟨j, hj1, hj2, rfl⟩ := inR_nat (by decide) (by decide) hr
      obtain ⟨i, hi1, hi2, rfl⟩ := inR_nat (by decide) (by decide) hr2
      refine ⟨h 36 j, pm_up h 36 j (nI i), pm_up (pm_up h 36 j (nI i)) 56 j (nI i), ?_, ?_, n, m, q, ?_⟩
      · rw [qX7_front_0, c_within, pm_ri_ok, hr, bI_t, c_within, pm_ri_ok, hr2, bI_t, pm_ix_nI (by omega) (by decide), pm_ix_nI (by omega) (by decide)]
      · rw [qX8_front_0, c_in, pm_ri_ok, hr, bI_t, c_in, pm_ri_ok, hr2, bI_t, pm_ix_nI (by omega) (by decide), pm_ix_nI (by omega) (by decide), pm_up_ne (a := 56) (by decide), hi.eq (k := 36) (k2 := 56) (by decide)]
      · obtain ⟨hb, hE, hS, hA, hN, hB⟩ := hi.to
        refine InvN.of hb (hE.up (by decide)) ((hS.up (by decide)).up (by decide)) ((hA.up (by decide)).up (by decide)) ((hN.up (by decide)).up (by decide)) ?_
        refine VB.up (k := 56) ?_ (by decide)
        unfold VB at hB ⊢
        refine ⟨fun j2 hj => ?_, ?_⟩
        · rw [pm_up_same]
          unfold upd
          by_cases e : j2 = j
          · rw [if_pos e]; exact ⟨i, hi2, rfl⟩
          · rw [if_neg e]; exact hB.1 j2 hj
        · rw [pm_up_ne (a := 35) (by decide)]; exact hB.2
theorem step_tell {a : Int32} : Step sl xs 81 145 [.int a] := by
  intro d h ⟨n, m, q, hi⟩
  have hq : q ≤ 24 := hi.1.2.2
  have e1 : h 37 0 = nI q := hi.2.2.1.2.2.1.1
  have e2 : h 39 6 = nI q := hi.2.2.1.2.2.1.2
  by_cases hr : q = 24
  · subst hr
    refine ⟨-1000000004, pm_up h 1 4 (h 1 4 + nI 1), _, ?_, ?_, n, m, 24, hi.fnd 4⟩
    · rw [qX7_tell_0, e1, if_neg (by decide), c_find (k := 4) (by decide) f_4, pm_ri_ok]
    · rw [qX8_tell_0, pm_up_ne (a := 39) (by decide), e2, if_pos rfl, c_finds (by decide), pm_ri_ok, g_4]
  · refine ⟨nI (q + 1), pm_up (pm_up h 38 q a) 37 0 (nI (q + 1)), pm_up (pm_up (pm_up (pm_up h 38 q a) 37 0 (nI (q + 1))) 57 q a) 39 6 (nI (q + 1)), ?_, ?_, n, m, q + 1, ?_⟩
    · rw [qX7_tell_0, e1, if_pos (nI_lt (by omega) (by decide)), qX6_add_0, e1, pm_ix_nI (by omega) (by decide), pm_ri_ok, nI_add]
    · rw [qX8_tell_0, pm_up_ne (a := 39) (by decide), pm_up_ne (a := 39) (by decide), e2, if_neg (fun z => hr ((nI_eq (by omega) (by decide)).mp z)), pm_ix_nI (by omega) (by decide), nI_add]
    · obtain ⟨hb, hE, hS, hA, hN, hB⟩ := hi.to
      have hE2 : EQ (pm_up (pm_up (pm_up (pm_up h 38 q a) 37 0 (nI (q + 1))) 57 q a) 39 6 (nI (q + 1))) := by
        have e : pm_up (pm_up (pm_up h 38 q a) 37 0 (nI (q + 1))) 57 q a = pm_up (pm_up (pm_up h 38 q a) 57 q a) 37 0 (nI (q + 1)) := by
          funext k
          unfold pm_up
          by_cases k1 : k = 57
          · subst k1; simp
          · by_cases k2 : k = 37
            · subst k2; simp
            · simp [k1, k2]
        rw [e]
        exact ((hE.up (by decide)).other (by decide)).other (by decide)
      refine InvN.of ⟨hb.1, hb.2.1, by omega⟩ hE2 ?_ ((((hA.up (by decide)).up (by decide)).up (by decide)).up (by decide)) ((((hN.up (by decide)).up (by decide)).up (by decide)).up (by decide)) ((((hB.up (by decide)).up (by decide)).up (by decide)).up (by decide))
      unfold SC at hS ⊢
      simpa [pm_up, upd] using ⟨hS.1, hS.2.1, hS.2.2.2⟩
end EASY2
