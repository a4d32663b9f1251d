/-! look -/
section LOOK
variable {sl : Nat} {xs : Nat → Int32}
theorem step_look {a c b : Int32} : Step sl xs 66 124 [.int a, .int c, .int b] := by
  intro d h ⟨n, m, q, hi⟩
  have hn : n ≤ 24 := hi.1.1
  have n7 := hi.n7
  have n39 : ∀ {x : pmH}, x 39 = h 39 → x 39 1 = nI n := fun e => by rw [e]; exact hi.n39
  have e16 : h 53 = h 16 := (hi.eq (by decide)).symm
  have e13 : h 48 = h 13 := (hi.eq (by decide)).symm
  have e17 : h 51 = h 17 := (hi.eq (by decide)).symm
  have e18 : h 52 = h 18 := (hi.eq (by decide)).symm
  have hV : VS h n := hi.2.2.2.1
  have hc1 : inL h a c n = (inS a n && (decide (¬ c < 0) && decide (¬ h 13 a.toNatClampNeg ≤ c))) := rfl
  cases hr : inS a n with
  | false =>
    have hr0 : inL h a c n = false := by rw [hc1, hr]; rfl
    refine ⟨-1000000001, pm_up h 1 1 (h 1 1 + nI 1), _, ?_, ?_, n, m, q, hi.fnd 1⟩
    · rw [qX7_look_0, c_hasLamp hn n7, pm_ri_ok, hr0, bI_f, c_find (k := 1) (by decide) f_1, pm_ri_ok]
    · rw [qX8_look_0, c_isS (n39 (pm_up_ne (by decide))) hn, pm_ri_ok, hr, bI_f, c_finds (by decide), pm_ri_ok, g_1]
  | true =>
    obtain ⟨j, hj, rfl⟩ := inS_nat (by omega) hr
    obtain ⟨-, -, -, -, -, ⟨k, k1, k2, k3⟩, -, -, -⟩ := hV j hj
    have hL : inL h (nI j) c n = inS c k := by
      rw [hc1, hr, nI_clamp (by omega), k3]
      rfl
    cases hr3 : inS c k with
    | false =>
      refine ⟨-1000000001, pm_up h 1 1 (h 1 1 + nI 1), _, ?_, ?_, n, m, q, hi.fnd 1⟩
      · rw [qX7_look_0, c_hasLamp hn n7, pm_ri_ok, hL, hr3, bI_f, c_find (k := 1) (by decide) f_1, pm_ri_ok]
      · rw [qX8_look_0, c_isS (n39 (pm_up_ne (by decide))) hn, pm_ri_ok, hr, bI_t, pm_ix_nI (by omega) (by decide), pm_up_ne (a := 48) (by decide), e13, k3, c_in, pm_ri_ok, inR_S (by omega), hr3, bI_f, c_finds (by decide), pm_ri_ok, g_1]
    | true =>
      cases hr2 : inR b (nI 0) (nI 1) with
      | false =>
        refine ⟨-1000000001, pm_up h 1 1 (h 1 1 + nI 1), _, ?_, ?_, n, m, q, hi.fnd 1⟩
        · rw [qX7_look_0, c_hasLamp hn n7, pm_ri_ok, hL, hr3, bI_t, c_within, pm_ri_ok, hr2, bI_f, c_find (k := 1) (by decide) f_1, pm_ri_ok]
        · rw [qX8_look_0, c_isS (n39 (pm_up_ne (by decide))) hn, pm_ri_ok, hr, bI_t, pm_ix_nI (by omega) (by decide), pm_up_ne (a := 48) (by decide), e13, k3, c_in, pm_ri_ok, inR_S (by omega), hr3, bI_t, c_in, pm_ri_ok, hr2, bI_f, c_finds (by decide), pm_ri_ok, g_1]
      | true =>
        obtain ⟨i, hi1, hi2, rfl⟩ := inR_nat (by decide) (by decide) hr2
        by_cases hd : h 16 j = 0
        · refine ⟨-1000000003, pm_up h 1 3 (h 1 3 + nI 1), _, ?_, ?_, n, m, q, hi.fnd 3⟩
          · rw [qX7_look_0, c_hasLamp hn n7, pm_ri_ok, hL, hr3, bI_t, c_within, pm_ri_ok, hr2, bI_t, pm_ix_nI (by omega) (by decide), if_pos hd, c_find (k := 3) (by decide) f_3, pm_ri_ok]
          · rw [qX8_look_0, c_isS (n39 (pm_up_ne (by decide))) hn, pm_ri_ok, hr, bI_t, pm_ix_nI (by omega) (by decide), pm_up_ne (a := 48) (by decide), e13, k3, c_in, pm_ri_ok, inR_S (by omega), hr3, bI_t, c_in, pm_ri_ok, hr2, bI_t, pm_ix_nI (by omega) (by decide), pm_up_ne (a := 53) (by decide), e16, if_pos hd, c_finds (by decide), pm_ri_ok, g_3]
        · have cl : ∀ (A : Option pmR), (if nI i = nI 1 then _ else _) = A → pm_cf (pm_Ev sl xs) (d + 40) 66 [.ref 1, .int (nI j), .int c, .int (nI i)] (SH, h) = A := fun A hA => by
            rw [qX7_look_0, c_hasLamp hn n7, pm_ri_ok, hL, hr3, bI_t, c_within, pm_ri_ok, hr2, bI_t, pm_ix_nI (by omega) (by decide), if_neg hd]
            exact hA
          have ml : ∀ (h1 : pmH), h1 39 = h 39 → h1 48 = h 48 → h1 53 = h 53 → ∀ (A : Option pmR), (if nI i = nI 1 then _ else _) = A → pm_cf (pm_Ev sl xs) (d + 40) 124 [.ref 40, .int (nI j), .int c, .int (nI i)] (SH, h1) = A := fun h1 g1 g2 g3 A hA => by
            rw [qX8_look_0, c_isS (n39 g1) hn, pm_ri_ok, hr, bI_t, pm_ix_nI (by omega) (by decide), g2, e13, k3, c_in, pm_ri_ok, inR_S (by omega), hr3, bI_t, c_in, pm_ri_ok, hr2, bI_t, pm_ix_nI (by omega) (by decide), g3, e16, if_neg hd]
            exact hA
          have hix : ∀ (f : Nat → Option pmR), pm_ix none (nI j) 24 f = f j := fun f => pm_ix_nI (by omega) (by decide)
          have u1 : ∀ a, a ≠ 1 → ∀ v, (pm_up h 1 2 v) a = h a := fun a ha v => pm_up_ne ha
          have u2 : ∀ (x y : Int32) (a : Nat), a ≠ 17 → a ≠ 18 → (pm_up (pm_up h 17 j x) 18 j y) a = h a := fun x y a h1 h2 => by rw [pm_up_ne h2, pm_up_ne h1]
          rcases (show i = 0 ∨ i = 1 by omega) with rfl | rfl
          · have z1 : ¬ nI 0 = nI 1 := by decide
            have z0 : nI 0 = 0 := rfl
            by_cases hp : h 18 j ≤ c
            · have hp2 : ¬ c < h 18 j := by rw [i_lt]; exact fun z => z hp
              by_cases hf : h 17 j ≤ h 18 j
              · refine ⟨h 18 j - h 17 j + nI 1, pm_up (pm_up h 17 j (h 17 j)) 18 j (h 18 j), pm_up (pm_up (pm_up (pm_up h 17 j (h 17 j)) 18 j (h 18 j)) 51 j (h 17 j)) 52 j (h 18 j), cl _ ?_, ml _ (u2 _ _ _ (by decide) (by decide)) (u2 _ _ _ (by decide) (by decide)) (u2 _ _ _ (by decide) (by decide)) _ ?_, n, m, q, hi.pair2⟩
                · rw [if_neg z1, hix, if_pos z0, hix, if_neg hp2, if_pos hf, hix, hix]
                · rw [if_neg z1, hix, if_pos z0, hix, u2 _ _ 51 (by decide) (by decide), u2 _ _ 52 (by decide) (by decide), e17, e18, if_pos hp, hix, if_pos hf, hix, hix]
              · refine ⟨-1000000002, pm_up h 1 2 (h 1 2 + nI 1), _, cl _ ?_, ml _ (u1 _ (by decide) _) (u1 _ (by decide) _) (u1 _ (by decide) _) _ ?_, n, m, q, hi.fnd 2⟩
                · rw [if_neg z1, hix, if_pos z0, hix, if_neg hp2, if_neg hf, c_find (k := 2) (by decide) f_2, pm_ri_ok]
                · rw [if_neg z1, hix, if_pos z0, hix, u1 51 (by decide), u1 52 (by decide), e17, e18, if_pos hp, hix, if_neg hf, c_finds (by decide), pm_ri_ok, g_2]
            · have hp2 : c < h 18 j := (i_lt _ _).mpr hp
              by_cases hf : h 17 j ≤ c
              · refine ⟨c - h 17 j + nI 1, pm_up (pm_up h 17 j (h 17 j)) 18 j c, pm_up (pm_up (pm_up (pm_up h 17 j (h 17 j)) 18 j c) 51 j (h 17 j)) 52 j c, cl _ ?_, ml _ (u2 _ _ _ (by decide) (by decide)) (u2 _ _ _ (by decide) (by decide)) (u2 _ _ _ (by decide) (by decide)) _ ?_, n, m, q, hi.pair2⟩
                · rw [if_neg z1, hix, if_pos z0, hix, if_pos hp2, if_pos hf, hix, hix]
                · rw [if_neg z1, hix, if_pos z0, hix, u2 _ _ 51 (by decide) (by decide), u2 _ _ 52 (by decide) (by decide), e17, e18, if_neg hp, if_pos hf, hix, hix]
              · refine ⟨-1000000002, pm_up h 1 2 (h 1 2 + nI 1), _, cl _ ?_, ml _ (u1 _ (by decide) _) (u1 _ (by decide) _) (u1 _ (by decide) _) _ ?_, n, m, q, hi.fnd 2⟩
                · rw [if_neg z1, hix, if_pos z0, hix, if_pos hp2, if_neg hf, c_find (k := 2) (by decide) f_2, pm_ri_ok]
                · rw [if_neg z1, hix, if_pos z0, hix, u1 51 (by decide), u1 52 (by decide), e17, e18, if_neg hp, if_neg hf, c_finds (by decide), pm_ri_ok, g_2]
          · have z1 : nI 1 = nI 1 := rfl
            have z0 : ¬ nI 1 = 0 := by decide
            by_cases hp : c + nI 1 ≤ h 17 j
            · have hp2 : ¬ h 17 j < c + nI 1 := by rw [i_lt]; exact fun z => z hp
              by_cases hf : h 17 j ≤ h 18 j
              · refine ⟨h 18 j - h 17 j + nI 1, pm_up (pm_up h 17 j (h 17 j)) 18 j (h 18 j), pm_up (pm_up (pm_up (pm_up h 17 j (h 17 j)) 18 j (h 18 j)) 51 j (h 17 j)) 52 j (h 18 j), cl _ ?_, ml _ (u2 _ _ _ (by decide) (by decide)) (u2 _ _ _ (by decide) (by decide)) (u2 _ _ _ (by decide) (by decide)) _ ?_, n, m, q, hi.pair2⟩
                · rw [if_pos z1, hix, if_neg z0, hix, if_neg hp2, if_pos hf, hix, hix]
                · rw [if_pos z1, hix, u2 _ _ 51 (by decide) (by decide), u2 _ _ 52 (by decide) (by decide), e17, e18, if_pos hp, hix, if_neg z0, hix, if_pos hf, hix, hix]
              · refine ⟨-1000000002, pm_up h 1 2 (h 1 2 + nI 1), _, cl _ ?_, ml _ (u1 _ (by decide) _) (u1 _ (by decide) _) (u1 _ (by decide) _) _ ?_, n, m, q, hi.fnd 2⟩
                · rw [if_pos z1, hix, if_neg z0, hix, if_neg hp2, if_neg hf, c_find (k := 2) (by decide) f_2, pm_ri_ok]
                · rw [if_pos z1, hix, u1 51 (by decide), u1 52 (by decide), e17, e18, if_pos hp, hix, if_neg z0, hix, if_neg hf, c_finds (by decide), pm_ri_ok, g_2]
            · have hp2 : h 17 j < c + nI 1 := (i_lt _ _).mpr hp
              by_cases hf : c + nI 1 ≤ h 18 j
              · refine ⟨h 18 j - (c + nI 1) + nI 1, pm_up (pm_up h 17 j (c + nI 1)) 18 j (h 18 j), pm_up (pm_up (pm_up (pm_up h 17 j (c + nI 1)) 18 j (h 18 j)) 51 j (c + nI 1)) 52 j (h 18 j), cl _ ?_, ml _ (u2 _ _ _ (by decide) (by decide)) (u2 _ _ _ (by decide) (by decide)) (u2 _ _ _ (by decide) (by decide)) _ ?_, n, m, q, hi.pair2⟩
                · rw [if_pos z1, hix, if_neg z0, hix, if_pos hp2, if_pos hf, hix, hix]
                · rw [if_pos z1, hix, u2 _ _ 51 (by decide) (by decide), u2 _ _ 52 (by decide) (by decide), e17, e18, if_neg hp, if_neg z0, hix, if_pos hf, hix, hix]
              · refine ⟨-1000000002, pm_up h 1 2 (h 1 2 + nI 1), _, cl _ ?_, ml _ (u1 _ (by decide) _) (u1 _ (by decide) _) (u1 _ (by decide) _) _ ?_, n, m, q, hi.fnd 2⟩
                · rw [if_pos z1, hix, if_neg z0, hix, if_pos hp2, if_neg hf, c_find (k := 2) (by decide) f_2, pm_ri_ok]
                · rw [if_pos z1, hix, u1 51 (by decide), u1 52 (by decide), e17, e18, if_neg hp, if_neg z0, hix, if_neg hf, c_finds (by decide), pm_ri_ok, g_2]
end LOOK
