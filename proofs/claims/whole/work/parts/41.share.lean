/-! share -/
theorem n1000000 : (1000000 : Int32) = nI 1000000 := by decide
def shW (R A : Nat) (F : Nat → Nat) (s : Nat) : Nat → Nat → Int32 → Int32 → Int32
  | 0, _, l, a => if l ≤ a then nI (R * F s / A) else nI (R * F s / A + 1)
  | m + 1, i, l, a => shW R A F s m (i + 1) (l - nI (R * F i / A)) (if R * F s % A < R * F i % A then a + nI 1 else if R * F i % A = R * F s % A then (if s ≤ i then a else a + nI 1) else a)
section SHARE
variable {sl : Nat} {xs : Nat → Int32}
theorem share_c {d : Nat} {h : pmH} {R A s : Nat} {F : Nat → Nat} (hs : s < 8) (hA : 0 < A) (hA2 : A < 2 ^ 31) (hF : ∀ j, j < 8 → h 36 j = nI (F j)) (hR : ∀ j, j < 8 → R * F j < 2 ^ 31) : ∀ (m i : Nat) (l a : Int32) (o2 o9 : Option Value), i + m = 8 → pm_Ev sl xs (d + 1) 3 43 [some (.ref 36), some (.int (nI s)), o2, some (.int (nI A)), some (.int (nI R)), some (.int l), some (.int a), some (.int (nI (R * F s % A))), some (.int (nI i)), o9] [] (SH, h) = some (some (.int (shW R A F s m i l a)), (SH, h))
  | 0, i, l, a, o2, o9, hi => by
    rw [qX0_shopPays_43, if_pos (nI_le (by omega) (by omega)), pm_ix_nI hs (by decide), if_neg (nI_ne0 hA hA2), hF s hs, pk_mul, pk_div (hR s hs) hA hA2, nI_add]
    unfold shW
    by_cases c : l ≤ a
    · rw [if_pos c, if_pos c]
    · rw [if_neg c, if_neg c]
  | m + 1, i, l, a, o2, o9, hi => by
    have ix : ∀ (t : Nat → Option pmR), pm_ix none (nI i) 8 t = t i := fun t => pm_ix_nI (by omega) (by decide)
    have hz : ¬ nI A = 0 := nI_ne0 hA hA2
    have b1 : R * F s % A < 2 ^ 31 := Nat.lt_trans (Nat.mod_lt _ hA) hA2
    have b2 : R * F i % A < 2 ^ 31 := Nat.lt_trans (Nat.mod_lt _ hA) hA2
    have hRi := hR i (by omega)
    rw [qX0_shopPays_43, if_neg (nI_ge (by omega) (by omega)), ix, if_neg hz, ix, if_neg hz, hF i (by omega), pk_mul, pk_rem hRi hA hA2, pk_div hRi hA hA2, nI_add, shW]
    by_cases c1 : R * F s % A < R * F i % A
    · rw [if_pos (nI_lt c1 b2), if_pos c1]
      exact share_c hs hA hA2 hF hR m (i + 1) _ _ _ _ (by omega)
    · rw [if_neg (nI_nlt (by omega) b1), if_neg c1]
      by_cases c2 : R * F i % A = R * F s % A
      · rw [if_pos (by rw [c2]), if_pos c2]
        by_cases c3 : s ≤ i
        · rw [if_pos (nI_le c3 (by omega)), if_pos c3]
          exact share_c hs hA hA2 hF hR m (i + 1) _ _ _ _ (by omega)
        · rw [if_neg (nI_ge (by omega) (by omega)), if_neg c3]
          exact share_c hs hA hA2 hF hR m (i + 1) _ _ _ _ (by omega)
      · rw [if_neg (fun z => c2 ((nI_eq b2 b1).mp z)), if_neg c2]
        exact share_c hs hA hA2 hF hR m (i + 1) _ _ _ _ (by omega)
theorem lN_0' : (0 : Int64) = lN 0 := by decide
theorem share_m {d : Nat} {h : pmH} {R A s : Nat} {F : Nat → Nat} {b2 b4 : Int32} (hs : s < 8) (hA : 0 < A) (hA2 : A < 2 ^ 31) (hF2 : ∀ j, j < 8 → F j < 2 ^ 31) (hR1 : R < 2 ^ 31) (hF : ∀ j, j < 8 → h 56 j = nI (F j)) (hR : ∀ j, j < 8 → R * F j < 2 ^ 31) : ∀ (m i : Nat) (l a : Int32) (o11 o12 : Option Value), i + m = 8 → pm_Ev sl xs (d + 1) 140 118 [some (.ref 40), some (.int (nI s)), some (.int b2), some (.int (nI A)), some (.int b4), some (.int (nI R)), some (.int l), some (.int a), some (.long (lN (R * F s % A))), none, some (.int (nI i)), o11, o12] [] (SH, h) = some (some (.int (shW R A F s m i l a)), (SH, h))
  | 0, i, l, a, o11, o12, hi => by
    have hz : ¬ lN A = 0 := fun z => by
      rw [lN_0', pk_lEQ (by omega) (by omega)] at z
      omega
    rw [qX8_share_118, if_pos (nI_le (by omega) (by omega)), pm_ix_nI hs (by decide), hF s hs, nI_l hA2, nI_l hR1, nI_l (hF2 s hs), if_neg hz, lN_mul, pk_lDiv (Nat.lt_trans (hR s hs) (by decide)) hA (by omega), lN_i, nI_add, nI_add]
    unfold shW
    by_cases c : l ≤ a
    · rw [if_pos c, if_pos c]; rfl
    · rw [if_neg c, if_neg c]
  | m + 1, i, l, a, o11, o12, hi => by
    have ix : ∀ (t : Nat → Option pmR), pm_ix none (nI i) 8 t = t i := fun t => pm_ix_nI (by omega) (by decide)
    have hz : ¬ lN A = 0 := fun z => by
      rw [lN_0', pk_lEQ (by omega) (by omega)] at z
      omega
    have b1 : R * F s % A < 2 ^ 63 := Nat.lt_trans (Nat.mod_lt _ hA) (by omega)
    have b2 : R * F i % A < 2 ^ 63 := Nat.lt_trans (Nat.mod_lt _ hA) (by omega)
    have hRi : R * F i < 2 ^ 63 := Nat.lt_trans (hR i (by omega)) (by decide)
    rw [qX8_share_118, if_neg (nI_ge (by omega) (by omega)), ix, hF i (by omega), nI_l hA2, nI_l hR1, nI_l (hF2 i (by omega)), if_neg hz, if_neg hz, if_neg hz, lN_mul, pk_lRem hRi hA (by omega), pk_lDiv hRi hA (by omega), lN_i, nI_add, shW]
    by_cases c1 : R * F s % A < R * F i % A
    · rw [if_pos ((lg_cmp_gt _ _).mpr ((pk_lLT b1 b2).mpr c1)), if_pos c1]
      exact share_m hs hA hA2 hF2 hR1 hF hR m (i + 1) _ _ _ _ (by omega)
    · rw [if_neg (fun z => c1 ((pk_lLT b1 b2).mp ((lg_cmp_gt _ _).mp z))), if_neg c1]
      by_cases c2 : R * F i % A = R * F s % A
      · rw [if_pos ((lg_cmp_eq _ _).mpr (by rw [c2])), if_pos c2]
        by_cases c3 : s ≤ i
        · rw [if_pos (nI_le c3 (by omega)), if_pos c3]
          exact share_m hs hA hA2 hF2 hR1 hF hR m (i + 1) _ _ _ _ (by omega)
        · rw [if_neg (nI_ge (by omega) (by omega)), if_neg c3]
          exact share_m hs hA hA2 hF2 hR1 hF hR m (i + 1) _ _ _ _ (by omega)
      · rw [if_neg (fun z => c2 ((pk_lEQ b2 b1).mp ((lg_cmp_eq _ _).mp z))), if_neg c2]
        exact share_m hs hA hA2 hF2 hR1 hF hR m (i + 1) _ _ _ _ (by omega)
theorem fr_c {d : Nat} {h : pmH} : ∀ (k i : Nat), i + k = 8 → pm_Ev sl xs d 1 4 [some (.ref 36), some (.int (sumF (h 36) i)), some (.int (nI i))] [] (SH, h) = some (some (.int (sumF (h 36) 8)), (SH, h))
  | 0, i, hi => by
    have z : i = 8 := by omega
    subst z
    rw [qX0_allFronts_4, if_pos (nI_le (by omega) (by omega))]
  | k + 1, i, hi => by
    rw [qX0_allFronts_4, if_neg (nI_ge (by omega) (by omega)), pm_ix_nI (by omega) (by decide), nI_add]
    exact fr_c k (i + 1) (by omega)
theorem c_fronts {d : Nat} {h : pmH} : pm_cf (pm_Ev sl xs) (d + 1) 1 [.ref 36] (SH, h) = some (some (.int (sumF (h 36) 8)), (SH, h)) := by
  rw [qX0_allFronts_0]; exact fr_c 8 0 (by omega)
theorem fr_m {d : Nat} {h : pmH} {b1 b2 : Int32} {o5 o6 o7 o8 o9 o10 o11 o12 : Option Value} : ∀ (k i : Nat), i + k = 8 → pm_Ev sl xs (d + 1) 140 31 [some (.ref 40), some (.int b1), some (.int b2), some (.int (sumF (h 56) i)), some (.int (nI i)), o5, o6, o7, o8, o9, o10, o11, o12] [] (SH, h) = pm_Ev sl xs (d + 1) 140 31 [some (.ref 40), some (.int b1), some (.int b2), some (.int (sumF (h 56) 8)), some (.int (nI 8)), o5, o6, o7, o8, o9, o10, o11, o12] [] (SH, h)
  | 0, i, hi => by
    have z : i = 8 := by omega
    subst z
    rfl
  | k + 1, i, hi => by
    have ih := fr_m (d := d) (h := h) (b1 := b1) (b2 := b2) (o5 := o5) (o6 := o6) (o7 := o7) (o8 := o8) (o9 := o9) (o10 := o10) (o11 := o11) (o12 := o12) k (i + 1) (by omega)
    rw [← ih, qX8_share_31, if_neg (nI_ge (by omega) (by omega)), pm_ix_nI (by omega) (by decide), nI_add]
    rfl
theorem step_share {a c : Int32} : Step sl xs 77 140 [.int a, .int c] := by
  intro d h ⟨n, m, q, hi⟩
  have hB : VB h := hi.2.2.2.2.2.2.2.2.2.2
  have e36 : h 56 = h 36 := (hi.eq (by decide)).symm
  have e35 : h 39 5 = h 35 1 := hi.2.2.1.2.2.2.2.2.2.symm
  cases hr : inR a (-nI 1) (nI 7) with
  | false =>
    refine ⟨-1000000001, pm_up h 1 1 (h 1 1 + nI 1), _, ?_, ?_, n, m, q, hi.fnd 1⟩
    · rw [qX7_share_0, c_within, pm_ri_ok, hr, bI_f, c_find (k := 1) (by decide) f_1, pm_ri_ok]
    · rw [qX8_share_0, c_in, pm_ri_ok, hr, bI_f, c_finds (by decide), pm_ri_ok, g_1]
  | true =>
    cases hr2 : inR c (nI 0) 1000000 with
    | false =>
      refine ⟨-1000000001, pm_up h 1 1 (h 1 1 + nI 1), _, ?_, ?_, n, m, q, hi.fnd 1⟩
      · rw [qX7_share_0, c_within, pm_ri_ok, hr, bI_t, c_within, pm_ri_ok, hr2, bI_f, c_find (k := 1) (by decide) f_1, pm_ri_ok]
      · rw [qX8_share_0, c_in, pm_ri_ok, hr, bI_t, c_in, pm_ri_ok, hr2, bI_f, c_finds (by decide), pm_ri_ok, g_1]
    | true =>
      have hr3 := hr2
      rw [n1000000] at hr3
      obtain ⟨B, -, B2, rfl⟩ := inR_nat (by decide) (by decide) hr3
      obtain ⟨P, P2, P3⟩ := hB.2
      have hV : VCf (h 36) 8 := hB.1
      obtain ⟨s1, s2⟩ := sumF_N hV 8 (Nat.le_refl _)
      obtain ⟨A, hA⟩ : ∃ A, A = sN (h 36) 8 := ⟨_, rfl⟩
      rw [← hA] at s1 s2
      have mr : ∀ (o : Int32), pm_cf (pm_Ev sl xs) (d + 40) 140 [.ref 40, .int a, .int (nI B)] (SH, h) = pm_Ev sl xs (d + 38 + 1) 140 31 [some (.ref 40), some (.int a), some (.int (nI B)), some (.int (nI A)), some (.int (nI 8)), none, none, none, none, none, none, none, none] [] (SH, h) := fun _ => by
        have := fr_m (sl := sl) (xs := xs) (d := d + 38) (h := h) (b1 := a) (b2 := nI B) (o5 := none) (o6 := none) (o7 := none) (o8 := none) (o9 := none) (o10 := none) (o11 := none) (o12 := none) 8 0 (by omega)
        rw [e36, s1] at this
        rw [qX8_share_0, c_in, pm_ri_ok, hr, bI_t, c_in, pm_ri_ok, hr2, bI_t, ← this]
        rfl
      have mr := mr 0
      have hBP : B * P ≤ 1000000 * 100 := Nat.mul_le_mul B2 P2
      have htown : (nI B * nI P) / nI 100 = nI (B * P / 100) := by rw [pk_mul, pk_div (by omega) (by decide) (by decide)]
      have hle : B * P / 100 ≤ B := by
        have : B * P ≤ B * 100 := Nat.mul_le_mul (Nat.le_refl _) P2
        omega
      have z100' : ¬ nI 100 = 0 := by decide
      by_cases ha : a < 0
      · have na : ¬ 0 ≤ a := fun z => (ge0 _).mp z ha
        by_cases h0 : A = 0
        · refine ⟨nI B, h, h, ?_, ?_, n, m, q, hi⟩
          · rw [qX7_share_0, c_within, pm_ri_ok, hr, bI_t, c_within, pm_ri_ok, hr2, bI_t, if_neg na, qX0_townPays_0, c_fronts, pm_ri_ok, s1, h0, if_pos z00, pm_ri_ok]
          · rw [mr, qX8_share_31, if_pos (nI_le (by omega) (by omega)), h0, if_pos z00, if_neg na]
        · have hz : ¬ nI A = 0 := nI_ne0 (by omega) (by omega)
          refine ⟨nI (B * P / 100), h, h, ?_, ?_, n, m, q, hi⟩
          · rw [qX7_share_0, c_within, pm_ri_ok, hr, bI_t, c_within, pm_ri_ok, hr2, bI_t, if_neg na, qX0_townPays_0, c_fronts, pm_ri_ok, s1, if_neg hz, if_neg z100', P3, htown, pm_ri_ok]
          · rw [mr, qX8_share_31, if_pos (nI_le (by omega) (by omega)), if_neg hz, if_neg z100', if_neg na, e35, P3, htown]
      · obtain ⟨s, hs1, rfl⟩ := nI_of ha
        have hs : s < 8 := by
          unfold inR at hr
          simp only [Bool.and_eq_true, decide_eq_true_eq] at hr
          have := hr.2
          rcases Nat.lt_or_ge s 8 with z | z
          · exact z
          · exact absurd (nI_lt (show 7 < s by omega) hs1) this
        have na : 0 ≤ nI s := (ge0 _).mpr ha
        by_cases h0 : A = 0
        · refine ⟨nI 0, h, h, ?_, ?_, n, m, q, hi⟩
          · rw [qX7_share_0, c_within, pm_ri_ok, hr, bI_t, c_within, pm_ri_ok, hr2, bI_t, if_pos na, qX0_shopPays_0, c_fronts, pm_ri_ok, s1, h0, if_pos z00, pm_ri_ok]
          · rw [mr, qX8_share_31, if_pos (nI_le (by omega) (by omega)), h0, if_pos z00, if_pos na]
        · have hz : ¬ nI A = 0 := nI_ne0 (by omega) (by omega)
          obtain ⟨R, hR⟩ : ∃ R, R = B - B * P / 100 := ⟨_, rfl⟩
          have hrest : nI B - nI (B * P / 100) = nI R := by rw [pk_sub hle, hR]
          have hRb : R ≤ 1000000 := by omega
          have hF : ∀ j, j < 8 → h 36 j = nI (h 36 j).toNatClampNeg := fun j hj => (hV.cl hj).2
          have hF1 : ∀ j, j < 8 → (h 36 j).toNatClampNeg ≤ 1000 := fun j hj => (hV.cl hj).1
          have hRF : ∀ j, j < 8 → R * (h 36 j).toNatClampNeg < 2 ^ 31 := fun j hj => by
            have := Nat.mul_le_mul hRb (hF1 j hj)
            omega
          have hown : nI R * h 36 s - nI R * h 36 s / nI A * nI A = nI (R * (h 36 s).toNatClampNeg % A) := by
            rw [hF s hs, pk_mul, nI_clamp (by have := hF1 s hs; omega), pk_rem (hRF s hs) (by omega) (by omega)]
          refine ⟨shW R A (fun j => (h 36 j).toNatClampNeg) s 8 0 (nI R) (nI 0), h, h, ?_, ?_, n, m, q, hi⟩
          · rw [qX7_share_0, c_within, pm_ri_ok, hr, bI_t, c_within, pm_ri_ok, hr2, bI_t, if_pos na, qX0_shopPays_0, c_fronts, pm_ri_ok, s1, if_neg hz, qX0_townPays_0, c_fronts, pm_ri_ok, s1, if_neg hz, if_neg z100', P3, htown, pm_ri_ok, pm_ix_nI hs (by decide), if_neg hz, hrest, hown]
            rw [share_c (d := d + 37) (F := fun j => (h 36 j).toNatClampNeg) hs (by omega) (by omega) hF hRF 8 0 _ _ _ _ (by omega), pm_ri_ok]
          · have hzl : ¬ lN A = 0 := fun z => by
              rw [lN_0', pk_lEQ (by omega) (by omega)] at z
              omega
            have hownL : lN R * (h 36 s).toInt64 - lN R * (h 36 s).toInt64 / lN A * lN A = lN (R * (h 36 s).toNatClampNeg % A) := by
              have e : (h 36 s).toInt64 = lN (h 36 s).toNatClampNeg := by
                rw [hF s hs, nI_l (by have := hF1 s hs; omega), nI_clamp (by have := hF1 s hs; omega)]
              rw [e, lN_mul, pk_lRem (Nat.lt_trans (hRF s hs) (by decide)) (by omega) (by omega)]
            rw [mr, qX8_share_31, if_pos (nI_le (by omega) (by omega)), if_neg hz, if_neg z100', if_pos na, e35, P3, htown, hrest, pm_ix_nI hs (by decide), e36, nI_l (show A < 2 ^ 31 by omega), nI_l (show R < 2 ^ 31 by omega), if_neg hzl, hownL]
            exact share_m (d := d + 38) (F := fun j => (h 36 j).toNatClampNeg) hs (by omega) (by omega) (fun j hj => by have := hF1 j hj; omega) (by omega) (by rw [e36]; exact hF) hRF 8 0 _ _ _ _ (by omega)
end SHARE
