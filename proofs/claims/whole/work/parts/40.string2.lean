/-! string: its end on both sides -/
def gC (h : pmH) (n : Nat) (kd up st a2 a3 a4 a5 : Int32) : pmH := pm_up (pm_up (pm_up (pm_up (pm_up (pm_up (pm_up (pm_up h 10 n st) 8 n kd) 9 n up) 11 n a2) 12 n a3) 13 n a4) 14 n a5) 7 0 (nI (n + 1))
def gM (h : pmH) (n : Nat) (kd up st a2 a3 a4 a5 : Int32) : pmH := pm_up (pm_up (pm_up (pm_up (pm_up (pm_up (pm_up (pm_up (pm_up h 43 n kd) 44 n up) 45 n st) 46 n a2) 47 n a3) 48 n a4) 49 n a5) 50 n (nI 0)) 53 n (nI 0)
def upv (u a1 : Int32) : Int32 := if u = nI 1 then a1 else -nI 1
section STRING2
variable {sl : Nat} {xs : Nat → Int32}
theorem okS_all {a0 a1 a2 a3 a4 a5 : Int32} {n : Nat} (h : okS a0 a1 a2 a3 a4 a5 n = true) : isH a0 = true ∧ isU (a0 - a0 / nI 10 * nI 10) a1 n = true ∧ inR a2 (nI 1) (nI 100) = true ∧ inR a3 (nI 1) (nI 10) = true ∧ inR a4 (nI 1) (nI 60) = true ∧ inR a5 (nI 1) (nI 20) = true := by
  unfold okS at h
  simp only [Bool.and_eq_true] at h
  exact h
theorem str_pre {d : Nat} {h : pmH} {n m : Nat} {a0 a1 a2 a3 a4 a5 : Int32} (hm : m ≤ 12) (n7 : h 7 0 = nI n) (m2 : h 2 0 = nI m) (hok : okS a0 a1 a2 a3 a4 a5 n = true) : pm_cf (pm_Ev sl xs) (d + 3) 55 [.ref 1, .int a0, .int a1, .int a2, .int a3, .int a4, .int a5] (SH, h) = if a4 ≤ sumF (h 4) m then (if (h 7 0) < (nI 24) then (pm_ri (pm_cf (pm_Ev sl xs) (d + 1 + 1) 42 [.ref 8, .int a0, .int a1, .int a2, .int a3, .int a4, .int a5] (SH, h)) SH fun x26 h25 => pm_Ev sl xs (d + 1 + 1) 55 128 [some (.ref 1), some (.int a0), some (.int a1), some (.int a2), some (.int a3), some (.int a4), some (.int a5), some (.int x26), some (.int (nI 0))] [] (SH, h25)) else some (some (.int (-1000000004)), (SH, pm_up h 1 4 (h 1 4 + nI 1)))) else some (some (.int (-1000000003)), (SH, pm_up h 1 3 (h 1 3 + nI 1))) := by
  obtain ⟨b1, b2, b3, b4, b5, b6⟩ := okS_all hok
  rw [qX7_string_0, c_isHow, pm_ri_ok, b1, bI_t, if_neg z10', c_isUp n7, pm_ri_ok, b2, bI_t, c_within, pm_ri_ok, b3, bI_t, c_within, pm_ri_ok, b4, bI_t, c_within, pm_ri_ok, b5, bI_t, c_within, pm_ri_ok, b6, bI_t, c_allLeft hm m2, pm_ri_ok, c_find (k := 3) (by decide) f_3, c_find (k := 4) (by decide) f_4, pm_ri_ok, pm_ri_ok]
theorem str_add {d : Nat} {h : pmH} {n : Nat} {a0 a1 a2 a3 a4 a5 : Int32} (hn : n < 24) (n7 : h 7 0 = nI n) : pm_cf (pm_Ev sl xs) (d + 1) 42 [.ref 8, .int a0, .int a1, .int a2, .int a3, .int a4, .int a5] (SH, h) = some (some (.int (nI n)), (SH, gC h n (a0 / nI 10 - a0 / nI 10 / nI 10 * nI 10) (upv (a0 - a0 / nI 10 * nI 10) a1) (a0 / nI 100) a2 a3 a4 a5)) := by
  have ix : ∀ (t : Nat → Option pmR), pm_ix none (nI n) 24 t = t n := fun t => pm_ix_nI hn (by decide)
  rw [qX5_add_0, n7, if_neg z100, ix, if_neg z10', if_neg z10', ix, if_neg z10', nI_add]
  unfold gC upv
  by_cases e : a0 - a0 / nI 10 * nI 10 = nI 1
  · rw [if_pos e, if_pos e, ix, ix, ix, ix, ix]
  · rw [if_neg e, if_neg e, ix, ix, ix, ix, ix]
theorem str_pre_m {d : Nat} {h : pmH} {n m : Nat} {a0 a1 a2 a3 a4 a5 : Int32} (hn : n ≤ 24) (hm : m ≤ 12) (n39 : h 39 1 = nI n) (m39 : h 39 0 = nI m) (hok : okS a0 a1 a2 a3 a4 a5 n = true) : ∃ o7, pm_cf (pm_Ev sl xs) (d + 3) 102 [.ref 40, .int a0, .int a1, .int a2, .int a3, .int a4, .int a5] (SH, h) = if a4 ≤ sumF (h 41) m then (if nI n = nI 24 then some (some (.int (-1000000004)), (SH, pm_up h 58 4 (h 58 4 + nI 1))) else (pm_ix none (nI n) 24 fun j => pm_Ev sl xs (d + 1 + 1) 102 254 [some (.ref 40), some (.int a0), some (.int a1), some (.int a2), some (.int a3), some (.int a4), some (.int a5), o7, some (.int (nI n)), some (.int (nI 0))] [] (SH, gM h j (a0 / nI 10 - a0 / nI 10 / nI 10 * nI 10) (upv (a0 - a0 / nI 10 * nI 10) a1) (a0 / nI 100) a2 a3 a4 a5))) else some (some (.int (-1000000003)), (SH, pm_up h 58 3 (h 58 3 + nI 1))) := by
  obtain ⟨b1, b2, b3, b4, b5, b6⟩ := okS_all hok
  unfold isH at b1
  simp only [Bool.and_eq_true, decide_eq_true_eq] at b1
  obtain ⟨h1, h2, h3, h4⟩ := b1
  have h2' : ¬ nI 7 < a0 / nI 100 := fun z => h2 (lt7.mp z)
  have hf3 : pm_cf (pm_Ev sl xs) (d + 1 + 1) 96 [.ref 40, .int (nI 3)] (SH, h) = some (some (.int (-1000000003)), (SH, pm_up h 58 3 (h 58 3 + nI 1))) := by rw [c_finds (by decide), g_3]
  have hf4 : pm_cf (pm_Ev sl xs) (d + 1 + 1) 96 [.ref 40, .int (nI 4)] (SH, h) = some (some (.int (-1000000004)), (SH, pm_up h 58 4 (h 58 4 + nI 1))) := by rw [c_finds (by decide), g_4]
  unfold isU at b2
  by_cases h5 : a0 - a0 / nI 10 * nI 10 = nI 1
  · rw [if_pos h5] at b2
    refine ⟨some (.int (nI 1)), ?_⟩
    rw [qX8_string_0, if_neg z10', if_pos h5, if_neg h1, if_neg z100, if_neg h2', if_neg z10', if_neg z10', if_neg h3, if_neg z10', if_neg h4, if_neg z10, c_isS n39 hn, pm_ri_ok, b2, bI_t, c_in, pm_ri_ok, b3, bI_t, c_in, pm_ri_ok, b4, bI_t, c_in, pm_ri_ok, b5, bI_t, c_in, pm_ri_ok, b6, bI_t, c_lampsLeft hm m39, pm_ri_ok, hf3, hf4, pm_ri_ok, pm_ri_ok, n39]
    unfold gM upv
    by_cases c1 : a4 ≤ sumF (h 41) m
    · rw [if_pos c1, if_pos c1]
      by_cases c2 : nI n = nI 24
      · rw [if_pos c2, if_pos c2]
      · have ix : ∀ (t : Nat → Option pmR), pm_ix none (nI n) 24 t = t n := fun t => pm_ix_nI (by
          rcases Nat.lt_or_ge n 24 with z | z
          · exact z
          · exact absurd (by rw [show n = 24 by omega]) c2) (by decide)
        rw [if_neg c2, if_neg c2, if_neg z10', if_neg z10', ix, if_neg z10, ix, if_neg z100, ix, ix, ix, ix, ix, ix, ix, ix, if_pos h5]
    · rw [if_neg c1, if_neg c1]
  · rw [if_neg h5] at b2
    refine ⟨some (.int (nI 0)), ?_⟩
    rw [qX8_string_0, if_neg z10', if_neg h5, if_neg h1, if_neg z100, if_neg h2', if_neg z10', if_neg z10', if_neg h3, if_neg z10', if_neg h4, if_pos z00, if_pos (of_decide_eq_true b2), c_in, pm_ri_ok, b3, bI_t, c_in, pm_ri_ok, b4, bI_t, c_in, pm_ri_ok, b5, bI_t, c_in, pm_ri_ok, b6, bI_t, c_lampsLeft hm m39, pm_ri_ok, hf3, hf4, pm_ri_ok, pm_ri_ok, n39]
    unfold gM upv
    by_cases c1 : a4 ≤ sumF (h 41) m
    · rw [if_pos c1, if_pos c1]
      by_cases c2 : nI n = nI 24
      · rw [if_pos c2, if_pos c2]
      · have ix : ∀ (t : Nat → Option pmR), pm_ix none (nI n) 24 t = t n := fun t => pm_ix_nI (by
          rcases Nat.lt_or_ge n 24 with z | z
          · exact z
          · exact absurd (by rw [show n = 24 by omega]) c2) (by decide)
        rw [if_neg c2, if_neg c2, if_neg z10', if_neg z10', ix, if_pos z00, ix, if_neg z100, ix, ix, ix, ix, ix, ix, ix, ix, if_neg h5]
    · rw [if_neg c1, if_neg c1]
end STRING2
theorem upd_self (f : Nat → Int32) (n : Nat) : upd f n (f n) = f := by
  funext j
  by_cases e : j = n
  · subst e; rw [upd_s]
  · rw [upd_n e]
/-- all that the invariant asks of a new string -/
theorem InvN.string {h z : pmH} {n m q L : Nat} {kd up st a2 a3 a4 a5 : Int32} (hi : InvN h n m q) (hn : n < 24) (hL : L ≤ 60)
    (hk : ∃ k, k ≤ 2 ∧ kd = nI k) (hu : up = -nI 1 ∨ ∃ u, u < n ∧ up = nI u) (hst : ∃ k, k ≤ 7 ∧ st = nI k) (h2 : ∃ k, 1 ≤ k ∧ k ≤ 100 ∧ a2 = nI k) (h3 : ∃ k, 1 ≤ k ∧ k ≤ 10 ∧ a3 = nI k) (h4 : 1 ≤ L ∧ a4 = nI L) (h5 : ∃ k, 1 ≤ k ∧ k ≤ 20 ∧ a5 = nI k) (hs : L ≤ sN (h 4) m)
    (z8 : z 8 = upd (h 8) n kd) (z9 : z 9 = upd (h 9) n up) (z10 : z 10 = upd (h 10) n st) (z11 : z 11 = upd (h 11) n a2) (z12 : z 12 = upd (h 12) n a3) (z13 : z 13 = upd (h 13) n a4) (z14 : z 14 = upd (h 14) n a5)
    (z4 : z 4 = tkF m L (h 4)) (z6 : z 6 = tk6 m L (h 4) (h 6)) (z19 : z 19 = tkL m L (60 * n) (h 4) (h 19)) (z30 : z 30 = upd (h 30) n (nI n)) (z7 : z 7 0 = nI (n + 1))
    (y8 : z 43 = upd (h 43) n kd) (y9 : z 44 = upd (h 44) n up) (y10 : z 45 = upd (h 45) n st) (y11 : z 46 = upd (h 46) n a2) (y12 : z 47 = upd (h 47) n a3) (y13 : z 48 = upd (h 48) n a4) (y14 : z 49 = upd (h 49) n a5) (y15 : z 50 = upd (h 50) n (nI 0)) (y16 : z 53 = upd (h 53) n (nI 0))
    (y4 : z 41 = tkF m L (h 4)) (y19 : z 54 = tkL m L (60 * n) (h 4) (h 19)) (y30 : z 59 = upd (h 59) n (nI n)) (y39 : z 39 = upd (h 39) 1 (nI (n + 1)))
    (ho : ∀ k ∈ [1, 58, 3, 40, 5, 42, 15, 16, 17, 51, 18, 52, 29, 55, 36, 56, 38, 57, 2, 37, 20, 28, 35], z k = h k) : InvN z (n + 1) m q := by
  obtain ⟨hb, hE, hS, ⟨hVS, hV0, hVC, hVL, hVP, hVH⟩, hN, hB⟩ := hi.to
  have hE2 : ∀ {a b : Nat}, (a, b) ∈ prs → h b = h a := fun hp => (hE _ hp).symm
  have e15 : upd (h 50) n (nI 0) = h 15 := by
    rw [hE2 (a := 15) (b := 50) (by decide)]
    have := (hV0 n (Nat.le_refl _)).1
    rw [show (nI 0 : Int32) = h 15 n from this.symm]
    exact upd_self _ _
  have e16 : upd (h 53) n (nI 0) = h 16 := by
    rw [hE2 (a := 16) (b := 53) (by decide)]
    have := (hV0 n (Nat.le_refl _)).2
    rw [show (nI 0 : Int32) = h 16 n from this.symm]
    exact upd_self _ _
  obtain ⟨l1, l2⟩ := tkL_ok (m := m) L (60 * n) (h 4) (h 19) hVC hs
  refine InvN.of ⟨by omega, hb.2.1, hb.2.2⟩ ?_ ?_ ⟨?_, ?_, ?_, ?_, ?_, ?_⟩ ?_ ?_
  · intro p hp
    simp only [prs, List.mem_cons, List.not_mem_nil, or_false] at hp
    rcases hp with rfl | rfl | rfl | rfl | rfl | rfl | rfl | rfl | rfl | rfl | rfl | rfl | rfl | rfl | rfl | rfl | rfl | rfl | rfl | rfl
    · show z 1 = z 58; rw [ho 1 (by decide), ho 58 (by decide)]; exact hE (1, 58) (by decide)
    · show z 3 = z 40; rw [ho 3 (by decide), ho 40 (by decide)]; exact hE (3, 40) (by decide)
    · show z 4 = z 41; rw [z4, y4]
    · show z 5 = z 42; rw [ho 5 (by decide), ho 42 (by decide)]; exact hE (5, 42) (by decide)
    · show z 8 = z 43; rw [z8, y8, hE2 (a := 8) (b := 43) (by decide)]
    · show z 9 = z 44; rw [z9, y9, hE2 (a := 9) (b := 44) (by decide)]
    · show z 10 = z 45; rw [z10, y10, hE2 (a := 10) (b := 45) (by decide)]
    · show z 11 = z 46; rw [z11, y11, hE2 (a := 11) (b := 46) (by decide)]
    · show z 12 = z 47; rw [z12, y12, hE2 (a := 12) (b := 47) (by decide)]
    · show z 13 = z 48; rw [z13, y13, hE2 (a := 13) (b := 48) (by decide)]
    · show z 14 = z 49; rw [z14, y14, hE2 (a := 14) (b := 49) (by decide)]
    · show z 15 = z 50; rw [ho 15 (by decide), y15, e15]
    · show z 16 = z 53; rw [ho 16 (by decide), y16, e16]
    · show z 17 = z 51; rw [ho 17 (by decide), ho 51 (by decide)]; exact hE (17, 51) (by decide)
    · show z 18 = z 52; rw [ho 18 (by decide), ho 52 (by decide)]; exact hE (18, 52) (by decide)
    · show z 19 = z 54; rw [z19, y19]
    · show z 29 = z 55; rw [ho 29 (by decide), ho 55 (by decide)]; exact hE (29, 55) (by decide)
    · show z 36 = z 56; rw [ho 36 (by decide), ho 56 (by decide)]; exact hE (36, 56) (by decide)
    · show z 38 = z 57; rw [ho 38 (by decide), ho 57 (by decide)]; exact hE (38, 57) (by decide)
    · show z 30 = z 59; rw [z30, y30, hE2 (a := 30) (b := 59) (by decide)]
  · unfold SC at hS ⊢
    rw [z7, y39, ho 2 (by decide), ho 37 (by decide), ho 20 (by decide), ho 28 (by decide), ho 35 (by decide), upd_s, upd_n (by decide), upd_n (by decide), upd_n (by decide), upd_n (by decide), upd_n (by decide), upd_n (by decide)]
    exact ⟨⟨rfl, rfl⟩, hS.2⟩
  · intro j hj
    rw [z8, z9, z10, z11, z12, z13, z14, ho 15 (by decide), ho 16 (by decide)]
    by_cases e : j = n
    · subst e
      rw [upd_s, upd_s, upd_s, upd_s, upd_s, upd_s, upd_s]
      obtain ⟨v1, v2⟩ := hV0 j (Nat.le_refl _)
      exact ⟨hk, hu, hst, h2, h3, ⟨L, h4.1, hL, h4.2⟩, h5, ⟨0, by omega, v1⟩, Or.inl v2⟩
    · rw [upd_n e, upd_n e, upd_n e, upd_n e, upd_n e, upd_n e, upd_n e]
      exact hVS j (by omega)
  · intro j hj
    rw [ho 15 (by decide), ho 16 (by decide)]
    exact hV0 j (by omega)
  · unfold VC; rw [z4]; exact tkF_ok L _ hVC hs
  · intro s p s1 p1 hp
    rw [z13] at hp
    rw [z19]
    by_cases e : s = n
    · subst e
      rw [upd_s, h4.2] at hp
      have hpL : p < L := (nI_ltI (by omega) (by omega)).mp hp
      obtain ⟨c, c1, c2⟩ := l2 (60 * s + p) (by omega) (by omega)
      exact ⟨c, c1, c2⟩
    · rw [upd_n e] at hp
      rw [l1 (60 * s + p) (by omega)]
      exact hVL s p (by omega) p1 hp
  · unfold VP
    rw [z30]
    refine ⟨fun j hj => ?_, fun i j hi9 hj h9 => ?_⟩
    · by_cases e : j = n
      · subst e; rw [upd_s]; exact ⟨j, by omega, rfl⟩
      · rw [upd_n e]
        obtain ⟨p, p1, p2⟩ := hVP.1 j (by omega)
        exact ⟨p, by omega, p2⟩
    · by_cases e1 : i = n
      · subst e1
        by_cases e2 : j = i
        · exact e2.symm
        · rw [upd_s, upd_n e2] at h9
          obtain ⟨p, p1, p2⟩ := hVP.1 j (by omega)
          rw [p2] at h9
          have := (nI_eq (by omega) (by omega)).mp h9
          omega
      · by_cases e2 : j = n
        · subst e2
          rw [upd_s, upd_n e1] at h9
          obtain ⟨p, p1, p2⟩ := hVP.1 i (by omega)
          rw [p2] at h9
          have := (nI_eq (by omega) (by omega)).mp h9
          omega
        · rw [upd_n e1, upd_n e2] at h9
          exact hVP.2 i j (by omega) (by omega) h9
  · intro c hc
    have hP1 : ∀ s, s < n → ∀ k, k ≤ 60 → cntP z s c k = cntP h s c k := fun s hs9 k => by
      induction k with
      | zero => intro _; rfl
      | succ k ih =>
        intro hk9
        rw [cntP, cntP, ih (by omega), z13, z19, upd_n (by omega), l1 (60 * s + k) (by omega)]
    have hS1 : ∀ k, k ≤ n → cntS z c k = cntS h c k := fun k => by
      induction k with
      | zero => intro _; rfl
      | succ k ih =>
        intro hk9
        rw [cntS, cntS, ih (by omega), hP1 k (by omega) 60 (Nat.le_refl _)]
    have hQ : ∀ k, k ≤ L → cntP z n c k = cq (tkL m L (60 * n) (h 4) (h 19)) c (60 * n) k := fun k => by
      induction k with
      | zero => intro _; rfl
      | succ k ih =>
        intro hk9
        rw [cntP, cq_t, ih (by omega), z13, upd_s, h4.2, if_pos (nI_lt (by omega) (by omega)), z19]
    have hG : cntP z n c 60 = cntP z n c L := by
      have := cntP_ge (h := z) (s := n) (c := c) (L := L) (by rw [z13, upd_s]; exact h4.2) hL (60 - L) (by omega)
      rw [show L + (60 - L) = 60 by omega] at this
      exact this
    rw [z6, tk6_ok hb.2.1 hc L (60 * n) (h 4) (h 19) (h 6) hVC hs, hVH c hc, nI_add, cntS, hS1 n (Nat.le_refl _), hG, hQ L (Nat.le_refl _)]
  · unfold VN; rw [ho 28 (by decide)]; exact hN
  · unfold VB; rw [ho 36 (by decide), ho 35 (by decide)]; exact hB
theorem step_string {sl : Nat} {xs : Nat → Int32} {a0 a1 a2 a3 a4 a5 : Int32} : Step sl xs 55 102 [.int a0, .int a1, .int a2, .int a3, .int a4, .int a5] := by
  intro d h ⟨n, m, q, hi⟩
  have hn : n ≤ 24 := hi.1.1
  have hm : m ≤ 12 := hi.1.2.1
  have n7 := hi.n7
  have m2 : h 2 0 = nI m := hi.2.2.1.2.1.1
  have n39 : ∀ {x : pmH}, x 39 = h 39 → x 39 1 = nI n := fun e => by rw [e]; exact hi.n39
  have m39 : ∀ {x : pmH}, x 39 = h 39 → x 39 0 = nI m := fun e => by rw [e]; exact hi.2.2.1.2.1.2
  have e4 : h 41 = h 4 := (hi.eq (by decide)).symm
  have hC : VCf (h 4) m := hi.2.2.2.2.2.1
  obtain ⟨hs1, hs2⟩ := sumF_N hC m (Nat.le_refl _)
  cases hok : okS a0 a1 a2 a3 a4 a5 n with
  | false =>
    refine ⟨-1000000001, pm_up h 1 1 (h 1 1 + nI 1), _, ?_, ?_, n, m, q, hi.fnd 1⟩
    · exact str_bad (d := d + 37) n7 hok
    · exact str_bad_m (d := d + 37) (n39 (pm_up_ne (by decide))) hn hok
  | true =>
    obtain ⟨b1, b2, b3, b4, b5, b6⟩ := okS_all hok
    obtain ⟨L, L1, L2, L3⟩ := inR_nat (by decide) (by decide) b5
    by_cases hl : L ≤ sN (h 4) m
    · have hle : a4 ≤ sumF (h 4) m := by rw [hs1, L3]; exact nI_le hl (by omega)
      by_cases hf : n = 24
      · subst hf
        obtain ⟨o7, hmm⟩ := str_pre_m (sl := sl) (xs := xs) (d := d + 37) (h := pm_up h 1 4 (h 1 4 + nI 1)) hn hm (n39 (pm_up_ne (by decide))) (m39 (pm_up_ne (by decide))) hok
        refine ⟨-1000000004, pm_up h 1 4 (h 1 4 + nI 1), _, ?_, ?_, 24, m, q, hi.fnd 4⟩
        · rw [str_pre (d := d + 37) hm n7 m2 hok, if_pos hle, n7, if_neg (by decide)]
        · rw [hmm, pm_up_ne (a := 41) (by decide), e4, if_pos hle, if_pos rfl]
      · have hn2 : n < 24 := by omega
        obtain ⟨x, x1, x2, x3, x4, x5, x6, x7⟩ := isH_nat b1
        have hup : upv (a0 - a0 / nI 10 * nI 10) a1 = -nI 1 ∨ ∃ u, u < n ∧ upv (a0 - a0 / nI 10 * nI 10) a1 = nI u := by
          unfold upv
          unfold isU at b2
          by_cases e : a0 - a0 / nI 10 * nI 10 = nI 1
          · rw [if_pos e] at b2 ⊢
            obtain ⟨u, u1, u2⟩ := inS_nat (by omega) b2
            exact Or.inr ⟨u, u1, u2⟩
          · rw [if_neg e]; exact Or.inl rfl
        have hkd : ∃ k, k ≤ 2 ∧ a0 / nI 10 - a0 / nI 10 / nI 10 * nI 10 = nI k := ⟨_, x6, x4⟩
        have hst : ∃ k, k ≤ 7 ∧ a0 / nI 100 = nI k := ⟨x / 100, by omega, x3⟩
        have r2 := inR_nat (by decide) (by decide) b3
        have r3 := inR_nat (by decide) (by decide) b4
        have r5 := inR_nat (by decide) (by decide) b6
        have sp := str_pre (sl := sl) (xs := xs) (d := d + 37) hm n7 m2 hok
        rw [if_pos hle, n7, if_pos (nI_lt hn2 (by decide)), str_add hn2 n7, pm_ri_ok] at sp
        have mk := fun (g : pmH) (g39 : g 39 = h 39) => str_pre_m (sl := sl) (xs := xs) (d := d + 37) (h := g) hn hm (n39 g39) (m39 g39) hok
        clear x4 x5 x3 b1 b2
        generalize a0 / nI 10 - a0 / nI 10 / nI 10 * nI 10 = kd at sp mk hkd
        generalize upv (a0 - a0 / nI 10 * nI 10) a1 = up at sp mk hup
        generalize a0 / nI 100 = st at sp mk hst
        obtain ⟨g1, hg1⟩ : ∃ g, g = gC h n kd up st a2 a3 a4 a5 := ⟨_, rfl⟩
        rw [← hg1] at sp
        have gn : ∀ k, k ∉ [7, 8, 9, 10, 11, 12, 13, 14] → g1 k = h k := fun k hk => by
          simp at hk
          rw [hg1]; unfold gC
          rw [pm_up_ne (by omega), pm_up_ne (by omega), pm_up_ne (by omega), pm_up_ne (by omega), pm_up_ne (by omega), pm_up_ne (by omega), pm_up_ne (by omega), pm_up_ne (by omega)]
        have g4 : g1 4 = h 4 := gn 4 (by decide)
        have g6 : g1 6 = h 6 := gn 6 (by decide)
        have g19 : g1 19 = h 19 := gn 19 (by decide)
        have lc := str_c (sl := sl) (xs := xs) (d := d + 38) (g := g1) (n := n) (m := m) (L := L) (o1 := some (.int a0)) (o2 := some (.int a1)) (o3 := some (.int a2)) (o4 := some (.int a3)) (o6 := some (.int a5)) hn2 hm L2 (by rw [gn 2 (by decide)]; exact m2) L 0 (g1 4) (g1 6) (g1 19) (by omega) (by rw [g4]; exact hC) (by rw [g4]; exact hl)
        rw [R3_self, g4, g6, g19, ← L3, Nat.add_zero (60 * n)] at lc
        obtain ⟨hc, hhc⟩ : ∃ g, g = pm_up (R3 g1 (tkF m L (h 4)) (tk6 m L (h 4) (h 6)) (tkL m L (60 * n) (h 4) (h 19))) 30 n (nI n) := ⟨_, rfl⟩
        rw [← hhc] at lc
        have cn : ∀ k, k ∉ [4, 6, 19, 30, 7, 8, 9, 10, 11, 12, 13, 14] → hc k = h k := fun k hk => by
          simp at hk
          rw [hhc, pm_up_ne (by omega), R3_ne (by omega) (by omega) (by omega)]
          exact gn k (by simp; omega)
        obtain ⟨o7, mm⟩ := mk hc (cn 39 (by decide))
        rw [cn 41 (by decide), e4, if_pos hle, if_neg (fun z => hf ((nI_eq (by omega) (by decide)).mp z)), pm_ix_nI hn2 (by decide)] at mm
        obtain ⟨g2, hg2⟩ : ∃ g, g = gM hc n kd up st a2 a3 a4 a5 := ⟨_, rfl⟩
        rw [← hg2] at mm
        have gn2 : ∀ k, k ∉ [43, 44, 45, 46, 47, 48, 49, 50, 53] → g2 k = hc k := fun k hk => by
          simp at hk
          rw [hg2]; unfold gM
          rw [pm_up_ne (by omega), pm_up_ne (by omega), pm_up_ne (by omega), pm_up_ne (by omega), pm_up_ne (by omega), pm_up_ne (by omega), pm_up_ne (by omega), pm_up_ne (by omega), pm_up_ne (by omega)]
        have q4 : g2 41 = h 4 := by rw [gn2 41 (by decide), cn 41 (by decide), e4]
        have q19 : g2 54 = h 19 := by rw [gn2 54 (by decide), cn 54 (by decide)]; exact (hi.eq (by decide)).symm
        have lm := str_m (sl := sl) (xs := xs) (d := d + 38) (g := g2) (n := n) (m := m) (L := L) (o1 := some (.int a0)) (o2 := some (.int a1)) (o3 := some (.int a2)) (o4 := some (.int a3)) (o6 := some (.int a5)) (o7 := o7) hn2 hm L2 (by rw [gn2 39 (by decide), cn 39 (by decide)]; exact hi.n39) L 0 (g2 41) (g2 54) (by omega) (by rw [q4]; exact hC) (by rw [q4]; exact hl)
        rw [pP_self, q4, q19, ← L3, Nat.add_zero (60 * n)] at lm
        obtain ⟨z, hz⟩ : ∃ g, g = pm_up (pm_up (pP g2 41 (tkF m L (h 4)) 54 (tkL m L (60 * n) (h 4) (h 19))) 59 n (nI n)) 39 1 (nI (n + 1)) := ⟨_, rfl⟩
        rw [← hz] at lm
        have zn : ∀ k, k ∉ [41, 54, 59, 39] → z k = g2 k := fun k hk => by
          simp at hk
          rw [hz, pm_up_ne (by omega), pm_up_ne (by omega), pP_ne (by omega) (by omega)]
        have zc : ∀ k, k ∉ [41, 54, 59, 39, 43, 44, 45, 46, 47, 48, 49, 50, 53] → z k = hc k := fun k hk => by
          simp at hk
          rw [zn k (by simp; omega), gn2 k (by simp; omega)]
        refine ⟨nI n, hc, z, ?_, ?_, n + 1, m, q, ?_⟩
        · rw [sp, lc]
        · rw [mm, lm]
        · refine hi.string hn2 L2 hkd hup hst r2 r3 ⟨L1, L3⟩ r5 hl ?_ ?_ ?_ ?_ ?_ ?_ ?_ ?_ ?_ ?_ ?_ ?_ ?_ ?_ ?_ ?_ ?_ ?_ ?_ ?_ ?_ ?_ ?_ ?_ ?_ ?_
          · rw [zc 8 (by decide), hhc, pm_up_ne (by decide), R3_ne (by decide) (by decide) (by decide), hg1]; simp [gC, pm_up]
          · rw [zc 9 (by decide), hhc, pm_up_ne (by decide), R3_ne (by decide) (by decide) (by decide), hg1]; simp [gC, pm_up]
          · rw [zc 10 (by decide), hhc, pm_up_ne (by decide), R3_ne (by decide) (by decide) (by decide), hg1]; simp [gC, pm_up]
          · rw [zc 11 (by decide), hhc, pm_up_ne (by decide), R3_ne (by decide) (by decide) (by decide), hg1]; simp [gC, pm_up]
          · rw [zc 12 (by decide), hhc, pm_up_ne (by decide), R3_ne (by decide) (by decide) (by decide), hg1]; simp [gC, pm_up]
          · rw [zc 13 (by decide), hhc, pm_up_ne (by decide), R3_ne (by decide) (by decide) (by decide), hg1]; simp [gC, pm_up]
          · rw [zc 14 (by decide), hhc, pm_up_ne (by decide), R3_ne (by decide) (by decide) (by decide), hg1]; simp [gC, pm_up]
          · rw [zc 4 (by decide), hhc, pm_up_ne (by decide), R3_4]
          · rw [zc 6 (by decide), hhc, pm_up_ne (by decide), R3_6]
          · rw [zc 19 (by decide), hhc, pm_up_ne (by decide), R3_19]
          · rw [zc 30 (by decide), hhc, pm_up_same, R3_ne (by decide) (by decide) (by decide), gn 30 (by decide)]
          · rw [zc 7 (by decide), hhc, pm_up_ne (by decide), R3_ne (by decide) (by decide) (by decide), hg1]; simp [gC, pm_up, upd]
          · rw [zn 43 (by decide), hg2, ← cn 43 (by decide)]; simp [gM, pm_up]
          · rw [zn 44 (by decide), hg2, ← cn 44 (by decide)]; simp [gM, pm_up]
          · rw [zn 45 (by decide), hg2, ← cn 45 (by decide)]; simp [gM, pm_up]
          · rw [zn 46 (by decide), hg2, ← cn 46 (by decide)]; simp [gM, pm_up]
          · rw [zn 47 (by decide), hg2, ← cn 47 (by decide)]; simp [gM, pm_up]
          · rw [zn 48 (by decide), hg2, ← cn 48 (by decide)]; simp [gM, pm_up]
          · rw [zn 49 (by decide), hg2, ← cn 49 (by decide)]; simp [gM, pm_up]
          · rw [zn 50 (by decide), hg2, ← cn 50 (by decide)]; simp [gM, pm_up]
          · rw [zn 53 (by decide), hg2, ← cn 53 (by decide)]; simp [gM, pm_up]
          · rw [hz, pm_up_ne (by decide), pm_up_ne (by decide), pP_a (by decide)]
          · rw [hz, pm_up_ne (by decide), pm_up_ne (by decide), pP_b]
          · rw [hz, pm_up_ne (by decide), pm_up_same, pP_ne (by decide) (by decide), gn2 59 (by decide), cn 59 (by decide)]
          · rw [hz, pm_up_same, pm_up_ne (by decide), pP_ne (by decide) (by decide), gn2 39 (by decide), cn 39 (by decide)]
          · intro k hk
            have k1 : ∀ k ∈ [1, 58, 3, 40, 5, 42, 15, 16, 17, 51, 18, 52, 29, 55, 36, 56, 38, 57, 2, 37, 20, 28, 35], k ∉ [41, 54, 59, 39, 43, 44, 45, 46, 47, 48, 49, 50, 53] ∧ k ∉ [4, 6, 19, 30, 7, 8, 9, 10, 11, 12, 13, 14] := by decide
            rw [zc k (k1 k hk).1, cn k (k1 k hk).2]
    · have hle : ¬ a4 ≤ sumF (h 4) m := by rw [hs1, L3]; exact nI_ge (by omega) (by omega)
      obtain ⟨o7, hmm⟩ := str_pre_m (sl := sl) (xs := xs) (d := d + 37) (h := pm_up h 1 3 (h 1 3 + nI 1)) hn hm (n39 (pm_up_ne (by decide))) (m39 (pm_up_ne (by decide))) hok
      refine ⟨-1000000003, pm_up h 1 3 (h 1 3 + nI 1), _, ?_, ?_, n, m, q, hi.fnd 3⟩
      · rw [str_pre (d := d + 37) hm n7 m2 hok, if_neg hle]
      · rw [hmm, pm_up_ne (a := 41) (by decide), e4, if_neg hle]
