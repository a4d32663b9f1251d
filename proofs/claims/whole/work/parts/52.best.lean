/-! best -/
theorem ordL_id {f : Nat → Int32} : ∀ (k i : Nat), i + k ≤ 24 → (∀ j, i ≤ j → j < i + k → f j = nI j) → ordL f k i = List.range' i k
  | 0, i, _, _ => rfl
  | k + 1, i, hb, h => by
    rw [ordL, h i (Nat.le_refl _) (by omega), nI_clamp (by omega), ordL_id k (i + 1) (by omega) (fun j j1 j2 => h j (by omega) (by omega))]
    rfl
theorem range_getD {n i : Nat} (hi : i < n) : (List.range n).getD i 0 = i := by
  rw [List.getD_eq_getElem?_getD, List.getElem?_range hi]
  rfl
section BEST2
variable {sl : Nat} {xs : Nat → Int32}
theorem ids_c {d : Nat} {g : pmH} {n : Nat} (hn : n ≤ 6) (n7 : g 7 0 = nI n) : ∀ (k i : Nat) (f : Nat → Int32), i + k = n → (∀ j, j < i → f j = nI j) → ∃ f2, pm_Ev sl xs (d + 1) 36 2 [some (.ref 29), some (.int (nI i))] [] (SH, pm_pt g 30 f) = pm_Ev sl xs (d + 1) 36 2 [some (.ref 29), some (.int (nI n))] [] (SH, pm_pt g 30 f2) ∧ (∀ j, j < n → f2 j = nI j) ∧ ∀ j, n ≤ j → f2 j = f j
  | 0, i, f, hk, hf => by
    have e : i = n := by omega
    subst e
    exact ⟨f, rfl, hf, fun _ _ => rfl⟩
  | k + 1, i, f, hk, hf => by
    obtain ⟨f2, a1, a2, a3⟩ := ids_c (d := d) hn n7 k (i + 1) (upd f i (nI i)) (by omega) (fun j hj => by
      by_cases e : j = i
      · subst e; rw [upd_s]
      · rw [upd_n e]; exact hf j (by omega))
    refine ⟨f2, ?_, a2, fun j hj => by rw [a3 j hj, upd_n (by omega)]⟩
    rw [qX4_takeBestOrder_2, pt_ne (a := 7) (by decide), n7, if_neg (nI_ge (by omega) (by omega)), pm_ix_nI (by omega) (by decide), pt_up, nI_add]
    exact a1
theorem c_takeBest {d : Nat} {h : pmH} {C H n : Nat} (hC : C ≤ 3) (hH : H ≤ 12) (hn : n ≤ 6) (hV : VS h n) (hp : PKc h h C H n) : ∃ h2, pm_cf (pm_Ev sl xs) (d + 12) 36 [.ref 29] (SH, h) = some (some (.int (nI ((dfL n n 0).foldl (ftS h C (qz H) 0 []) (100, List.range n)).1)), (SH, h2)) ∧ RO (h2 30) ((dfL n n 0).foldl (ftS h C (qz H) 0 []) (100, List.range n)).2 n ∧ (∀ j, n ≤ j → h2 30 j = h 30 j) ∧ (∀ k, k ∉ [28, 30, 31, 32, 33, 34] → h2 k = h k) ∧ ∀ j, j ≠ 9 → h2 28 j = h 28 j := by
  obtain ⟨k9, k10, k11, k29, k1, k2, k7⟩ := hp
  obtain ⟨f, a1, a2, a3⟩ := ids_c (sl := sl) (xs := xs) (d := d + 10) (g := h) hn k7 n 0 (h 30) (by omega) (fun j hj => absurd hj (Nat.not_lt_zero _))
  rw [pt_self] at a1
  obtain ⟨g, hg⟩ : ∃ g, g = pm_pt h 30 f := ⟨_, rfl⟩
  rw [← hg] at a1
  have gn : ∀ k, k ≠ 30 → g k = h k := fun k hk => by rw [hg, pt_ne hk]
  have g30 : g 30 = f := by rw [hg, pt_same]
  have hpg : PKc g h C H n := by
    unfold PKc
    rw [gn 9 (by decide), gn 10 (by decide), gn 11 (by decide), gn 29 (by decide), gn 28 (by decide), gn 7 (by decide)]
    exact ⟨rfl, rfl, rfl, rfl, k1, k2, k7⟩
  have hall := c_hangAll (sl := sl) (xs := xs) (d := d + 8) hC hH (show n ≤ 24 by omega) hV hpg (fun j hj => by rw [g30]; exact ⟨j, hj, a2 j hj⟩)
  have eid : ordL (g 30) n 0 = List.range n := by
    rw [g30, ordL_id n 0 (by omega) (fun j _ j2 => a2 j (by omega)), List.range_eq_range']
  rw [eid] at hall
  -- the end by the numbers
  have hlt : ∀ s ∈ List.range n, s < n := fun s hs => List.mem_range.mp hs
  have hq0 : ∀ g : pmH, EqS n (q0c g H) (qz H) := fun g => ⟨fun j hj => ⟨if_pos (by omega), if_pos (by omega)⟩, fun j hj => if_pos hj⟩
  have eE : (plL h C (List.range n) (q0c g H) 0).2 = (plL h C (List.range n) (qz H) 0).2 := (plL_cg hC hV (by omega) hH (List.range n) _ _ 0 hlt (q0c_GQ (by omega)) (hq0 g)).1
  have hE99 := plL_le (C := C) hV (show n ≤ 24 by omega) hH (List.range n) (qz H) 0 hlt qz_GQ (by omega)
  rw [eE] at hall
  obtain ⟨X, hX⟩ : ∃ X, X = pm_up (S3 g (plL h C (List.range n) (q0c g H) 0).1) 28 9 (nI (plL h C (List.range n) (qz H) 0).2) := ⟨_, rfl⟩
  have Xn : ∀ k, k ∉ [28, 31, 32, 33] → X k = g k := fun k hk => by
    simp at hk
    rw [hX, pm_up_ne (by omega), S3_ne (by omega) (by omega) (by omega)]
  have X28 : X 28 = upd (h 28) 9 (nI (plL h C (List.range n) (qz H) 0).2) := by
    rw [hX, pm_up_same, S3_ne (by decide) (by decide) (by decide), gn 28 (by decide)]
  have cl := c_clear (sl := sl) (xs := xs) (d := d + 9) (g := X) (H := H) (by rw [X28, upd_n (by decide)]; exact k2)
  obtain ⟨x1, x2, x3, y1, y2, y3, y4, y5, y6, y7⟩ := try_c (sl := sl) (xs := xs) (g := X) (h := h) (C := C) (H := H) hC hH hn hV (by rw [Xn 9 (by decide), gn 9 (by decide)]) (by rw [Xn 10 (by decide), gn 10 (by decide)]) (by rw [Xn 11 (by decide), gn 11 (by decide)]) (by rw [Xn 29 (by decide), gn 29 (by decide)]) (by rw [Xn 7 (by decide), gn 7 (by decide)]; exact k7) n (d + 8 - n) 0 0 0 [] (q0c X H) (X 34) (X 30) (X 28) ((plL h C (List.range n) (qz H) 0).2, List.range n) (by omega) rfl (by decide) (by omega) (q0c_GQ (by omega)) (fun s hs _ => ⟨if_pos (by omega), if_pos (by omega)⟩) (fun i hi => absurd hi (Nat.not_lt_zero _)) (fun i hi => by
    show X 30 i = nI ((List.range n).getD i 0)
    rw [Xn 30 (by decide), g30, a2 i hi, range_getD hi]) (by rw [X28, upd_s]) hE99 (by rw [X28, upd_n (by decide)]; exact k1) (by rw [X28, upd_n (by decide)]; exact k2)
  -- the same fold
  have eF : (dfL n n 0).foldl (ftS h C (q0c X H) 0 []) ((plL h C (List.range n) (qz H) 0).2, List.range n) = (dfL n n 0).foldl (ftS h C (qz H) 0 []) (100, List.range n) := by
    rw [fold_cg (r := qz H) (dfL n n 0) _ (fun l hl => (plL_cg hC hV (by omega) hH l _ _ 0 (pm_of hn hl).2.1 (q0c_GQ (by omega)) (hq0 X)).1)]
    obtain ⟨L, hL⟩ : ∃ L, dfL n n 0 = List.range n :: L := by
      have := po_hd n (by omega)
      cases hd : dfL n n 0 with
      | nil => rw [hd] at this; cases this
      | cons a L =>
        rw [hd] at this
        exact ⟨L, by rw [Option.some.inj this]⟩
    rw [hL]
    exact fold_hd (by omega)
  rw [eF] at y3 y5
  dsimp only at y1
  rw [G3_self, show d + 8 - n + n + 3 = d + 11 by omega] at y1
  refine ⟨S3 (G3 X x1 x2 x3) (q0c X H), ?_, ?_, fun j hj => ?_, fun k hk => ?_, fun j hj => ?_⟩
  · rw [qX4_takeBestOrder_0]
    refine a1.trans ?_
    rw [qX4_takeBestOrder_2, gn 7 (by decide), k7, if_pos (nI_le (Nat.le_refl _) (by omega)), hall, pm_ri_ok, ← hX, cl, pm_rv_ok]
    have y1' := y1
    rw [show nI 0 = nI 0 from rfl] at y1'
    rw [y1', pm_rv_ok, W_28v, y5]
  · rw [W_30v]; exact y3
  · rw [W_30v, y4 j hj, Xn 30 (by decide), g30, a3 j hj]
  · rw [W_n hk]
    simp at hk
    rw [Xn k (by simp; omega), gn k (by omega)]
  · rw [W_28v, y7 j hj, X28, upd_n hj]
theorem step_best : Step sl xs 74 137 [] := by
  intro d h ⟨n, m, q, hi⟩
  obtain ⟨⟨C, C1, C2, C3⟩, ⟨H, H1, H2, H3⟩⟩ := hi.2.2.2.2.2.2.2.2.2.1
  have hn : n ≤ 24 := hi.1.1
  have hV : VS h n := hi.2.2.2.1
  by_cases c : n ≤ 6
  · obtain ⟨h1, a1, a2, a3, a4, a5⟩ := c_takeBest (sl := sl) (xs := xs) (d := d + 27) C2 H2 c hV (hi.PKc C3 H3)
    obtain ⟨h2, b1, b2, b3, b4⟩ := m_best (sl := sl) (xs := xs) (d := d + 36) (g := h1) (h := h) C2 H2 c hV (hi.PKm C3 H3 (fun k hk => a4 k (by simp; omega)))
    refine ⟨nI ((dfL n n 0).foldl (ftS h C (qz H) 0 []) (100, List.range n)).1, h1, h2, ?_, ?_, n, m, q, ?_⟩
    · rw [qX7_best_0, hi.n7, if_pos (nI_le c (by decide)), a1, pm_ri_ok]
    · exact b1
    · obtain ⟨w, hw⟩ : ∃ w, w = ((dfL n n 0).foldl (ftS h C (qz H) 0 []) (100, List.range n)).2 := ⟨_, rfl⟩
      rw [← hw] at a2 b2
      have hin : w ∈ dfL n n 0 := by
        have hb0 : List.range n ∈ dfL n n 0 := List.mem_of_getElem? (i := 0) (by rw [← List.head?_eq_getElem?]; exact po_hd n (by omega))
        rw [hw]
        rcases fold_in (h := h) (C := C) (q := qz H) (e := 0) (dfL n n 0) (100, List.range n) with z | z
        · rw [z]; exact hb0
        · exact z
      obtain ⟨q1, q2, q3⟩ := pm_of c hin
      have e59 : h 59 = h 30 := (hi.eq (by decide)).symm
      have e1 : h2 30 = h1 30 := b4 30 (by decide)
      have e2 : h2 59 = h1 30 := by
        funext j
        rcases Nat.lt_or_ge j n with z | z
        · rw [b2 j z, a2 j z]
        · rw [b3 j z, a4 59 (by decide), e59, a3 j z]
      refine hi.row30 (f := h1 30) (fun k hk hk2 => ?_) (fun p hp => ?_) e1 e2 (RO_PM hn q1 q2 q3 a2)
      · have k1 : ∀ k ∈ relA, k ∉ [30, 59] → k ∉ [59, 65, 66, 67, 68] ∧ k ∉ [28, 30, 31, 32, 33, 34] := by decide
        rw [b4 k (k1 k hk hk2).1, a4 k (k1 k hk hk2).2]
      · have k2 : ∀ p ∈ relF, p.1 ∉ [59, 65, 66, 67, 68] ∧ (p.1 ∉ [28, 30, 31, 32, 33, 34] ∨ (p.1 = 28 ∧ p.2 ≠ 9)) := by decide
        rw [b4 p.1 (k2 p hp).1]
        rcases (k2 p hp).2 with z | ⟨z, z2⟩
        · rw [a4 p.1 z]
        · rw [z]; exact a5 p.2 z2
  · refine ⟨-1000000003, pm_up h 1 3 (h 1 3 + nI 1), _, ?_, ?_, n, m, q, hi.fnd 3⟩
    · rw [qX7_best_0, hi.n7, if_neg (nI_ge (by omega) (by omega)), c_find (k := 3) (by decide) f_3, pm_ri_ok]
    · rw [qX8_best_0, pm_up_ne (a := 39) (by decide), hi.n39, if_neg (nI_ge (by omega) (by omega)), c_finds (by decide), pm_ri_ok, g_3]
end BEST2
