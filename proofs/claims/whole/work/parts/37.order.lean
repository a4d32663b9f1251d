/-! order: the places moved; a permutation stays one -/
def s1 : Nat → Nat → (Nat → Int32) → (Nat → Int32)
  | 0, _, f => f
  | k + 1, i, f => s1 k (i + 1) (upd f i (f (i + 1)))
def s2 : Nat → Nat → (Nat → Int32) → (Nat → Int32)
  | 0, _, f => f
  | k + 1, i, f => s2 k (i - 1) (upd f i (f (i - 1)))
def mvd (f : Nat → Int32) (t p : Nat) (b : Int32) : Nat → Int32 := if p ≤ t then upd (s1 (t - p) p f) t b else upd (s2 (p - t) p f) t b
theorem s1_eq : ∀ (k i : Nat) (f : Nat → Int32) (j : Nat), s1 k i f j = if i ≤ j ∧ j < i + k then f (j + 1) else f j
  | 0, i, f, j => by rw [s1, if_neg (by omega)]
  | k + 1, i, f, j => by
    rw [s1, s1_eq k (i + 1)]
    by_cases e : j = i
    · subst e
      rw [if_neg (by omega), upd_s, if_pos (by omega)]
    · rw [upd_n e]
      by_cases c : i + 1 ≤ j ∧ j < i + 1 + k
      · rw [if_pos c, if_pos (by omega), upd_n (by omega)]
      · rw [if_neg c, if_neg (by omega)]
theorem s2_eq : ∀ (k i : Nat) (f : Nat → Int32) (j : Nat), k ≤ i → s2 k i f j = if i < j + k ∧ j ≤ i then f (j - 1) else f j
  | 0, i, f, j, _ => by rw [s2, if_neg (by omega)]
  | k + 1, i, f, j, hk => by
    rw [s2, s2_eq k (i - 1) _ _ (by omega)]
    by_cases e : j = i
    · subst e
      rw [if_neg (by omega), upd_s, if_pos (by omega)]
    · rw [upd_n e]
      by_cases c : i - 1 < j + k ∧ j ≤ i - 1
      · rw [if_pos c, if_pos (by omega), upd_n (by omega)]
      · rw [if_neg c, if_neg (by omega)]
def PM (f : Nat → Int32) (n : Nat) : Prop := (∀ j, j < n → ∃ p, p < n ∧ f j = nI p) ∧ ∀ i j, i < n → j < n → f i = f j → i = j
def sgm (t p j : Nat) : Nat := if j = t then p else if p ≤ t then (if p ≤ j ∧ j < t then j + 1 else j) else (if t < j ∧ j ≤ p then j - 1 else j)
theorem mvd_eq {f : Nat → Int32} {t p : Nat} {b : Int32} (hb : f p = b) (j : Nat) : mvd f t p b j = f (sgm t p j) := by
  unfold mvd sgm
  by_cases c : p ≤ t
  · rw [if_pos c, if_pos c]
    by_cases e : j = t
    · subst e; rw [upd_s, if_pos rfl, hb]
    · rw [upd_n e, if_neg e, s1_eq]
      by_cases g : p ≤ j ∧ j < t
      · rw [if_pos g, if_pos (by omega)]
      · rw [if_neg g, if_neg (by omega)]
  · rw [if_neg c, if_neg c]
    by_cases e : j = t
    · subst e; rw [upd_s, if_pos rfl, hb]
    · rw [upd_n e, if_neg e, s2_eq _ _ _ _ (by omega)]
      by_cases g : t < j ∧ j ≤ p
      · rw [if_pos g, if_pos (by omega)]
      · rw [if_neg g, if_neg (by omega)]
theorem PM.mvd {f : Nat → Int32} {n t p : Nat} {b : Int32} (hP : PM f n) (ht : t < n) (hp : p < n) (hb : f p = b) : PM (mvd f t p b) n := by
  have l : ∀ j, j < n → sgm t p j < n := by
    intro j hj
    unfold sgm
    by_cases c : j = t
    · rw [if_pos c]; exact hp
    · rw [if_neg c]
      by_cases c2 : p ≤ t
      · rw [if_pos c2]
        by_cases c3 : p ≤ j ∧ j < t
        · rw [if_pos c3]; omega
        · rw [if_neg c3]; exact hj
      · rw [if_neg c2]
        by_cases c3 : t < j ∧ j ≤ p
        · rw [if_pos c3]; omega
        · rw [if_neg c3]; exact hj
  have i : ∀ i j, i < n → j < n → sgm t p i = sgm t p j → i = j := by
    intro i j hi hj h
    unfold sgm at h
    by_cases c2 : p ≤ t
    · rw [if_pos c2, if_pos c2] at h
      by_cases a1 : i = t
      · rw [if_pos a1] at h
        by_cases b1 : j = t
        · omega
        · rw [if_neg b1] at h
          by_cases b3 : p ≤ j ∧ j < t
          · rw [if_pos b3] at h; omega
          · rw [if_neg b3] at h; omega
      · rw [if_neg a1] at h
        by_cases b1 : j = t
        · rw [if_pos b1] at h
          by_cases a3 : p ≤ i ∧ i < t
          · rw [if_pos a3] at h; omega
          · rw [if_neg a3] at h; omega
        · rw [if_neg b1] at h
          by_cases a3 : p ≤ i ∧ i < t
          · rw [if_pos a3] at h
            by_cases b3 : p ≤ j ∧ j < t
            · rw [if_pos b3] at h; omega
            · rw [if_neg b3] at h; omega
          · rw [if_neg a3] at h
            by_cases b3 : p ≤ j ∧ j < t
            · rw [if_pos b3] at h; omega
            · rw [if_neg b3] at h; omega
    · rw [if_neg c2, if_neg c2] at h
      by_cases a1 : i = t
      · rw [if_pos a1] at h
        by_cases b1 : j = t
        · omega
        · rw [if_neg b1] at h
          by_cases b3 : t < j ∧ j ≤ p
          · rw [if_pos b3] at h; omega
          · rw [if_neg b3] at h; omega
      · rw [if_neg a1] at h
        by_cases b1 : j = t
        · rw [if_pos b1] at h
          by_cases a3 : t < i ∧ i ≤ p
          · rw [if_pos a3] at h; omega
          · rw [if_neg a3] at h; omega
        · rw [if_neg b1] at h
          by_cases a3 : t < i ∧ i ≤ p
          · rw [if_pos a3] at h
            by_cases b3 : t < j ∧ j ≤ p
            · rw [if_pos b3] at h; omega
            · rw [if_neg b3] at h; omega
          · rw [if_neg a3] at h
            by_cases b3 : t < j ∧ j ≤ p
            · rw [if_pos b3] at h; omega
            · rw [if_neg b3] at h; omega
  refine ⟨fun j hj => ?_, fun a c ha hc h => ?_⟩
  · rw [mvd_eq hb]; exact hP.1 _ (l j hj)
  · rw [mvd_eq hb, mvd_eq hb] at h
    exact i a c ha hc (hP.2 _ _ (l a ha) (l c hc) h)
theorem php : ∀ (m n : Nat) (f : Nat → Nat), (∀ j, j < n → f j < m) → (∀ i j, i < n → j < n → f i = f j → i = j) → n ≤ m
  | 0, n, f, h1, _ => by
    rcases Nat.eq_zero_or_pos n with h | h
    · omega
    · have := h1 0 h; omega
  | m + 1, 0, f, _, _ => Nat.zero_le _
  | m + 1, n + 1, f, h1, h2 => by
    have := php m n (fun j => if f j = m then f n else f j) (fun j hj => by
      have a := h1 j (by omega)
      have b := h1 n (by omega)
      by_cases c : f j = m
      · simp only [if_pos c]
        have : f n ≠ m := fun z => by have := h2 j n (by omega) (by omega) (by rw [c, z]); omega
        omega
      · simp only [if_neg c]; omega) (fun i j hi hj h => by
      have inj := h2 i j (by omega) (by omega)
      have a1 := h2 i n (by omega) (by omega)
      have a2 := h2 j n (by omega) (by omega)
      by_cases c : f i = m
      · by_cases c2 : f j = m
        · exact inj (by rw [c, c2])
        · simp only [if_pos c, if_neg c2] at h
          have := a2 h.symm; omega
      · by_cases c2 : f j = m
        · simp only [if_neg c, if_pos c2] at h
          have := a1 h; omega
        · simp only [if_neg c, if_neg c2] at h
          exact inj h)
    omega
/-- in a permutation each number stands at just one place -/
theorem PM.onto {f : Nat → Int32} {n s : Nat} (hn : n ≤ 24) (hP : PM f n) (hs : s < n) : ∃ p, p < n ∧ f p = nI s ∧ ∀ i, i < p → ¬ f i = nI s := by
  refine Classical.byContradiction fun hno => ?_
  have hno2 : ∀ p, p < n → ¬ f p = nI s := fun p hp e => hno ⟨p, hp, e, fun i hi e2 => by
    have := hP.2 i p (by omega) hp (by rw [e, e2]); omega⟩
  have hv : ∀ j, j < n → ∃ p, p < n ∧ p ≠ s ∧ f j = nI p := fun j hj => by
    obtain ⟨p, h1, h2⟩ := hP.1 j hj
    exact ⟨p, h1, fun z => hno2 j hj (by rw [h2, z]), h2⟩
  have hc : ∀ j, j < n → (f j).toNatClampNeg < n ∧ (f j).toNatClampNeg ≠ s ∧ f j = nI (f j).toNatClampNeg := fun j hj => by
    obtain ⟨p, h1, h2, h3⟩ := hv j hj
    rw [h3, nI_clamp (by omega)]
    exact ⟨h1, h2, rfl⟩
  have := php (n - 1) n (fun j => if (f j).toNatClampNeg = n - 1 then s else (f j).toNatClampNeg) (fun j hj => by
    obtain ⟨h1, h2, -⟩ := hc j hj
    by_cases c : (f j).toNatClampNeg = n - 1
    · simp only [if_pos c]; omega
    · simp only [if_neg c]; omega) (fun i j hi hj h => by
    obtain ⟨h1, h2, h3⟩ := hc i hi
    obtain ⟨g1, g2, g3⟩ := hc j hj
    by_cases c : (f i).toNatClampNeg = n - 1
    · by_cases c2 : (f j).toNatClampNeg = n - 1
      · exact hP.2 i j hi hj (by rw [h3, g3, c, c2])
      · simp only [if_pos c, if_neg c2] at h; omega
    · by_cases c2 : (f j).toNatClampNeg = n - 1
      · simp only [if_neg c, if_pos c2] at h; omega
      · simp only [if_neg c, if_neg c2] at h
        exact hP.2 i j hi hj (by rw [h3, g3, h]))
  omega
section ORDER
variable {sl : Nat} {xs : Nat → Int32}
theorem plc_c {d : Nat} {h : pmH} {n p : Nat} {s : Int32} (hn : n ≤ 24) (n7 : h 7 0 = nI n) (hp : p < n) (he : h 30 p = s) (hno : ∀ i, i < p → ¬ h 30 i = s) : ∀ (k i : Nat), i + k = p → pm_Ev sl xs d 29 2 [some (.ref 29), some (.int s), some (.int (nI i))] [] (SH, h) = some (some (.int (nI p)), (SH, h))
  | 0, i, hk => by
    have e : i = p := by omega
    subst e
    rw [qX4_placeOf_2, n7, if_neg (nI_ge (by omega) (by omega)), pm_ix_nI (by omega) (by decide), if_pos he]
  | k + 1, i, hk => by
    rw [qX4_placeOf_2, n7, if_neg (nI_ge (by omega) (by omega)), pm_ix_nI (by omega) (by decide), if_neg (hno i (by omega)), nI_add]
    exact plc_c hn n7 hp he hno k (i + 1) (by omega)
theorem plc_m {d : Nat} {h : pmH} {p : Nat} {s : Int32} (hp : p < 24) (he : h 59 p = s) (hno : ∀ i, i < p → ¬ h 59 i = s) : ∀ (k i : Nat), i + k = p → pm_Ev sl xs d 129 2 [some (.ref 40), some (.int s), some (.int (nI i))] [] (SH, h) = some (some (.int (nI p)), (SH, h))
  | 0, i, hk => by
    have e : i = p := by omega
    subst e
    rw [qX8_placeOf_2, pm_ix_nI (by omega) (by decide), if_pos he]
  | k + 1, i, hk => by
    rw [qX8_placeOf_2, pm_ix_nI (by omega) (by decide), if_neg (hno i (by omega)), nI_add]
    exact plc_m hp he hno k (i + 1) (by omega)
theorem c_place {d : Nat} {h : pmH} {n p : Nat} {s : Int32} (hn : n ≤ 24) (n7 : h 7 0 = nI n) (hp : p < n) (he : h 30 p = s) (hno : ∀ i, i < p → ¬ h 30 i = s) : pm_cf (pm_Ev sl xs) (d + 1) 29 [.ref 29, .int s] (SH, h) = some (some (.int (nI p)), (SH, h)) := by
  rw [qX4_placeOf_0]; exact plc_c hn n7 hp he hno p 0 (by omega)
theorem m_place {d : Nat} {h : pmH} {p : Nat} {s : Int32} (hp : p < 24) (he : h 59 p = s) (hno : ∀ i, i < p → ¬ h 59 i = s) : pm_cf (pm_Ev sl xs) (d + 1) 129 [.ref 40, .int s] (SH, h) = some (some (.int (nI p)), (SH, h)) := by
  rw [qX8_placeOf_0]; exact plc_m hp he hno p 0 (by omega)

theorem mv1_c {d : Nat} {h : pmH} {t : Nat} {b1 b3 : Int32} (ht : t < 24) : ∀ (k i : Nat) (f : Nat → Int32), i + k = t → pm_Ev sl xs (d + 1) 30 15 [some (.ref 29), some (.int b1), some (.int (nI t)), some (.int b3), some (.int (nI i))] [] (SH, pm_pt h 30 f) = pm_Ev sl xs (d + 1) 30 46 [some (.ref 29), some (.int b1), some (.int (nI t)), some (.int b3), some (.int b3)] [] (SH, pm_pt h 30 (s1 k i f))
  | 0, i, f, hk => by
    rw [qX4_move_15, if_pos (nI_le (by omega) (by omega))]
    rfl
  | k + 1, i, f, hk => by
    rw [qX4_move_15, if_neg (nI_ge (by omega) (by omega)), nI_add, pm_ix_nI (by omega) (by decide), pm_ix_nI (by omega) (by decide), pt_same, pt_up, s1]
    exact mv1_c ht k (i + 1) _ (by omega)
theorem mv2_c {d : Nat} {h : pmH} {t : Nat} {b1 b3 : Int32} (ht : t < 24) : ∀ (k i : Nat) (f : Nat → Int32), i < 24 → i = t + k → pm_Ev sl xs (d + 1) 30 46 [some (.ref 29), some (.int b1), some (.int (nI t)), some (.int b3), some (.int (nI i))] [] (SH, pm_pt h 30 f) = some (some (.int b3), (SH, pm_pt h 30 (upd (s2 k i f) t b1)))
  | 0, i, f, hi, hk => by
    rw [qX4_move_46, if_pos (nI_le (by omega) (by omega)), pm_ix_nI (by omega) (by decide), pt_up]
    rfl
  | k + 1, i, f, hi, hk => by
    rw [qX4_move_46, if_neg (nI_ge (by omega) (by omega)), pk_sub (by omega), pm_ix_nI (by omega) (by decide), pm_ix_nI (by omega) (by decide), pt_same, pt_up, s2, m1, pk_sub (by omega)]
    exact mv2_c ht k (i - 1) _ (by omega) (by omega)
/-- the whole of it, from place p -/
theorem mv_c {d : Nat} {h : pmH} {t p : Nat} {b1 : Int32} (ht : t < 24) (hp : p < 24) : pm_Ev sl xs (d + 1) 30 15 [some (.ref 29), some (.int b1), some (.int (nI t)), some (.int (nI p)), some (.int (nI p))] [] (SH, h) = some (some (.int (nI p)), (SH, pm_pt h 30 (mvd (h 30) t p b1))) := by
  conv => lhs; rw [← pt_self h 30]
  by_cases c : p ≤ t
  · rw [mv1_c ht (t - p) p _ (by omega)]
    unfold mvd
    rw [if_pos c]
    rw [qX4_move_46, if_pos (nI_le c (by omega)), pm_ix_nI ht (by decide), pt_up]
  · rw [qX4_move_15, if_pos (nI_le (by omega) (by omega)), mv2_c ht (p - t) p _ hp (by omega)]
    unfold mvd
    rw [if_neg c]

theorem mv1_m {d : Nat} {h : pmH} {t : Nat} {b1 b3 : Int32} (ht : t < 24) : ∀ (k i : Nat) (f : Nat → Int32), i + k = t → pm_Ev sl xs (d + 1) 130 31 [some (.ref 40), some (.int b1), some (.int (nI t)), some (.int b3), some (.int (nI i))] [] (SH, pm_pt h 59 f) = pm_Ev sl xs (d + 1) 130 62 [some (.ref 40), some (.int b1), some (.int (nI t)), some (.int b3), some (.int b3)] [] (SH, pm_pt h 59 (s1 k i f))
  | 0, i, f, hk => by
    rw [qX8_order_31, if_pos (nI_le (by omega) (by omega))]
    rfl
  | k + 1, i, f, hk => by
    rw [qX8_order_31, if_neg (nI_ge (by omega) (by omega)), nI_add, pm_ix_nI (by omega) (by decide), pm_ix_nI (by omega) (by decide), pt_same, pt_up, s1]
    exact mv1_m ht k (i + 1) _ (by omega)
theorem mv2_m {d : Nat} {h : pmH} {t : Nat} {b1 b3 : Int32} (ht : t < 24) : ∀ (k i : Nat) (f : Nat → Int32), i < 24 → i = t + k → pm_Ev sl xs (d + 1) 130 62 [some (.ref 40), some (.int b1), some (.int (nI t)), some (.int b3), some (.int (nI i))] [] (SH, pm_pt h 59 f) = some (some (.int b3), (SH, pm_pt h 59 (upd (s2 k i f) t b1)))
  | 0, i, f, hi, hk => by
    rw [qX8_order_62, if_pos (nI_le (by omega) (by omega)), pm_ix_nI (by omega) (by decide), pt_up]
    rfl
  | k + 1, i, f, hi, hk => by
    rw [qX8_order_62, if_neg (nI_ge (by omega) (by omega)), pk_sub (by omega), pm_ix_nI (by omega) (by decide), pm_ix_nI (by omega) (by decide), pt_same, pt_up, s2, m1, pk_sub (by omega)]
    exact mv2_m ht k (i - 1) _ (by omega) (by omega)
/-- the whole of it, from place p -/
theorem mv_m {d : Nat} {h : pmH} {t p : Nat} {b1 : Int32} (ht : t < 24) (hp : p < 24) : pm_Ev sl xs (d + 1) 130 31 [some (.ref 40), some (.int b1), some (.int (nI t)), some (.int (nI p)), some (.int (nI p))] [] (SH, h) = some (some (.int (nI p)), (SH, pm_pt h 59 (mvd (h 59) t p b1))) := by
  conv => lhs; rw [← pt_self h 59]
  by_cases c : p ≤ t
  · rw [mv1_m ht (t - p) p _ (by omega)]
    unfold mvd
    rw [if_pos c]
    rw [qX8_order_62, if_pos (nI_le c (by omega)), pm_ix_nI ht (by decide), pt_up]
  · rw [qX8_order_31, if_pos (nI_le (by omega) (by omega)), mv2_m ht (p - t) p _ hp (by omega)]
    unfold mvd
    rw [if_neg c]

end ORDER
/-- another order on both sides -/
theorem InvN.row30 {h h2 : pmH} {n m q : Nat} {f : Nat → Int32} (hi : InvN h n m q) (hA : ∀ k ∈ relA, k ∉ [30, 59] → h2 k = h k) (hF : ∀ p ∈ relF, h2 p.1 p.2 = h p.1 p.2) (a1 : h2 30 = f) (a2 : h2 59 = f) (hP : PM f n) : InvN h2 n m q := by
  have hi2 : InvN (pm_pt (pm_pt h2 30 (h 30)) 59 (h 59)) n m q := by
    refine hi.frame ⟨fun k hk => ?_, fun p hp => ?_⟩
    · by_cases c1 : k = 59
      · subst c1; exact pt_same _ _ _
      · rw [pt_ne c1]
        by_cases c2 : k = 30
        · subst c2; exact pt_same _ _ _
        · rw [pt_ne c2]
          exact hA k hk (by simp [c1, c2])
    · have k2 : ∀ p ∈ relF, p.1 ≠ 30 ∧ p.1 ≠ 59 := by decide
      rw [pt_ne (k2 p hp).2, pt_ne (k2 p hp).1]
      exact hF p hp
  obtain ⟨hb, hE, hS, ⟨hVS, hV0, hVC, hVL, hVP, hVH⟩, hN, hB⟩ := hi2.to
  have ne : ∀ k, k ≠ 30 → k ≠ 59 → (pm_pt (pm_pt h2 30 (h 30)) 59 (h 59)) k = h2 k := fun k k1 k2 => by rw [pt_ne k2, pt_ne k1]
  have key : ∀ p ∈ prs, p = (30, 59) ∨ (p.1 ≠ 30 ∧ p.1 ≠ 59 ∧ p.2 ≠ 30 ∧ p.2 ≠ 59) := by decide
  refine InvN.of hb (fun p hp => ?_) ?_ ⟨?_, ?_, ?_, ?_, ?_, ?_⟩ ?_ ?_
  · rcases key p hp with rfl | ⟨k1, k2, k3, k4⟩
    · exact a1.trans a2.symm
    · have := hE p hp
      rw [ne _ k1 k2, ne _ k3 k4] at this
      exact this
  · exact hS
  · exact hVS
  · exact hV0
  · exact hVC
  · exact hVL
  · unfold VP; rw [a1]; exact hP
  · intro c hc
    have := hVH c hc
    rw [cntS_cg (h := h2) (ne 13 (by decide) (by decide)) (ne 19 (by decide) (by decide))] at this
    exact this
  · exact hN
  · exact hB
theorem step_order {sl : Nat} {xs : Nat → Int32} {a c : Int32} : Step sl xs 71 130 [.int a, .int c] := by
  intro d h ⟨n, m, q, hi⟩
  have hn : n ≤ 24 := hi.1.1
  have n7 := hi.n7
  have n39 : ∀ {x : pmH}, x 39 = h 39 → x 39 1 = nI n := fun e => by rw [e]; exact hi.n39
  have hP : PM (h 30) n := hi.2.2.2.2.2.2.2.1
  have e30 : h 59 = h 30 := (hi.eq (by decide)).symm
  cases hr : inS a n with
  | false =>
    refine ⟨-1000000001, pm_up h 1 1 (h 1 1 + nI 1), _, ?_, ?_, n, m, q, hi.fnd 1⟩
    · rw [qX7_order_0, c_has n7, pm_ri_ok, hr, bI_f, c_find (k := 1) (by decide) f_1, pm_ri_ok]
    · rw [qX8_order_0, c_isS (n39 (pm_up_ne (by decide))) hn, pm_ri_ok, hr, bI_f, c_finds (by decide), pm_ri_ok, g_1]
  | true =>
    cases hr2 : inS c n with
    | false =>
      refine ⟨-1000000001, pm_up h 1 1 (h 1 1 + nI 1), _, ?_, ?_, n, m, q, hi.fnd 1⟩
      · rw [qX7_order_0, c_has n7, pm_ri_ok, hr, bI_t, c_has n7, pm_ri_ok, hr2, bI_f, c_find (k := 1) (by decide) f_1, pm_ri_ok]
      · rw [qX8_order_0, c_isS (n39 (pm_up_ne (by decide))) hn, pm_ri_ok, hr, bI_t, c_isS (n39 (pm_up_ne (by decide))) hn, pm_ri_ok, hr2, bI_f, c_finds (by decide), pm_ri_ok, g_1]
    | true =>
      obtain ⟨s, hs, rfl⟩ := inS_nat (by omega) hr
      obtain ⟨t, ht, rfl⟩ := inS_nat (by omega) hr2
      obtain ⟨p, hp, he, hno⟩ := hP.onto hn hs
      refine ⟨nI p, pm_pt h 30 (mvd (h 30) t p (nI s)), pm_pt (pm_pt h 30 (mvd (h 30) t p (nI s))) 59 (mvd (h 30) t p (nI s)), ?_, ?_, n, m, q, ?_⟩
      · rw [qX7_order_0, c_has n7, pm_ri_ok, hr, bI_t, c_has n7, pm_ri_ok, hr2, bI_t, qX4_move_0, c_place hn n7 hp he hno, pm_ri_ok, if_pos ((ge0 _).mpr (nI_pos (by omega))), mv_c (by omega) (by omega), pm_ri_ok]
      · have e59 : (pm_pt h 30 (mvd (h 30) t p (nI s))) 59 = h 30 := by rw [pt_ne (by decide)]; exact e30
        rw [qX8_order_0, c_isS (n39 (pt_ne (by decide))) hn, pm_ri_ok, hr, bI_t, c_isS (n39 (pt_ne (by decide))) hn, pm_ri_ok, hr2, bI_t, m_place (p := p) (by omega) (by rw [e59]; exact he) (by rw [e59]; exact hno), pm_ri_ok, mv_m (by omega) (by omega), e59]
      · refine hi.row30 (fun k _ hk => ?_) (fun p hp => ?_) (f := mvd (h 30) t p (nI s)) ?_ (pt_same _ _ _) (hP.mvd ht hp he)
        · simp at hk
          rw [pt_ne hk.2, pt_ne hk.1]
        · have k2 : ∀ p ∈ relF, p.1 ≠ 30 ∧ p.1 ≠ 59 := by decide
          rw [pt_ne (k2 p hp).2, pt_ne (k2 p hp).1]
        · rw [pt_ne (by decide), pt_same]

/-! box: what hangs is counted -/
theorem cntP_ge {h : pmH} {s c L : Nat} (hL : h 13 s = nI L) (hb : L ≤ 60) : ∀ (k : Nat), L + k ≤ 60 → cntP h s c (L + k) = cntP h s c L
  | 0, _ => rfl
  | k + 1, hk => by
    rw [← Nat.add_assoc, cntP, hL, if_neg (nI_nlt (by omega) (by omega)), Nat.add_zero]
    exact cntP_ge hL hb k (by omega)
section BOX
variable {sl : Nat} {xs : Nat → Int32}
theorem box_in {d : Nat} {g h : pmH} {n s c L x : Nat} {b2 : Int32} (hn : n ≤ 24) (hs : s < n) (hL : h 13 s = nI L) (hb : L ≤ 60) (e13 : g 48 = h 13) (e19 : g 54 = h 19) : ∀ (k p : Nat), p + k = L → pm_Ev sl xs (d + 1) 144 85 [some (.ref 40), some (.int (nI c)), some (.int b2), some (.int (nI (x + cntP h s c p))), some (.int (nI s)), some (.int (nI p))] [] (SH, g) = pm_Ev sl xs (d + 1) 144 73 [some (.ref 40), some (.int (nI c)), some (.int b2), some (.int (nI (x + cntP h s c 60))), some (.int (nI (s + 1))), some (.int (nI L))] [] (SH, g)
  | 0, p, hk => by
    have e : p = L := by omega
    subst e
    have e2 : cntP h s c 60 = cntP h s c p := by
      have := cntP_ge (c := c) hL hb (60 - p) (by omega)
      rw [show p + (60 - p) = 60 by omega] at this
      exact this
    rw [qX8_box_85_v1, pm_ix_nI (by omega) (by decide), e13, hL, if_pos (nI_le (Nat.le_refl _) (by omega)), nI_add, e2]
  | k + 1, p, hk => by
    rw [qX8_box_85_v1, pm_ix_nI (by omega) (by decide), e13, hL, if_neg (nI_ge (by omega) (by omega)), pk_mul, nI_add, pm_ix_nI (by omega) (by decide), e19, nI_add, nI_add, nI_add]
    have ih := box_in (d := d) (x := x) (c := c) (b2 := b2) hn hs hL hb e13 e19 k (p + 1) (by omega)
    rw [cntP, hL, if_pos (nI_lt (by omega) (by omega))] at ih
    by_cases e : h 19 (60 * s + p) = nI c
    · rw [if_pos e] at ih ⊢
      rw [Nat.add_assoc]; exact ih
    · rw [if_neg e] at ih ⊢
      rw [Nat.add_assoc]; exact ih
theorem box_out {d : Nat} {g h : pmH} {n c : Nat} {b2 : Int32} (hn : n ≤ 24) (hV : VS h n) (n39 : g 39 1 = nI n) (e13 : g 48 = h 13) (e19 : g 54 = h 19) : ∀ (k s : Nat) (o5 : Option Value), s + k = n → pm_Ev sl xs (d + 1) 144 73 [some (.ref 40), some (.int (nI c)), some (.int b2), some (.int (nI (cntS h c s))), some (.int (nI s)), o5] [] (SH, g) = some (some (.int (nI (cntS h c n))), (SH, g))
  | 0, s, o5, hk => by
    have e : s = n := by omega
    subst e
    rw [qX8_box_73, n39, if_pos (nI_le (Nat.le_refl _) (by omega))]
  | k + 1, s, o5, hk => by
    obtain ⟨-, -, -, -, -, ⟨L, l1, l2, l3⟩, -⟩ := hV s (by omega)
    have h1 := box_in (sl := sl) (xs := xs) (d := d) (x := cntS h c s) (c := c) (b2 := b2) hn (show s < n by omega) l3 l2 e13 e19 L 0 (by omega)
    rw [show cntS h c s + cntP h s c 0 = cntS h c s from rfl] at h1
    rw [qX8_box_73, n39, if_neg (nI_ge (by omega) (by omega)), h1]
    exact box_out hn hV n39 e13 e19 k (s + 1) _ (by omega)
theorem c_hasC {d : Nat} {h : pmH} {a : Int32} {m : Nat} (e : h 2 0 = nI m) : pm_cf (pm_Ev sl xs) (d + 1) 13 [.ref 3, .int a] (SH, h) = some (some (.int (bI (inS a m))), (SH, h)) := by
  rw [qX2_has_0, e]; unfold inS bI
  by_cases h1 : a < 0
  · simp [h1]
  · by_cases h2 : nI m ≤ a <;> simp [h1, h2]
theorem step_box {a c : Int32} : Step sl xs 80 144 [.int a, .int c] := by
  intro d h ⟨n, m, q, hi⟩
  have hn : n ≤ 24 := hi.1.1
  have hm : m ≤ 12 := hi.1.2.1
  have m2 : h 2 0 = nI m := hi.2.2.1.2.1.1
  have m39 : ∀ {x : pmH}, x 39 = h 39 → x 39 0 = nI m := fun e => by rw [e]; exact hi.2.2.1.2.1.2
  have hV : VS h n := hi.2.2.2.1
  have hH : VH h n m := hi.2.2.2.2.2.2.2.2.1
  cases hr : inS a m with
  | false =>
    refine ⟨-1000000001, pm_up h 1 1 (h 1 1 + nI 1), _, ?_, ?_, n, m, q, hi.fnd 1⟩
    · rw [qX7_box_0, c_hasC m2, pm_ri_ok, hr, bI_f, c_find (k := 1) (by decide) f_1, pm_ri_ok]
    · rw [qX8_box_0, m39 (pm_up_ne (by decide)), c_in, pm_ri_ok, inR_S (by omega), hr, bI_f, c_finds (by decide), pm_ri_ok, g_1]
  | true =>
    obtain ⟨j, hj, rfl⟩ := inS_nat (by omega) hr
    have ix : ∀ (t : Nat → Option pmR), pm_ix none (nI j) 12 t = t j := fun t => pm_ix_nI (by omega) (by decide)
    by_cases c0 : c = nI 0
    · subst c0
      refine ⟨h 3 j, h, h, ?_, ?_, n, m, q, hi⟩
      · rw [qX7_box_0, c_hasC m2, pm_ri_ok, hr, bI_t, if_pos rfl, ix]
      · rw [qX8_box_0, m39 rfl, c_in, pm_ri_ok, inR_S (by omega), hr, bI_t, c_in, pm_ri_ok, show inR (nI 0) (nI 0) (nI 3) = true from inR_of (by decide) (by decide) (by decide), bI_t, if_neg (by decide), if_pos z00, ix, hi.eq (k := 3) (k2 := 40) (by decide)]
    by_cases c1 : c = nI 1
    · subst c1
      refine ⟨h 4 j, h, h, ?_, ?_, n, m, q, hi⟩
      · rw [qX7_box_0, c_hasC m2, pm_ri_ok, hr, bI_t, if_neg c0, if_pos rfl, ix]
      · rw [qX8_box_0, m39 rfl, c_in, pm_ri_ok, inR_S (by omega), hr, bI_t, c_in, pm_ri_ok, show inR (nI 1) (nI 0) (nI 3) = true from inR_of (by decide) (by decide) (by decide), bI_t, if_neg (by decide), if_neg (show ¬ nI 1 = 0 from c0), if_pos rfl, ix, hi.eq (k := 4) (k2 := 41) (by decide)]
    by_cases c2 : c = nI 2
    · subst c2
      refine ⟨h 5 j, h, h, ?_, ?_, n, m, q, hi⟩
      · rw [qX7_box_0, c_hasC m2, pm_ri_ok, hr, bI_t, if_neg c0, if_neg c1, if_pos rfl, ix]
      · rw [qX8_box_0, m39 rfl, c_in, pm_ri_ok, inR_S (by omega), hr, bI_t, c_in, pm_ri_ok, show inR (nI 2) (nI 0) (nI 3) = true from inR_of (by decide) (by decide) (by decide), bI_t, if_neg (by decide), if_neg (show ¬ nI 2 = 0 from c0), if_neg c1, ix, hi.eq (k := 5) (k2 := 42) (by decide)]
    by_cases c3 : c = nI 3
    · subst c3
      refine ⟨nI (cntS h j n), h, h, ?_, ?_, n, m, q, hi⟩
      · rw [qX7_box_0, c_hasC m2, pm_ri_ok, hr, bI_t, if_neg c0, if_neg c1, if_neg c2, if_pos rfl, ix, hH j (by omega)]
      · rw [qX8_box_0, m39 rfl, c_in, pm_ri_ok, inR_S (by omega), hr, bI_t, c_in, pm_ri_ok, show inR (nI 3) (nI 0) (nI 3) = true from inR_of (by decide) (by decide) (by decide), bI_t, if_pos (by decide)]
        exact box_out (h := h) hn hV hi.n39 (hi.eq (by decide)).symm (hi.eq (by decide)).symm n 0 none (by omega)
    · have hc : inR c (nI 0) (nI 3) = false := by
        cases hx : inR c (nI 0) (nI 3) with
        | false => rfl
        | true =>
          obtain ⟨i, i1, i2, i3⟩ := inR_nat (by decide) (by decide) hx
          rcases (show i = 0 ∨ i = 1 ∨ i = 2 ∨ i = 3 by omega) with rfl | rfl | rfl | rfl
          · exact absurd i3 c0
          · exact absurd i3 c1
          · exact absurd i3 c2
          · exact absurd i3 c3
      refine ⟨-1000000001, pm_up h 1 1 (h 1 1 + nI 1), _, ?_, ?_, n, m, q, hi.fnd 1⟩
      · rw [qX7_box_0, c_hasC m2, pm_ri_ok, hr, bI_t, if_neg c0, if_neg c1, if_neg c2, if_neg c3, c_find (k := 1) (by decide) f_1, pm_ri_ok]
      · rw [qX8_box_0, m39 (pm_up_ne (by decide)), c_in, pm_ri_ok, inR_S (by omega), hr, bI_t, c_in, pm_ri_ok, hc, bI_f, c_finds (by decide), pm_ri_ok, g_1]
end BOX
