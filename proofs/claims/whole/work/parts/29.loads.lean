/-! the loads: the component's two loops, the reference's two loops -/
theorem m1 (x : Int32) : x + (-nI 1) = x - nI 1 := by
  first | exact (Int32.sub_eq_add_neg ..).symm | (rw [Int32.sub_eq_add_neg]) | rfl
theorem pt2 (h : pmH) (a b j : Nat) (f g : Nat → Int32) (x : Int32) (hab : a ≠ b) : pm_up (pm_pt (pm_pt h a f) b g) a j x = pm_pt (pm_pt h a (upd f j x)) b g := by
  funext k
  unfold pm_up pm_pt
  by_cases h1 : k = a
  · subst h1
    simp [hab]
  · by_cases h2 : k = b
    · subst h2; simp [h1]
    · simp [h1, h2]
theorem ldS_cg {h h2 : pmH} {j : Nat} (e8 : h2 8 = h 8) (e13 : h2 13 = h 13) (e14 : h2 14 = h 14) : ldS h2 j = ldS h j := by unfold ldS; rw [e8, e13, e14]
/-- two rows beside each other -/
def pP (h : pmH) (a : Nat) (f : Nat → Int32) (b : Nat) (g : Nat → Int32) : pmH := pm_pt (pm_pt h a f) b g
theorem pP_ne {h : pmH} {a b k : Nat} {f g : Nat → Int32} (h1 : k ≠ a) (h2 : k ≠ b) : pP h a f b g k = h k := by unfold pP; rw [pt_ne h2, pt_ne h1]
theorem pP_a {h : pmH} {a b : Nat} {f g : Nat → Int32} (h1 : a ≠ b) : pP h a f b g a = f := by unfold pP; rw [pt_ne h1, pt_same]
theorem pP_b {h : pmH} {a b : Nat} {f g : Nat → Int32} : pP h a f b g b = g := pt_same _ _ _
theorem pP_ua {h : pmH} {a b j : Nat} {f g : Nat → Int32} {x : Int32} (h1 : a ≠ b) : pm_up (pP h a f b g) a j x = pP h a (upd f j x) b g := pt2 h a b j f g x h1
theorem pP_ub {h : pmH} {a b j : Nat} {f g : Nat → Int32} {x : Int32} : pm_up (pP h a f b g) b j x = pP h a f b (upd g j x) := pt_up _ _ _ _ _
theorem pP_self (h : pmH) (a b : Nat) : pP h a (h a) b (h b) = h := by unfold pP; rw [pt_self, pt_self]
section LOADS
variable {sl : Nat} {xs : Nat → Int32}
theorem loads1 {d : Nat} {h : pmH} {n : Nat} (hn : n ≤ 24) (n7 : h 7 0 = nI n) : ∀ (m i : Nat) (f g : Nat → Int32) (o2 : Option Value), i + m = n → (∀ j, j < i → f j = ldS h j) → (∀ j, j < i → g j = clF (ldS h) (h 21) j) →
    ∃ f2 g2, pm_Ev sl xs (d + 1) 7 2 [some (.ref 21), some (.int (nI i)), o2] [] (SH, pP h 23 f 22 g) = pm_Ev sl xs (d + 1) 7 70 [some (.ref 21), some (.int (nI n - nI 1)), o2] [] (SH, pP h 23 f2 22 g2) ∧ (∀ j, j < n → f2 j = ldS h j) ∧ ∀ j, j < n → g2 j = clF (ldS h) (h 21) j
  | 0, i, f, g, o2, hi, hf, hg => by
    refine ⟨f, g, ?_, fun j hj => hf j (by omega), fun j hj => hg j (by omega)⟩
    rw [qX1_surveyLoads_2, pP_ne (by decide) (by decide), n7, if_pos (nI_le (by omega) (by omega))]
  | m + 1, i, f, g, o2, hi, hf, hg => by
    have ix : ∀ (t : Nat → Option pmR), pm_ix none (nI i) 24 t = t i := fun t => pm_ix_nI (by omega) (by decide)
    have key := loads1 (d := d) hn n7 m (i + 1) (upd f i (ldS h i)) (upd g i (clF (ldS h) (h 21) i)) o2 (by omega) (fun j hj => by
      by_cases e : j = i
      · subst e; rw [upd_s]
      · rw [upd_n e]; exact hf j (by omega)) (fun j hj => by
      by_cases e : j = i
      · subst e; rw [upd_s]
      · rw [upd_n e]; exact hg j (by omega))
    have hl : ∀ (f g : Nat → Int32), ldS (pP h 23 f 22 g) i = ldS h i := fun f g => ldS_cg (pP_ne (by decide) (by decide)) (pP_ne (by decide) (by decide)) (pP_ne (by decide) (by decide))
    rw [qX1_surveyLoads_2, pP_ne (a := 23) (b := 22) (k := 7) (by decide) (by decide), n7, if_neg (nI_ge (by omega) (by omega)), c_load (by omega), pm_ri_ok, ix, ix, pP_ne (a := 23) (b := 22) (k := 21) (by decide) (by decide), hl, pP_ua (by decide), nI_add]
    by_cases hd : h 21 i = 0
    · have hc : clF (ldS h) (h 21) i = ldS h i := if_pos hd
      rw [hc] at key
      rw [if_pos hd, c_load (by omega), pm_ri_ok, ix, hl, pP_ub]
      exact key
    · have hc : clF (ldS h) (h 21) i = nI 0 := if_neg hd
      rw [hc] at key
      rw [if_neg hd, ix, pP_ub]
      exact key
theorem loads2 {d : Nat} {h : pmH} {n : Nat} (hn : n ≤ 24) (hU : UPok (h 9) n) : ∀ (i : Nat) (f g : Nat → Int32) (o2 : Option Value), i ≤ n → pm_Ev sl xs (d + 1) 7 70 [some (.ref 21), some (.int (nI i - nI 1)), o2] [] (SH, pP h 23 f 22 g) = some (none, (SH, pP h 23 (dnS (h 9) i f) 22 (dnS (h 9) i g)))
  | 0, f, g, o2, _ => by
    rw [qX1_surveyLoads_70, if_pos (by decide)]
    rfl
  | i + 1, f, g, o2, hi => by
    have ix : ∀ (t : Nat → Option pmR), pm_ix none (nI i) 24 t = t i := fun t => pm_ix_nI (by omega) (by decide)
    rw [pk_sub (by omega), Nat.add_sub_cancel, qX1_surveyLoads_70, if_neg (nI_pos (by omega)), ix, pP_ne (a := 23) (b := 22) (k := 9) (by decide) (by decide), m1, dnS, dnS]
    by_cases hu : h 9 i < 0
    · rw [if_pos hu, if_pos hu, if_pos hu]
      exact loads2 hn hU i f g _ (by omega)
    · obtain ⟨h1, h2⟩ := hU.lt hn (show i < n by omega) hu
      have iu : ∀ (t : Nat → Option pmR), pm_ix none (h 9 i) 24 t = t (upI (h 9) i) := fun t => by rw [h2]; exact pm_ix_nI (by omega) (by decide)
      rw [if_neg hu, if_neg hu, if_neg hu, iu, ix, iu, iu, ix, iu, pP_a (by decide), pP_b, pP_ua (by decide), pP_ub]
      exact loads2 hn hU i _ _ _ (by omega)
theorem c_loads {d : Nat} {h : pmH} {n : Nat} (hn : n ≤ 24) (n7 : h 7 0 = nI n) (hU : UPok (h 9) n) : ∃ f2 g2, pm_cf (pm_Ev sl xs) (d + 2) 7 [.ref 21] (SH, h) = some (none, (SH, pP h 23 f2 22 g2)) ∧ (∀ j, j < n → f2 j = wsV9 (h 9) (ldS h) n j) ∧ ∀ j, j < n → g2 j = crV9 (h 9) (ldS h) (h 21) n j := by
  obtain ⟨f, g, h1, h2, h3⟩ := loads1 (sl := sl) (xs := xs) (d := d) hn n7 n 0 (h 23) (h 22) none (by omega) (fun j hj => absurd hj (Nat.not_lt_zero _)) (fun j hj => absurd hj (Nat.not_lt_zero _))
  rw [pP_self] at h1
  refine ⟨dnS (h 9) n f, dnS (h 9) n g, ?_, dnS_cg hn hU n _ _ (Nat.le_refl _) h2, dnS_cg hn hU n _ _ (Nat.le_refl _) h3⟩
  rw [qX1_surveyLoads_0, h1]
  exact loads2 hn hU n f g none (Nat.le_refl _)
/-! the reference -/
theorem flow1 {d : Nat} {h : pmH} {n : Nat} (hn : n ≤ 24) (n39 : h 39 1 = nI n) : ∀ (m i : Nat) (f g : Nat → Int32), i + m = n → (∀ j, j < i → f j = nI 0) → (∀ j, j < i → g j = nI 0) →
    ∃ f2 g2, pm_Ev sl xs (d + 1) 110 2 [some (.ref 40), some (.int (nI i))] [] (SH, pP h 60 f 61 g) = pm_Ev sl xs (d + 1) 110 37 [some (.ref 40), some (.int (nI n - nI 1))] [] (SH, pP h 60 f2 61 g2) ∧ (∀ j, j < n → f2 j = nI 0) ∧ ∀ j, j < n → g2 j = nI 0
  | 0, i, f, g, hi, hf, hg => by
    refine ⟨f, g, ?_, fun j hj => hf j (by omega), fun j hj => hg j (by omega)⟩
    rw [qX8_flow_2, pP_ne (by decide) (by decide), n39, if_pos (nI_le (by omega) (by omega))]
  | m + 1, i, f, g, hi, hf, hg => by
    have ix : ∀ (t : Nat → Option pmR), pm_ix none (nI i) 24 t = t i := fun t => pm_ix_nI (by omega) (by decide)
    rw [qX8_flow_2, pP_ne (by decide) (by decide), n39, if_neg (nI_ge (by omega) (by omega)), ix, ix, pP_ua (by decide), pP_ub, nI_add]
    refine flow1 hn n39 m (i + 1) _ _ (by omega) (fun j hj => ?_) (fun j hj => ?_)
    · by_cases e : j = i
      · subst e; rw [upd_s]
      · rw [upd_n e]; exact hf j (by omega)
    · by_cases e : j = i
      · subst e; rw [upd_s]
      · rw [upd_n e]; exact hg j (by omega)
end LOADS
