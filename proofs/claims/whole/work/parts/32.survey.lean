/-! survey and flow as a whole -/
def WV (h : pmH) (n : Nat) : Nat → Int32 := wsV9 (h 9) (ldS h) n
def DV (h : pmH) : Nat → Int32 := dk (h 9) (h 16)
def CV (h : pmH) (n : Nat) : Nat → Int32 := crV9 (h 9) (ldS h) (DV h) n
theorem flV_cg {h : pmH} {n : Nat} {w w2 : Nat → Int32} (hn : n ≤ 24) (hU : UPok (h 9) n) (hw : ∀ j, j < n → w j = w2 j) : ∀ (b j : Nat), j < b → j < n → flV h w j = flV h w2 j
  | 0, j, h1, _ => absurd h1 (Nat.not_lt_zero _)
  | b + 1, j, h1, h2 => by
    have e1 : flV h w j = if h 9 j < 0 then ownF h w j else flV h w (upI (h 9) j) + ownF h w j := tr_eq hn hU h2
    have e2 : flV h w2 j = if h 9 j < 0 then ownF h w2 j else flV h w2 (upI (h 9) j) + ownF h w2 j := tr_eq hn hU h2
    have e3 : ownF h w j = ownF h w2 j := by unfold ownF; rw [hw j h2]
    rw [e1, e2, e3]
    by_cases hu : h 9 j < 0
    · rw [if_pos hu, if_pos hu]
    · obtain ⟨h3, -⟩ := hU.lt hn h2 hu
      rw [if_neg hu, if_neg hu, flV_cg hn hU hw b (upI (h 9) j) (by omega) (by omega)]
theorem VS.cg {h h2 : pmH} {n : Nat} (e : ∀ k, 8 ≤ k → k ≤ 16 → h2 k = h k) (hV : VS h n) : VS h2 n := by
  unfold VS
  rw [e 8 (by decide) (by decide), e 9 (by decide) (by decide), e 10 (by decide) (by decide), e 11 (by decide) (by decide), e 12 (by decide) (by decide), e 13 (by decide) (by decide), e 14 (by decide) (by decide), e 15 (by decide) (by decide), e 16 (by decide) (by decide)]
  exact hV
section SURVEY
variable {sl : Nat} {xs : Nat → Int32}
theorem c_survey {d : Nat} {h : pmH} {n : Nat} (hn : n ≤ 24) (n7 : h 7 0 = nI n) (hV : VS h n) : ∃ h2, pm_cf (pm_Ev sl xs) (d + 3) 5 [.ref 21] (SH, h) = some (none, (SH, h2)) ∧ (∀ k, k < 21 ∨ 25 < k → h2 k = h k) ∧ (∀ j, j < n → h2 21 j = DV h j) ∧ (∀ j, j < n → h2 22 j = CV h n j) ∧ (∀ j, j < n → h2 23 j = WV h n j) ∧ (∀ j, j < n → h2 24 j = flV h (WV h n) j) ∧ ∀ j, j < n → h2 25 j = gdV h j := by
  have hU := hV.up
  obtain ⟨f1, a1, a2⟩ := c_dark (sl := sl) (xs := xs) (d := d + 1) hn n7 hU
  have n71 : (pm_pt h 21 f1) 7 0 = nI n := by rw [pt_ne (by decide)]; exact n7
  have e9 : (pm_pt h 21 f1) 9 = h 9 := pt_ne (by decide)
  have hU1 : UPok ((pm_pt h 21 f1) 9) n := by rw [e9]; exact hU
  obtain ⟨f2, g2, b1, b2, b3⟩ := c_loads (sl := sl) (xs := xs) (d := d) hn n71 hU1
  have hl : ldS (pm_pt h 21 f1) = ldS h := funext (fun j => ldS_cg (pt_ne (by decide)) (pt_ne (by decide)) (pt_ne (by decide)))
  rw [e9, hl] at b2 b3
  rw [pt_same] at b3
  have neP : ∀ k, k ≠ 21 → k ≠ 22 → k ≠ 23 → pP (pm_pt h 21 f1) 23 f2 22 g2 k = h k := fun k k1 k2 k3 => by rw [pP_ne k3 k2, pt_ne k1]
  obtain ⟨f3, q3, c1, c2, c3⟩ := falls_c (sl := sl) (xs := xs) (d := d) (g := pP (pm_pt h 21 f1) 23 f2 22 g2) (h := h) (w := f2) hn hV (by rw [neP 7 (by decide) (by decide) (by decide)]; exact n7) (neP 9 (by decide) (by decide) (by decide)) (neP 11 (by decide) (by decide) (by decide)) (neP 12 (by decide) (by decide) (by decide)) (neP 15 (by decide) (by decide) (by decide)) (pP_a (by decide)) n 0 ((pP (pm_pt h 21 f1) 23 f2 22 g2) 24) ((pP (pm_pt h 21 f1) 23 f2 22 g2) 25) none none none (by omega) (fun j hj => absurd hj (Nat.not_lt_zero _)) (fun j hj => absurd hj (Nat.not_lt_zero _))
  rw [pP_self] at c1
  refine ⟨pP (pP (pm_pt h 21 f1) 23 f2 22 g2) 24 f3 25 q3, ?_, fun k hk => ?_, fun j hj => ?_, fun j hj => ?_, fun j hj => ?_, fun j hj => ?_, fun j hj => ?_⟩
  · rw [qX1_survey_0, a1, pm_rv_ok, b1, pm_rv_ok, qX1_surveyFalls_0, c1, pm_rv_ok]
  · rw [pP_ne (by omega) (by omega), neP k (by omega) (by omega) (by omega)]
  · rw [pP_ne (by decide) (by decide), pP_ne (by decide) (by decide), pt_same]
    exact a2 j hj
  · rw [pP_ne (by decide) (by decide), pP_b, b3 j hj]
    unfold CV crV9
    refine dnS_cg hn hU n _ _ (Nat.le_refl _) (fun i hi => ?_) j hj
    unfold clF
    rw [a2 i hi]
    rfl
  · rw [pP_ne (by decide) (by decide), pP_a (by decide)]
    exact b2 j hj
  · rw [pP_a (by decide), c2 j hj]
    exact flV_cg hn hU (fun i hi => b2 i hi) (j + 1) j (by omega) hj
  · rw [pP_b]
    exact c3 j hj
theorem c_flow {d : Nat} {h : pmH} {n : Nat} (hn : n ≤ 24) (n39 : h 39 1 = nI n) (hV : VS h n) (e8 : h 43 = h 8) (e9 : h 44 = h 9) (e11 : h 46 = h 11) (e12 : h 47 = h 12) (e13 : h 48 = h 13) (e14 : h 49 = h 14) (e16 : h 53 = h 16) : ∃ h2, pm_cf (pm_Ev sl xs) (d + 2) 110 [.ref 40] (SH, h) = some (none, (SH, h2)) ∧ (∀ k, k < 60 ∨ 62 < k → h2 k = h k) ∧ (∀ j, j < n → h2 60 j = CV h n j) ∧ (∀ j, j < n → h2 61 j = WV h n j) ∧ ∀ j, j < n → h2 62 j = flV h (WV h n) j := by
  have hU := hV.up
  obtain ⟨f, g, a1, a2, a3⟩ := flow1 (sl := sl) (xs := xs) (d := d) hn n39 n 0 (h 60) (h 61) (by omega) (fun j hj => absurd hj (Nat.not_lt_zero _)) (fun j hj => absurd hj (Nat.not_lt_zero _))
  rw [pP_self] at a1
  have b1 := flow2 (sl := sl) (xs := xs) (d := d) hn hV e8 e9 e13 e14 e16 n f g (Nat.le_refl _)
  have hk : ∀ i, i < n → ¬ h 9 i < 0 → ¬ dk (h 9) (h 16) (upI (h 9) i) = 0 → ¬ dk (h 9) (h 16) i = 0 := by
    intro i hi hu hz
    rw [dk_eq hn hU hi]
    by_cases hd : h 16 i = 0
    · rw [if_pos hd, if_neg hu]; exact hz
    · rw [if_neg hd]; exact z10
  have hW : ∀ j, j < n → dnW (h 9) (ldS h) n g j = WV h n j := fun j hj => by
    rw [dnW_S hn hU n g (Nat.le_refl _)]
    refine dnS_cg hn hU n _ _ (Nat.le_refl _) (fun i hi => ?_) j hj
    rw [if_pos hi, a3 i hi, z00, Int32.zero_add]
  have hC : ∀ j, j < n → dnC (h 9) (ldS h) (dk (h 9) (h 16)) n f j = CV h n j := fun j hj => by
    rw [dnC_S hn hU hk n f (Nat.le_refl _) (fun i hi _ => a2 i hi)]
    refine dnS_cg hn hU n _ _ (Nat.le_refl _) (fun i hi => ?_) j hj
    rw [if_pos hi, a2 i hi, z00, Int32.zero_add]
    rfl
  have neP : ∀ (c w : Nat → Int32) (k : Nat), k ≠ 60 → k ≠ 61 → pP h 60 c 61 w k = h k := fun c w k k1 k2 => pP_ne k1 k2
  obtain ⟨f2, c1, c2⟩ := fall_m (sl := sl) (xs := xs) (d := d) (g := pP h 60 (dnC (h 9) (ldS h) (dk (h 9) (h 16)) n f) 61 (dnW (h 9) (ldS h) n g)) (h := h) (w := dnW (h 9) (ldS h) n g) hn hV (by rw [neP _ _ 39 (by decide) (by decide)]; exact n39) (by rw [neP _ _ 44 (by decide) (by decide)]; exact e9) (by rw [neP _ _ 46 (by decide) (by decide)]; exact e11) (by rw [neP _ _ 47 (by decide) (by decide)]; exact e12) pP_b n 0 (h 62) (by omega) (fun j hj => absurd hj (Nat.not_lt_zero _))
  have hs : pm_pt (pP h 60 (dnC (h 9) (ldS h) (dk (h 9) (h 16)) n f) 61 (dnW (h 9) (ldS h) n g)) 62 (h 62) = pP h 60 (dnC (h 9) (ldS h) (dk (h 9) (h 16)) n f) 61 (dnW (h 9) (ldS h) n g) := by
    have e := pt_self (pP h 60 (dnC (h 9) (ldS h) (dk (h 9) (h 16)) n f) 61 (dnW (h 9) (ldS h) n g)) 62
    rw [neP _ _ 62 (by decide) (by decide)] at e
    exact e
  rw [hs] at c1
  refine ⟨pm_pt (pP h 60 (dnC (h 9) (ldS h) (dk (h 9) (h 16)) n f) 61 (dnW (h 9) (ldS h) n g)) 62 f2, ?_, fun k hk => ?_, fun j hj => ?_, fun j hj => ?_, fun j hj => ?_⟩
  · rw [qX8_flow_0, a1, b1, c1]
  · rw [pt_ne (by omega), neP _ _ k (by omega) (by omega)]
  · rw [pt_ne (by decide), pP_a (by decide)]; exact hC j hj
  · rw [pt_ne (by decide), pP_b]; exact hW j hj
  · rw [pt_same, c2 j hj]
    exact flV_cg hn hU hW (j + 1) j (by omega) hj
end SURVEY
