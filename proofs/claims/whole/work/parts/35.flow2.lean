/-! the reference's flow over its own rows alone (h tells what they are) -/
section FLOWV
variable {sl : Nat} {xs : Nat → Int32}
theorem c_loadOf2 {d : Nat} {g h : pmH} {n j : Nat} (hn : n ≤ 24) (hj : j < n) (e8 : g 43 = h 8) (e13 : g 48 = h 13) (e14 : g 49 = h 14) (hV : VS h n) : pm_cf (pm_Ev sl xs) (d + 1) 108 [.ref 40, .int (nI j)] (SH, g) = some (some (.int (ldS h j)), (SH, g)) := by
  obtain ⟨k, -, -, h1, h2⟩ := hV.load hj
  rw [qX8_loadOf_0, pm_ix_nI (by omega) (by decide), pm_ix_nI (by omega) (by decide), pm_ix_nI (by omega) (by decide), e8, e13, e14, h1, ← h2]
  by_cases hk : h 8 j = nI 2
  · rw [if_pos hk, if_pos hk]
  · rw [if_neg hk, if_neg hk]
theorem flow2v {d : Nat} {g h : pmH} {n : Nat} (hn : n ≤ 24) (hV : VS h n) (e8 : g 43 = h 8) (e9 : g 44 = h 9) (e13 : g 48 = h 13) (e14 : g 49 = h 14) (e16 : g 53 = h 16) : ∀ (i : Nat) (c w : Nat → Int32), i ≤ n →
    pm_Ev sl xs (d + 1) 110 37 [some (.ref 40), some (.int (nI i - nI 1))] [] (SH, pP g 60 c 61 w) = pm_Ev sl xs (d + 1) 110 145 [some (.ref 40), some (.int (nI 0))] [] (SH, pP g 60 (dnC (h 9) (ldS h) (dk (h 9) (h 16)) i c) 61 (dnW (h 9) (ldS h) i w))
  | 0, c, w, _ => by
    rw [qX8_flow_37, if_pos (by decide)]
    rfl
  | i + 1, c, w, hi => by
    have hU := hV.up
    have ix : ∀ (t : Nat → Option pmR), pm_ix none (nI i) 24 t = t i := fun t => pm_ix_nI (by omega) (by decide)
    have ne : ∀ (c w : Nat → Int32) (k : Nat), k ≠ 60 → k ≠ 61 → pP g 60 c 61 w k = g k := fun c w k h1 h2 => pP_ne h1 h2
    have hl : ∀ (c w : Nat → Int32), pm_cf (pm_Ev sl xs) (d + 1) 108 [.ref 40, .int (nI i)] (SH, pP g 60 c 61 w) = some (some (.int (ldS h i)), (SH, pP g 60 c 61 w)) := fun c w =>
      c_loadOf2 (n := n) (j := i) hn (by omega) (by rw [ne c w 43 (by decide) (by decide)]; exact e8) (by rw [ne c w 48 (by decide) (by decide)]; exact e13) (by rw [ne c w 49 (by decide) (by decide)]; exact e14) hV
    have hdk : ∀ (c w : Nat → Int32), pm_cf (pm_Ev sl xs) (d + 1) 106 [.ref 40, .int (nI i)] (SH, pP g 60 c 61 w) = some (some (.int (dk (h 9) (h 16) i)), (SH, pP g 60 c 61 w)) := fun c w =>
      c_isDark (n := n) hn hU (by rw [ne c w 44 (by decide) (by decide)]; exact e9) (by rw [ne c w 53 (by decide) (by decide)]; exact e16) (by omega)
    have a60 : ∀ (c w : Nat → Int32), pP g 60 c 61 w 60 = c := fun c w => pP_a (by decide)
    have a61 : ∀ (c w : Nat → Int32), pP g 60 c 61 w 61 = w := fun c w => pP_b
    have u60 : ∀ (c w : Nat → Int32) (j : Nat) (x : Int32), pm_up (pP g 60 c 61 w) 60 j x = pP g 60 (upd c j x) 61 w := fun c w j x => pP_ua (by decide)
    have u61 : ∀ (c w : Nat → Int32) (j : Nat) (x : Int32), pm_up (pP g 60 c 61 w) 61 j x = pP g 60 c 61 (upd w j x) := fun c w j x => pP_ub
    rw [pk_sub (by omega), Nat.add_sub_cancel, qX8_flow_37, if_neg (nI_pos (by omega)), ix, hl, pm_ri_ok, ix, a61, u61, hdk, pm_ri_ok, dnC, dnW, m1]
    by_cases hd : dk (h 9) (h 16) i = 0
    · rw [if_pos hd, if_pos hd, ix, hl, pm_ri_ok, ix, ix, a60, ne _ _ 44 (by decide) (by decide), e9]
      by_cases hu : h 9 i < 0
      · rw [if_neg (fun z => (ge0 _).mp z hu), if_pos hu, if_pos hu, u60]
        exact flow2v hn hV e8 e9 e13 e14 e16 i _ _ (by omega)
      · obtain ⟨h1, h2⟩ := hU.lt hn (show i < n by omega) hu
        have iu : ∀ (t : Nat → Option pmR), pm_ix none (h 9 i) 24 t = t (upI (h 9) i) := fun t => by rw [h2]; exact pm_ix_nI (by omega) (by decide)
        rw [if_pos ((ge0 _).mpr hu), if_neg hu, if_neg hu, ix, iu, ix, iu, ix, iu, ix, iu, a61, u60, u61, u60]
        exact flow2v hn hV e8 e9 e13 e14 e16 i _ _ (by omega)
    · rw [if_neg hd, if_neg hd, ix, ix, a60, a61, ne _ _ 44 (by decide) (by decide), e9]
      by_cases hu : h 9 i < 0
      · rw [if_neg (fun z => (ge0 _).mp z hu), if_pos hu, if_pos hu, u60]
        exact flow2v hn hV e8 e9 e13 e14 e16 i _ _ (by omega)
      · obtain ⟨h1, h2⟩ := hU.lt hn (show i < n by omega) hu
        have iu : ∀ (t : Nat → Option pmR), pm_ix none (h 9 i) 24 t = t (upI (h 9) i) := fun t => by rw [h2]; exact pm_ix_nI (by omega) (by decide)
        rw [if_pos ((ge0 _).mpr hu), if_neg hu, if_neg hu, ix, iu, ix, iu, ix, iu, ix, iu, u60, u61, u60]
        exact flow2v hn hV e8 e9 e13 e14 e16 i _ _ (by omega)
theorem c_flow2 {d : Nat} {g h : pmH} {n : Nat} (hn : n ≤ 24) (n39 : g 39 1 = nI n) (hV : VS h n) (e8 : g 43 = h 8) (e9 : g 44 = h 9) (e11 : g 46 = h 11) (e12 : g 47 = h 12) (e13 : g 48 = h 13) (e14 : g 49 = h 14) (e16 : g 53 = h 16) : ∃ h2, pm_cf (pm_Ev sl xs) (d + 2) 110 [.ref 40] (SH, g) = some (none, (SH, h2)) ∧ (∀ k, k < 60 ∨ 62 < k → h2 k = g k) ∧ (∀ j, j < n → h2 60 j = CV h n j) ∧ (∀ j, j < n → h2 61 j = WV h n j) ∧ ∀ j, j < n → h2 62 j = flV h (WV h n) j := by
  have hU := hV.up
  obtain ⟨f, w, a1, a2, a3⟩ := flow1 (sl := sl) (xs := xs) (d := d) hn n39 n 0 (g 60) (g 61) (by omega) (fun j hj => absurd hj (Nat.not_lt_zero _)) (fun j hj => absurd hj (Nat.not_lt_zero _))
  rw [pP_self] at a1
  have b1 := flow2v (sl := sl) (xs := xs) (d := d) hn hV e8 e9 e13 e14 e16 n f w (Nat.le_refl _)
  have hk : ∀ i, i < n → ¬ h 9 i < 0 → ¬ dk (h 9) (h 16) (upI (h 9) i) = 0 → ¬ dk (h 9) (h 16) i = 0 := by
    intro i hi hu hz
    rw [dk_eq hn hU hi]
    by_cases hd : h 16 i = 0
    · rw [if_pos hd, if_neg hu]; exact hz
    · rw [if_neg hd]; exact z10
  have hW : ∀ j, j < n → dnW (h 9) (ldS h) n w j = WV h n j := fun j hj => by
    rw [dnW_S hn hU n w (Nat.le_refl _)]
    refine dnS_cg hn hU n _ _ (Nat.le_refl _) (fun i hi => ?_) j hj
    rw [if_pos hi, a3 i hi, z00, Int32.zero_add]
  have hC : ∀ j, j < n → dnC (h 9) (ldS h) (dk (h 9) (h 16)) n f j = CV h n j := fun j hj => by
    rw [dnC_S hn hU hk n f (Nat.le_refl _) (fun i hi _ => a2 i hi)]
    refine dnS_cg hn hU n _ _ (Nat.le_refl _) (fun i hi => ?_) j hj
    rw [if_pos hi, a2 i hi, z00, Int32.zero_add]
    rfl
  have neP : ∀ (c w : Nat → Int32) (k : Nat), k ≠ 60 → k ≠ 61 → pP g 60 c 61 w k = g k := fun c w k k1 k2 => pP_ne k1 k2
  obtain ⟨f2, c1, c2⟩ := fall_m (sl := sl) (xs := xs) (d := d) (g := pP g 60 (dnC (h 9) (ldS h) (dk (h 9) (h 16)) n f) 61 (dnW (h 9) (ldS h) n w)) (h := h) (w := dnW (h 9) (ldS h) n w) hn hV (by rw [neP _ _ 39 (by decide) (by decide)]; exact n39) (by rw [neP _ _ 44 (by decide) (by decide)]; exact e9) (by rw [neP _ _ 46 (by decide) (by decide)]; exact e11) (by rw [neP _ _ 47 (by decide) (by decide)]; exact e12) pP_b n 0 (g 62) (by omega) (fun j hj => absurd hj (Nat.not_lt_zero _))
  have hs : pm_pt (pP g 60 (dnC (h 9) (ldS h) (dk (h 9) (h 16)) n f) 61 (dnW (h 9) (ldS h) n w)) 62 (g 62) = pP g 60 (dnC (h 9) (ldS h) (dk (h 9) (h 16)) n f) 61 (dnW (h 9) (ldS h) n w) := by
    have e := pt_self (pP g 60 (dnC (h 9) (ldS h) (dk (h 9) (h 16)) n f) 61 (dnW (h 9) (ldS h) n w)) 62
    rw [neP _ _ 62 (by decide) (by decide)] at e
    exact e
  rw [hs] at c1
  refine ⟨pm_pt (pP g 60 (dnC (h 9) (ldS h) (dk (h 9) (h 16)) n f) 61 (dnW (h 9) (ldS h) n w)) 62 f2, ?_, fun k hk => ?_, fun j hj => ?_, fun j hj => ?_, fun j hj => ?_⟩
  · rw [qX8_flow_0, a1, b1, c1]
  · rw [pt_ne (by omega), neP _ _ k (by omega) (by omega)]
  · rw [pt_ne (by decide), pP_a (by decide)]; exact hC j hj
  · rw [pt_ne (by decide), pP_b]; exact hW j hj
  · rw [pt_same, c2 j hj]
    exact flV_cg hn hU hW (j + 1) j (by omega) hj
end FLOWV
/-! blow: the same strings die on both sides -/
/-- the last string whose fuse is less than what it carries -/
def ov (f c : Nat → Int32) : Nat → Option Nat
  | 0 => none
  | i + 1 => if f i ≤ 0 then ov f c i else if c i ≤ f i then ov f c i else some i
def CD (h : pmH) (n : Nat) (dd : Nat → Int32) : Nat → Int32 := crV9 (h 9) (ldS h) (dk (h 9) dd) n
def BLs (h : pmH) (n : Nat) : Nat → (Nat → Int32) → (Nat → Int32) → (Nat → Int32) → Nat × (Nat → Int32) × (Nat → Int32) × (Nat → Int32)
  | 0, dd, fi, la => (0, dd, fi, la)
  | a + 1, dd, fi, la => match ov (h 15) (CD h n dd) n with
    | none => (0, dd, fi, la)
    | some s => ((BLs h n a (upd dd s (nI 1)) (upd fi s (nI 0)) (upd la s (h 13 s - nI 1))).1 + 1, (BLs h n a (upd dd s (nI 1)) (upd fi s (nI 0)) (upd la s (h 13 s - nI 1))).2)
theorem ov_lt {f c : Nat → Int32} : ∀ (i s : Nat), ov f c i = some s → s < i ∧ ¬ f s ≤ 0 ∧ ¬ c s ≤ f s
  | 0, s, h => by cases h
  | i + 1, s, h => by
    rw [ov] at h
    by_cases h1 : f i ≤ 0
    · rw [if_pos h1] at h
      obtain ⟨a, b⟩ := ov_lt i s h
      exact ⟨by omega, b⟩
    · rw [if_neg h1] at h
      by_cases h2 : c i ≤ f i
      · rw [if_pos h2] at h
        obtain ⟨a, b⟩ := ov_lt i s h
        exact ⟨by omega, b⟩
      · rw [if_neg h2] at h
        cases h
        exact ⟨by omega, h1, h2⟩
theorem ov_none {f c : Nat → Int32} : ∀ (i : Nat), (∀ s, s < i → ¬ f s ≤ 0 → c s ≤ f s) → ov f c i = none
  | 0, _ => rfl
  | i + 1, h => by
    rw [ov]
    by_cases h1 : f i ≤ 0
    · rw [if_pos h1]; exact ov_none i (fun s hs => h s (by omega))
    · rw [if_neg h1, if_pos (h i (by omega) h1)]; exact ov_none i (fun s hs => h s (by omega))
theorem ov_cg {f c c2 : Nat → Int32} : ∀ (i : Nat), (∀ s, s < i → c s = c2 s) → ov f c i = ov f c2 i
  | 0, _ => rfl
  | i + 1, h => by rw [ov, ov, ov_cg i (fun s hs => h s (by omega)), h i (by omega)]
theorem i_le_tr {x y z : Int32} (h1 : ¬ y ≤ x) (h2 : ¬ z ≤ y) : ¬ z ≤ x := by
  rw [Int32.le_iff_toInt_le] at *
  omega
/-- what is dark carries nothing -/
theorem dnS_dark {up dkf : Nat → Int32} {n : Nat} (hn : n ≤ 24) (hU : UPok up n) (hk : ∀ i, i < n → ¬ up i < 0 → ¬ dkf (upI up i) = 0 → ¬ dkf i = 0) : ∀ (i : Nat) (w : Nat → Int32), i ≤ n → (∀ j, j < n → ¬ dkf j = 0 → w j = nI 0) → ∀ j, j < n → ¬ dkf j = 0 → dnS up i w j = nI 0
  | 0, w, _, hw, j, hj, hd => hw j hj hd
  | i + 1, w, hi, hw, j, hj, hd => by
    rw [dnS]
    refine dnS_dark hn hU hk i _ (by omega) (fun j2 h2 hd2 => ?_) j hj hd
    by_cases hu : up i < 0
    · rw [if_pos hu]; exact hw j2 h2 hd2
    · rw [if_neg hu]
      by_cases e : j2 = upI up i
      · subst e
        rw [upd_s, hw _ h2 hd2, hw i (by omega) (hk i (by omega) hu hd2)]
        rfl
      · rw [upd_n e]; exact hw j2 h2 hd2
theorem CD_dead {h : pmH} {n : Nat} {dd : Nat → Int32} (hn : n ≤ 24) (hU : UPok (h 9) n) {j : Nat} (hj : j < n) (hd : ¬ dd j = 0) : CD h n dd j = nI 0 := by
  have hk : ∀ i, i < n → ¬ h 9 i < 0 → ¬ dk (h 9) dd (upI (h 9) i) = 0 → ¬ dk (h 9) dd i = 0 := by
    intro i hi hu hz
    rw [dk_eq hn hU hi]
    by_cases hd : dd i = 0
    · rw [if_pos hd, if_neg hu]; exact hz
    · rw [if_neg hd]; exact z10
  unfold CD crV9
  refine dnS_dark hn hU hk n _ (Nat.le_refl _) (fun j2 _ h3 => ?_) j hj ?_
  · unfold clF; rw [if_neg h3]
  · rw [dk_eq hn hU hj, if_neg hd]; exact z10
def alv (dd : Nat → Int32) : Nat → Nat
  | 0 => 0
  | k + 1 => alv dd k + if dd k = 0 then 1 else 0
theorem alv_le (dd : Nat → Int32) : ∀ k, alv dd k ≤ k
  | 0 => Nat.le_refl _
  | k + 1 => by
    have := alv_le dd k
    rw [alv]
    by_cases h : dd k = 0
    · rw [if_pos h]; omega
    · rw [if_neg h]; omega
theorem alv_ge {dd : Nat → Int32} {s : Nat} : ∀ k, k ≤ s → alv (upd dd s (nI 1)) k = alv dd k
  | 0, _ => rfl
  | k + 1, h => by rw [alv, alv, alv_ge k (by omega), upd_n (by omega)]
theorem alv_lt {dd : Nat → Int32} {s : Nat} (h0 : dd s = 0) : ∀ k, s < k → alv (upd dd s (nI 1)) k + 1 = alv dd k
  | 0, h => absurd h (Nat.not_lt_zero _)
  | k + 1, h => by
    rw [alv, alv]
    by_cases e : k = s
    · subst e
      rw [alv_ge k (Nat.le_refl _), upd_s, if_neg z10, if_pos h0]
    · have := alv_lt h0 k (by omega)
      rw [upd_n e]
      omega
theorem alv_0 {dd : Nat → Int32} : ∀ k, alv dd k = 0 → ∀ j, j < k → ¬ dd j = 0
  | 0, _, j, hj => absurd hj (Nat.not_lt_zero _)
  | k + 1, h, j, hj => by
    rw [alv] at h
    by_cases h1 : dd k = 0
    · rw [if_pos h1] at h; omega
    · by_cases e : j = k
      · rw [e]; exact h1
      · exact alv_0 k (by omega) j (by omega)
