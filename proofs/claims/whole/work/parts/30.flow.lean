/-! the reference's flow; values that come down the trees -/
def trF (up b : Nat → Int32) (st : Nat → Int32 → Int32) : Nat → Nat → Int32
  | 0, _ => nI 0
  | f + 1, s => if up s < 0 then b s else st s (trF up b st f (upI up s))
def tr (up b : Nat → Int32) (st : Nat → Int32 → Int32) (s : Nat) : Int32 := trF up b st (s + 1) s
theorem trF_fuel {up b : Nat → Int32} {st : Nat → Int32 → Int32} {n : Nat} (hn : n ≤ 24) (hU : UPok up n) : ∀ (c s f : Nat), s < c → s < n → s < f → trF up b st f s = tr up b st s
  | 0, s, f, h1, _, _ => absurd h1 (Nat.not_lt_zero _)
  | c + 1, s, f, h1, h2, h3 => by
    obtain ⟨g, rfl⟩ : ∃ g, f = g + 1 := ⟨f - 1, by omega⟩
    unfold tr
    rw [trF, trF]
    by_cases hu : up s < 0
    · rw [if_pos hu, if_pos hu]
    · obtain ⟨h4, -⟩ := hU.lt hn h2 hu
      rw [if_neg hu, if_neg hu, trF_fuel hn hU c (upI up s) g (by omega) (by omega) (by omega), trF_fuel hn hU c (upI up s) s (by omega) (by omega) h4]
theorem tr_eq {up b : Nat → Int32} {st : Nat → Int32 → Int32} {n s : Nat} (hn : n ≤ 24) (hU : UPok up n) (hs : s < n) : tr up b st s = if up s < 0 then b s else st s (tr up b st (upI up s)) := by
  conv => lhs; unfold tr
  rw [trF]
  by_cases hu : up s < 0
  · rw [if_pos hu, if_pos hu]
  · obtain ⟨h4, -⟩ := hU.lt hn hs hu
    rw [if_neg hu, if_neg hu, trF_fuel hn hU (upI up s + 1) (upI up s) s (by omega) (by omega) h4]
theorem ge0 (x : Int32) : 0 ≤ x ↔ ¬ x < 0 := by rw [i_lt]; exact ⟨fun h z => z h, fun h => Classical.byContradiction h⟩
section FLOW
variable {sl : Nat} {xs : Nat → Int32}
theorem flow2 {d : Nat} {h : pmH} {n : Nat} (hn : n ≤ 24) (hV : VS h n) (e8 : h 43 = h 8) (e9 : h 44 = h 9) (e13 : h 48 = h 13) (e14 : h 49 = h 14) (e16 : h 53 = h 16) : ∀ (i : Nat) (c w : Nat → Int32), i ≤ n →
    pm_Ev sl xs (d + 1) 110 37 [some (.ref 40), some (.int (nI i - nI 1))] [] (SH, pP h 60 c 61 w) = pm_Ev sl xs (d + 1) 110 145 [some (.ref 40), some (.int (nI 0))] [] (SH, pP h 60 (dnC (h 9) (ldS h) (dk (h 9) (h 16)) i c) 61 (dnW (h 9) (ldS h) i w))
  | 0, c, w, _ => by
    rw [qX8_flow_37, if_pos (by decide)]
    rfl
  | i + 1, c, w, hi => by
    have hU := hV.up
    have ix : ∀ (t : Nat → Option pmR), pm_ix none (nI i) 24 t = t i := fun t => pm_ix_nI (by omega) (by decide)
    have ne : ∀ (c w : Nat → Int32) (k : Nat), k ≠ 60 → k ≠ 61 → pP h 60 c 61 w k = h k := fun c w k h1 h2 => pP_ne h1 h2
    have hl : ∀ (c w : Nat → Int32), pm_cf (pm_Ev sl xs) (d + 1) 108 [.ref 40, .int (nI i)] (SH, pP h 60 c 61 w) = some (some (.int (ldS h i)), (SH, pP h 60 c 61 w)) := fun c w => by
      have hV2 : VS (pP h 60 c 61 w) n := by
        unfold VS
        rw [ne c w 8 (by decide) (by decide), ne c w 9 (by decide) (by decide), ne c w 10 (by decide) (by decide), ne c w 11 (by decide) (by decide), ne c w 12 (by decide) (by decide), ne c w 13 (by decide) (by decide), ne c w 14 (by decide) (by decide), ne c w 15 (by decide) (by decide), ne c w 16 (by decide) (by decide)]
        exact hV
      rw [c_loadOf (n := n) (j := i) hn (by omega) (by rw [ne c w 43 (by decide) (by decide), ne c w 8 (by decide) (by decide)]; exact e8) (by rw [ne c w 48 (by decide) (by decide), ne c w 13 (by decide) (by decide)]; exact e13) (by rw [ne c w 49 (by decide) (by decide), ne c w 14 (by decide) (by decide)]; exact e14) hV2]
      rw [ldS_cg (ne c w 8 (by decide) (by decide)) (ne c w 13 (by decide) (by decide)) (ne c w 14 (by decide) (by decide))]
    have hdk : ∀ (c w : Nat → Int32), pm_cf (pm_Ev sl xs) (d + 1) 106 [.ref 40, .int (nI i)] (SH, pP h 60 c 61 w) = some (some (.int (dk (h 9) (h 16) i)), (SH, pP h 60 c 61 w)) := fun c w =>
      c_isDark (n := n) hn hU (by rw [ne c w 44 (by decide) (by decide)]; exact e9) (by rw [ne c w 53 (by decide) (by decide)]; exact e16) (by omega)
    have a60 : ∀ (c w : Nat → Int32), pP h 60 c 61 w 60 = c := fun c w => pP_a (by decide)
    have a61 : ∀ (c w : Nat → Int32), pP h 60 c 61 w 61 = w := fun c w => pP_b
    have u60 : ∀ (c w : Nat → Int32) (j : Nat) (x : Int32), pm_up (pP h 60 c 61 w) 60 j x = pP h 60 (upd c j x) 61 w := fun c w j x => pP_ua (by decide)
    have u61 : ∀ (c w : Nat → Int32) (j : Nat) (x : Int32), pm_up (pP h 60 c 61 w) 61 j x = pP h 60 c 61 (upd w j x) := fun c w j x => pP_ub
    rw [pk_sub (by omega), Nat.add_sub_cancel, qX8_flow_37, if_neg (nI_pos (by omega)), ix, hl, pm_ri_ok, ix, a61, u61, hdk, pm_ri_ok, dnC, dnW, m1]
    by_cases hd : dk (h 9) (h 16) i = 0
    · rw [if_pos hd, if_pos hd, ix, hl, pm_ri_ok, ix, ix, a60, ne _ _ 44 (by decide) (by decide), e9]
      by_cases hu : h 9 i < 0
      · rw [if_neg (fun z => (ge0 _).mp z hu), if_pos hu, if_pos hu, u60]
        exact flow2 hn hV e8 e9 e13 e14 e16 i _ _ (by omega)
      · obtain ⟨h1, h2⟩ := hU.lt hn (show i < n by omega) hu
        have iu : ∀ (t : Nat → Option pmR), pm_ix none (h 9 i) 24 t = t (upI (h 9) i) := fun t => by rw [h2]; exact pm_ix_nI (by omega) (by decide)
        rw [if_pos ((ge0 _).mpr hu), if_neg hu, if_neg hu, ix, iu, ix, iu, ix, iu, ix, iu, a61, u60, u61, u60]
        exact flow2 hn hV e8 e9 e13 e14 e16 i _ _ (by omega)
    · rw [if_neg hd, if_neg hd, ix, ix, a60, a61, ne _ _ 44 (by decide) (by decide), e9]
      by_cases hu : h 9 i < 0
      · rw [if_neg (fun z => (ge0 _).mp z hu), if_pos hu, if_pos hu, u60]
        exact flow2 hn hV e8 e9 e13 e14 e16 i _ _ (by omega)
      · obtain ⟨h1, h2⟩ := hU.lt hn (show i < n by omega) hu
        have iu : ∀ (t : Nat → Option pmR), pm_ix none (h 9 i) 24 t = t (upI (h 9) i) := fun t => by rw [h2]; exact pm_ix_nI (by omega) (by decide)
        rw [if_pos ((ge0 _).mpr hu), if_neg hu, if_neg hu, ix, iu, ix, iu, ix, iu, ix, iu, u60, u61, u60]
        exact flow2 hn hV e8 e9 e13 e14 e16 i _ _ (by omega)
end FLOW
