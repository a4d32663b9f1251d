/-! blow -/
def RL (g h : pmH) (dd fi la : Nat → Int32) : Prop := (∀ k, k < 16 ∨ (18 < k ∧ k < 21) ∨ 25 < k → g k = h k) ∧ g 16 = dd ∧ g 17 = fi ∧ g 18 = la
def RM (g h : pmH) (dd fi la : Nat → Int32) : Prop := (∀ k, k < 51 ∨ (53 < k ∧ k < 60) ∨ 62 < k → g k = h k) ∧ g 53 = dd ∧ g 51 = fi ∧ g 52 = la
def B01 (dd : Nat → Int32) (n : Nat) : Prop := ∀ j, j < n → dd j = 0 ∨ dd j = 1
theorem B01.up {dd : Nat → Int32} {n s : Nat} (hb : B01 dd n) : B01 (upd dd s (nI 1)) n := fun j hj => by
  by_cases e : j = s
  · subst e; rw [upd_s]; exact Or.inr rfl
  · rw [upd_n e]; exact hb j hj
theorem VS.dd {g h : pmH} {n : Nat} {dd : Nat → Int32} (hV : VS h n) (hb : B01 dd n) (e : ∀ k, 8 ≤ k → k < 16 → g k = h k) (e16 : g 16 = dd) : VS g n := by
  intro j hj
  obtain ⟨a1, a2, a3, a4, a5, a6, a7, a8, -⟩ := hV j hj
  rw [e 8 (by decide) (by decide), e 9 (by decide) (by decide), e 10 (by decide) (by decide), e 11 (by decide) (by decide), e 12 (by decide) (by decide), e 13 (by decide) (by decide), e 14 (by decide) (by decide), e 15 (by decide) (by decide), e16]
  exact ⟨a1, a2, a3, a4, a5, a6, a7, a8, hb j hj⟩
theorem CV_dd {g h : pmH} {n : Nat} {dd : Nat → Int32} (e : ∀ k, 8 ≤ k → k < 16 → g k = h k) (e16 : g 16 = dd) : CV g n = CD h n dd := by
  unfold CV CD DV
  rw [show ldS g = ldS h from funext fun j => ldS_cg (e 8 (by decide) (by decide)) (e 13 (by decide) (by decide)) (e 14 (by decide) (by decide)), e 9 (by decide) (by decide), e16]
theorem ov_dead {h : pmH} {n : Nat} {dd : Nat → Int32} (hn : n ≤ 24) (hU : UPok (h 9) n) {s : Nat} (ho : ov (h 15) (CD h n dd) n = some s) : s < n ∧ dd s = 0 := by
  obtain ⟨h1, h2, h3⟩ := ov_lt n s ho
  refine ⟨h1, Classical.byContradiction fun hd => ?_⟩
  have h4 := i_le_tr h2 h3
  rw [CD_dead hn hU h1 hd] at h4
  exact h4 (by decide)
theorem BLs_none {h : pmH} {n a : Nat} {dd fi la : Nat → Int32} (ho : ov (h 15) (CD h n dd) n = none) : BLs h n a dd fi la = (0, dd, fi, la) := by
  cases a with
  | zero => rfl
  | succ a => rw [BLs, ho]
theorem BLs_some {h : pmH} {n a s : Nat} {dd fi la : Nat → Int32} (ho : ov (h 15) (CD h n dd) n = some s) : BLs h n (a + 1) dd fi la = ((BLs h n a (upd dd s (nI 1)) (upd fi s (nI 0)) (upd la s (h 13 s - nI 1))).1 + 1, (BLs h n a (upd dd s (nI 1)) (upd fi s (nI 0)) (upd la s (h 13 s - nI 1))).2) := by
  rw [BLs, ho]
theorem BLs_ok {h : pmH} {n : Nat} : ∀ (a : Nat) (dd fi la : Nat → Int32), B01 dd n → B01 (BLs h n a dd fi la).2.1 n ∧ ∀ j, n ≤ j → (BLs h n a dd fi la).2.1 j = dd j
  | 0, dd, fi, la, hb => ⟨hb, fun _ _ => rfl⟩
  | a + 1, dd, fi, la, hb => by
    cases ho : ov (h 15) (CD h n dd) n with
    | none => rw [BLs_none ho]; exact ⟨hb, fun _ _ => rfl⟩
    | some s =>
      rw [BLs_some ho]
      obtain ⟨h1, h2⟩ := BLs_ok a (upd dd s (nI 1)) (upd fi s (nI 0)) (upd la s (h 13 s - nI 1)) hb.up
      refine ⟨h1, fun j hj => ?_⟩
      have h3 := (ov_lt n s ho).1
      rw [h2 j hj, upd_n (by omega)]
section BLOW
variable {sl : Nat} {xs : Nat → Int32}
theorem last_c {d : Nat} {h : pmH} : ∀ (i : Nat), i ≤ 24 → pm_Ev sl xs d 11 10 [some (.ref 21), some (.int (nI i - nI 1))] [] (SH, h) = (match ov (h 15) (h 22) i with
    | none => some (some (.int (-nI 1)), (SH, h))
    | some s => some (some (.int (nI s)), (SH, h)))
  | 0, _ => by rw [qX1_lastOverloaded_10, if_pos (by decide)]; rfl
  | i + 1, hi => by
    have ix : ∀ (t : Nat → Option pmR), pm_ix none (nI i) 24 t = t i := fun t => pm_ix_nI (by omega) (by decide)
    rw [pk_sub (by omega), Nat.add_sub_cancel, qX1_lastOverloaded_10, if_neg (nI_pos (by omega)), ix, m1, last_c i (by omega), ov]
    by_cases h1 : h 15 i ≤ 0
    · rw [if_pos h1, if_pos h1]
    · rw [if_neg h1, if_neg h1, ix, ix]
      by_cases h2 : h 22 i ≤ h 15 i
      · rw [if_pos h2, if_pos h2]
      · rw [if_neg h2, if_neg h2]
theorem blow_c {d : Nat} {h : pmH} {n : Nat} (hn : n ≤ 24) (hV : VS h n) (n7 : h 7 0 = nI n) : ∀ (a r b : Nat) (g : pmH) (dd fi la : Nat → Int32) (o3 : Option Value), r + a = 24 → RL g h dd fi la → B01 dd n →
    ∃ g2, pm_Ev sl xs (d + 3) 10 4 [some (.ref 21), some (.int (nI b)), some (.int (nI r)), o3] [] (SH, g) = some (some (.int (nI (b + (BLs h n a dd fi la).1))), (SH, g2)) ∧ RL g2 h (BLs h n a dd fi la).2.1 (BLs h n a dd fi la).2.2.1 (BLs h n a dd fi la).2.2.2
  | 0, r, b, g, dd, fi, la, o3, hr, hR, hb => by
    refine ⟨g, ?_, hR⟩
    rw [qX1_blowFuses_4, if_pos (nI_le (by omega) (by omega))]
    rfl
  | a + 1, r, b, g, dd, fi, la, o3, hr, hR, hb => by
    have eg : ∀ k, 8 ≤ k → k < 16 → g k = h k := fun k k1 k2 => hR.1 k (by omega)
    have hVg : VS g n := hV.dd hb eg hR.2.1
    obtain ⟨g1, a1, a2, -, a4, -⟩ := c_survey (sl := sl) (xs := xs) (d := d) hn (show g 7 0 = nI n by rw [hR.1 7 (by omega)]; exact n7) hVg
    have hR1 : RL g1 h dd fi la := ⟨fun k hk => by rw [a2 k (by omega)]; exact hR.1 k hk, by rw [a2 16 (by omega)]; exact hR.2.1, by rw [a2 17 (by omega)]; exact hR.2.2.1, by rw [a2 18 (by omega)]; exact hR.2.2.2⟩
    have eo : ov (g1 15) (g1 22) n = ov (h 15) (CD h n dd) n := by
      rw [hR1.1 15 (by omega)]
      refine ov_cg n (fun s hs => ?_)
      rw [a4 s hs, CV_dd eg hR.2.1]
    have hl : pm_cf (pm_Ev sl xs) (d + 3) 11 [.ref 21] (SH, g1) = (match ov (h 15) (CD h n dd) n with
        | none => some (some (.int (-nI 1)), (SH, g1))
        | some s => some (some (.int (nI s)), (SH, g1))) := by
      rw [qX1_lastOverloaded_0, hR1.1 7 (by omega), n7, last_c n hn, eo]
    rw [qX1_blowFuses_4, if_neg (nI_ge (by omega) (by omega)), a1, pm_rv_ok, hl]
    cases ho : ov (h 15) (CD h n dd) n with
    | none =>
      refine ⟨g1, ?_, ?_⟩
      · rw [BLs_none ho]
        show pm_ri (some (some (.int (-nI 1)), (SH, g1))) SH _ = _
        rw [pm_ri_ok, if_neg (fun z => (ge0 _).mp z neg1)]
        rfl
      · rw [BLs_none ho]; exact hR1
    | some s =>
      obtain ⟨hs, hd⟩ := ov_dead hn hV.up ho
      have ix : ∀ (t : Nat → Option pmR), pm_ix none (nI s) 24 t = t s := fun t => pm_ix_nI (by omega) (by decide)
      have hR2 : RL (pm_up (pm_up (pm_up g1 16 s (nI 1)) 17 s (nI 0)) 18 s (g1 13 s - nI 1)) h (upd dd s (nI 1)) (upd fi s (nI 0)) (upd la s (h 13 s - nI 1)) := by
        refine ⟨fun k hk => ?_, ?_, ?_, ?_⟩
        · rw [pm_up_ne (by omega), pm_up_ne (by omega), pm_up_ne (by omega)]; exact hR1.1 k hk
        · rw [pm_up_ne (by omega), pm_up_ne (by omega), pm_up_same, hR1.2.1]
        · rw [pm_up_ne (by omega), pm_up_same, pm_up_ne (by omega), hR1.2.2.1]
        · rw [pm_up_same, pm_up_ne (by omega), pm_up_ne (by omega), hR1.2.2.2, hR1.1 13 (by omega)]
      obtain ⟨g2, b1, b2⟩ := blow_c hn hV n7 a (r + 1) (b + 1) _ _ _ _ (some (.int (nI s))) (by omega) hR2 hb.up
      refine ⟨g2, ?_, ?_⟩
      · show pm_ri (some (some (.int (nI s)), (SH, g1))) SH _ = _
        rw [pm_ri_ok, if_pos ((ge0 _).mpr (nI_pos (by omega))), qX5_kill_0, ix, hR1.2.1, if_pos hd, ix, ix, ix, ix, pm_rv_ok, nI_add, nI_add, b1, BLs_some ho]
        simp only [Nat.add_assoc, Nat.add_comm 1]
      · rw [BLs_some ho]; exact b2
theorem scan_m {d : Nat} {g h : pmH} {n b : Nat} (hn : n ≤ 24) (hV : VS h n) (e15 : g 50 = h 15) : ∀ (i : Nat), i ≤ n → pm_Ev sl xs (d + 1) 115 19 [some (.ref 40), some (.int (nI b)), some (.int (nI 1)), some (.int (nI i - nI 1))] [] (SH, g) = (match ov (h 15) (g 60) i with
    | none => some (some (.int (nI b)), (SH, g))
    | some s => pm_rv (pm_cf (pm_Ev sl xs) (d + 1) 104 [.ref 40, .int (nI s)] (SH, g)) SH fun h7 => pm_Ev sl xs (d + 1) 115 4 [some (.ref 40), some (.int (nI b + nI 1)), some (.int (nI 1)), some (.int (nI s))] [] (SH, h7))
  | 0, _ => by
    have hz : nI 0 - nI 1 < 0 := by decide
    rw [qX8_blow_19, if_pos hz, if_pos hz, if_pos z00, qX8_blow_4, if_pos z00]
    rfl
  | i + 1, hi => by
    have ix : ∀ (t : Nat → Option pmR), pm_ix none (nI i) 24 t = t i := fun t => pm_ix_nI (by omega) (by decide)
    have hnn : ¬ nI i < 0 := nI_pos (by omega)
    have h0 := (hV.f0 (show i < n by omega)).1
    rw [pk_sub (by omega), Nat.add_sub_cancel, qX8_blow_19, if_neg hnn, ix, m1, scan_m hn hV e15 i (by omega), ov, e15]
    by_cases h1 : h 15 i = 0
    · rw [if_pos h1, if_pos (h0.mpr h1)]
    · rw [if_neg h1, if_neg (fun z => h1 (h0.mp z)), ix, ix]
      by_cases h2 : g 60 i ≤ h 15 i
      · rw [if_pos h2, if_neg (fun z => ((i_lt _ _).mp z) h2)]
      · rw [if_neg h2, if_pos ((i_lt _ _).mpr h2), if_neg hnn, if_neg z10]
theorem blow_m {d : Nat} {h g0 : pmH} {n : Nat} (hn : n ≤ 24) (hV : VS h n) (n39 : g0 39 1 = nI n) (e8 : g0 43 = h 8) (e9 : g0 44 = h 9) (e11 : g0 46 = h 11) (e12 : g0 47 = h 12) (e13 : g0 48 = h 13) (e14 : g0 49 = h 14) (e15 : g0 50 = h 15) : ∀ (a b : Nat) (g : pmH) (dd fi la : Nat → Int32) (o3 : Option Value), alv dd n ≤ a → RM g g0 dd fi la → B01 dd n →
    ∃ g2, pm_Ev sl xs (d + 2) 115 4 [some (.ref 40), some (.int (nI b)), some (.int (nI 1)), o3] [] (SH, g) = some (some (.int (nI (b + (BLs h n a dd fi la).1))), (SH, g2)) ∧ RM g2 g0 (BLs h n a dd fi la).2.1 (BLs h n a dd fi la).2.2.1 (BLs h n a dd fi la).2.2.2 := by
  intro a
  induction a with
  | zero =>
    intro b g dd fi la o3 ha hR hb
    have e : ∀ k, 8 ≤ k → k < 16 → (pm_pt h 16 dd) k = h k := fun k k1 k2 => pt_ne (by omega)
    have hVg : VS (pm_pt h 16 dd) n := hV.dd hb e (pt_same _ _ _)
    obtain ⟨g1, a1, a2, a3, -⟩ := c_flow2 (sl := sl) (xs := xs) (d := d) (g := g) (h := pm_pt h 16 dd) hn (by rw [hR.1 39 (by omega)]; exact n39) hVg (by rw [hR.1 43 (by omega), e8]; rfl) (by rw [hR.1 44 (by omega), e9]; rfl) (by rw [hR.1 46 (by omega), e11]; rfl) (by rw [hR.1 47 (by omega), e12]; rfl) (by rw [hR.1 48 (by omega), e13]; rfl) (by rw [hR.1 49 (by omega), e14]; rfl) (by rw [hR.2.1]; rfl)
    have eo : ov (h 15) (g1 60) n = none := by
      rw [ov_cg (c2 := CD h n dd) n (fun s hs => by rw [a3 s hs, CV_dd e (pt_same _ _ _)])]
      refine ov_none n (fun s hs h1 => ?_)
      rw [CD_dead hn hV.up hs (alv_0 n (by omega) s hs)]
      rw [Int32.le_iff_toInt_le] at h1 ⊢
      rw [nI_toInt (by decide)]
      rw [Int32.toInt_zero] at h1
      omega
    have hR1 : RM g1 g0 dd fi la := ⟨fun k hk => by rw [a2 k (by omega)]; exact hR.1 k hk, by rw [a2 53 (by omega)]; exact hR.2.1, by rw [a2 51 (by omega)]; exact hR.2.2.1, by rw [a2 52 (by omega)]; exact hR.2.2.2⟩
    refine ⟨g1, ?_, hR1⟩
    rw [qX8_blow_4, if_neg z10, a1, pm_rv_ok, hR1.1 39 (by omega), n39, scan_m hn hV (by rw [hR1.1 50 (by omega)]; exact e15) n (Nat.le_refl _), eo]
    rfl
  | succ a ih =>
    intro b g dd fi la o3 ha hR hb
    have e : ∀ k, 8 ≤ k → k < 16 → (pm_pt h 16 dd) k = h k := fun k k1 k2 => pt_ne (by omega)
    have hVg : VS (pm_pt h 16 dd) n := hV.dd hb e (pt_same _ _ _)
    obtain ⟨g1, a1, a2, a3, -⟩ := c_flow2 (sl := sl) (xs := xs) (d := d) (g := g) (h := pm_pt h 16 dd) hn (by rw [hR.1 39 (by omega)]; exact n39) hVg (by rw [hR.1 43 (by omega), e8]; rfl) (by rw [hR.1 44 (by omega), e9]; rfl) (by rw [hR.1 46 (by omega), e11]; rfl) (by rw [hR.1 47 (by omega), e12]; rfl) (by rw [hR.1 48 (by omega), e13]; rfl) (by rw [hR.1 49 (by omega), e14]; rfl) (by rw [hR.2.1]; rfl)
    have eo : ov (h 15) (g1 60) n = ov (h 15) (CD h n dd) n := ov_cg n (fun s hs => by rw [a3 s hs, CV_dd e (pt_same _ _ _)])
    have hR1 : RM g1 g0 dd fi la := ⟨fun k hk => by rw [a2 k (by omega)]; exact hR.1 k hk, by rw [a2 53 (by omega)]; exact hR.2.1, by rw [a2 51 (by omega)]; exact hR.2.2.1, by rw [a2 52 (by omega)]; exact hR.2.2.2⟩
    rw [qX8_blow_4, if_neg z10, a1, pm_rv_ok, hR1.1 39 (by omega), n39, scan_m hn hV (by rw [hR1.1 50 (by omega)]; exact e15) n (Nat.le_refl _), eo]
    cases ho : ov (h 15) (CD h n dd) n with
    | none =>
      refine ⟨g1, ?_, ?_⟩
      · rw [BLs_none ho]; rfl
      · rw [BLs_none ho]; exact hR1
    | some s =>
      obtain ⟨hs, hd⟩ := ov_dead hn hV.up ho
      have ix : ∀ (t : Nat → Option pmR), pm_ix none (nI s) 24 t = t s := fun t => pm_ix_nI (by omega) (by decide)
      have hR2 : RM (pm_up (pm_up (pm_up g1 53 s (nI 1)) 51 s (nI 0)) 52 s (g1 48 s - nI 1)) g0 (upd dd s (nI 1)) (upd fi s (nI 0)) (upd la s (h 13 s - nI 1)) := by
        refine ⟨fun k hk => ?_, ?_, ?_, ?_⟩
        · rw [pm_up_ne (by omega), pm_up_ne (by omega), pm_up_ne (by omega)]; exact hR1.1 k hk
        · rw [pm_up_ne (by omega), pm_up_ne (by omega), pm_up_same, hR1.2.1]
        · rw [pm_up_ne (by omega), pm_up_same, pm_up_ne (by omega), hR1.2.2.1]
        · rw [pm_up_same, pm_up_ne (by omega), pm_up_ne (by omega), hR1.2.2.2, hR1.1 48 (by omega), e13]
      have hal := alv_lt hd n hs
      obtain ⟨g2, b1, b2⟩ := ih (b + 1) _ _ _ _ (some (.int (nI s))) (by omega) hR2 hb.up
      refine ⟨g2, ?_, ?_⟩
      · show pm_rv (pm_cf (pm_Ev sl xs) (d + 1 + 1) 104 [.ref 40, .int (nI s)] (SH, g1)) SH _ = _
        rw [qX8_dies_0, ix, ix, ix, ix, pm_rv_ok, nI_add, b1, BLs_some ho]
        simp only [Nat.add_assoc, Nat.add_comm 1]
      · rw [BLs_some ho]; exact b2
end BLOW
/-- the rows of the dead and of where the fault is, put anew on both sides -/
theorem InvN.rows3 {h h2 : pmH} {n m q : Nat} {dd fi la : Nat → Int32} (hi : InvN h n m q) (hA : ∀ k ∈ relA, k ∉ [16, 17, 18, 51, 52, 53] → h2 k = h k) (hF : ∀ p ∈ relF, h2 p.1 p.2 = h p.1 p.2) (a1 : h2 16 = dd) (a2 : h2 53 = dd) (b1 : h2 17 = fi) (b2 : h2 51 = fi) (c1 : h2 18 = la) (c2 : h2 52 = la) (h01 : B01 dd n) (hge : ∀ j, n ≤ j → dd j = h 16 j) : InvN h2 n m q := by
  obtain ⟨hb, hE, hS, ⟨hVS, hV0, hVC, hVL, hVP, hVH⟩, hN, hB⟩ := hi.to
  have key : ∀ p ∈ prs, p = (16, 53) ∨ p = (17, 51) ∨ p = (18, 52) ∨ (p.1 ∉ [16, 17, 18, 51, 52, 53] ∧ p.2 ∉ [16, 17, 18, 51, 52, 53]) := by decide
  have e4 := hA 4 (by decide) (by decide); have e6 := hA 6 (by decide) (by decide)
  have e8 := hA 8 (by decide) (by decide); have e9 := hA 9 (by decide) (by decide); have e10 := hA 10 (by decide) (by decide); have e11 := hA 11 (by decide) (by decide)
  have e12 := hA 12 (by decide) (by decide); have e13 := hA 13 (by decide) (by decide); have e14 := hA 14 (by decide) (by decide); have e15 := hA 15 (by decide) (by decide)
  have e19 := hA 19 (by decide) (by decide); have e30 := hA 30 (by decide) (by decide); have e36 := hA 36 (by decide) (by decide)
  have g1 := hF (7, 0) (by decide); have g2 := hF (39, 1) (by decide); have g3 := hF (2, 0) (by decide); have g4 := hF (39, 0) (by decide)
  have g5 := hF (37, 0) (by decide); have g6 := hF (39, 6) (by decide); have g7 := hF (20, 1) (by decide); have g8 := hF (39, 2) (by decide)
  have g9 := hF (28, 1) (by decide); have g10 := hF (39, 3) (by decide); have g11 := hF (28, 2) (by decide); have g12 := hF (39, 4) (by decide)
  have g13 := hF (35, 1) (by decide); have g14 := hF (39, 5) (by decide)
  dsimp only at g1 g2 g3 g4 g5 g6 g7 g8 g9 g10 g11 g12 g13 g14
  refine InvN.of hb (fun p hp => ?_) ?_ ⟨?_, ?_, ?_, ?_, ?_, ?_⟩ ?_ ?_
  · rcases key p hp with rfl | rfl | rfl | ⟨k1, k2⟩
    · exact a1.trans a2.symm
    · exact b1.trans b2.symm
    · exact c1.trans c2.symm
    · rw [hA _ (prs_rel p hp).1 k1, hA _ (prs_rel p hp).2 k2]; exact hE p hp
  · unfold SC; rw [g1, g2, g3, g4, g5, g6, g7, g8, g9, g10, g11, g12, g13, g14]; exact hS
  · intro j hj
    obtain ⟨x1, x2, x3, x4, x5, x6, x7, x8, -⟩ := hVS j hj
    rw [e8, e9, e10, e11, e12, e13, e14, e15, a1]
    exact ⟨x1, x2, x3, x4, x5, x6, x7, x8, h01 j hj⟩
  · intro j hj
    rw [e15, a1, hge j hj]
    exact hV0 j hj
  · unfold VC; rw [e4]; exact hVC
  · unfold VL; rw [e13, e19]; exact hVL
  · unfold VP; rw [e30]; exact hVP
  · intro c hc; rw [e6, cntS_cg e13 e19]; exact hVH c hc
  · unfold VN; rw [g9, g11]; exact hN
  · unfold VB; rw [e36, g13]; exact hB
theorem step_blow {sl : Nat} {xs : Nat → Int32} : Step sl xs 62 115 [] := by
  intro d h ⟨n, m, q, hi⟩
  have hn : n ≤ 24 := hi.1.1
  have hV : VS h n := hi.2.2.2.1
  have h01 : B01 (h 16) n := fun j hj => (hV j hj).2.2.2.2.2.2.2.2
  obtain ⟨h1, a1, a2⟩ := blow_c (sl := sl) (xs := xs) (d := d + 35) hn hV hi.n7 24 0 0 h (h 16) (h 17) (h 18) none (by omega) ⟨fun _ _ => rfl, rfl, rfl, rfl⟩ h01
  have ee : ∀ k, 25 < k → h1 k = h k := fun k hk => a2.1 k (by omega)
  obtain ⟨h2, b1, b2⟩ := blow_m (sl := sl) (xs := xs) (d := d + 37) (h := h) (g0 := h1) hn hV (by rw [ee 39 (by omega)]; exact hi.n39) (by rw [ee 43 (by omega)]; exact (hi.eq (by decide)).symm) (by rw [ee 44 (by omega)]; exact (hi.eq (by decide)).symm) (by rw [ee 46 (by omega)]; exact (hi.eq (by decide)).symm) (by rw [ee 47 (by omega)]; exact (hi.eq (by decide)).symm) (by rw [ee 48 (by omega)]; exact (hi.eq (by decide)).symm) (by rw [ee 49 (by omega)]; exact (hi.eq (by decide)).symm) (by rw [ee 50 (by omega)]; exact (hi.eq (by decide)).symm) 24 0 h1 (h 16) (h 17) (h 18) none (Nat.le_trans (alv_le _ _) hn) ⟨fun _ _ => rfl, by rw [ee 53 (by omega)]; exact (hi.eq (by decide)).symm, by rw [ee 51 (by omega)]; exact (hi.eq (by decide)).symm, by rw [ee 52 (by omega)]; exact (hi.eq (by decide)).symm⟩ h01
  obtain ⟨hx1, hx2⟩ := BLs_ok (h := h) (n := n) 24 (h 16) (h 17) (h 18) h01
  refine ⟨nI (0 + (BLs h n 24 (h 16) (h 17) (h 18)).1), h1, h2, ?_, ?_, n, m, q, ?_⟩
  · rw [qX7_blow_0, qX1_blowFuses_0, a1, pm_ri_ok]
  · rw [qX8_blow_0, b1]
  · have k1 : ∀ k ∈ relA, k ∉ [16, 17, 18, 51, 52, 53] → (k < 51 ∨ (53 < k ∧ k < 60) ∨ 62 < k) ∧ (k < 16 ∨ (18 < k ∧ k < 21) ∨ 25 < k) := by decide
    have k2 : ∀ p ∈ relF, (p.1 < 51 ∨ (53 < p.1 ∧ p.1 < 60) ∨ 62 < p.1) ∧ (p.1 < 16 ∨ (18 < p.1 ∧ p.1 < 21) ∨ 25 < p.1) := by decide
    refine hi.rows3 (fun k hk hk2 => ?_) (fun p hp => ?_) (dd := (BLs h n 24 (h 16) (h 17) (h 18)).2.1) (fi := (BLs h n 24 (h 16) (h 17) (h 18)).2.2.1) (la := (BLs h n 24 (h 16) (h 17) (h 18)).2.2.2) ?_ b2.2.1 ?_ b2.2.2.1 ?_ b2.2.2.2 hx1 hx2
    · rw [b2.1 k (k1 k hk hk2).1, a2.1 k (k1 k hk hk2).2]
    · rw [b2.1 p.1 (k2 p hp).1, a2.1 p.1 (k2 p hp).2]
    · rw [b2.1 16 (by omega)]; exact a2.2.1
    · rw [b2.1 17 (by omega)]; exact a2.2.2.1
    · rw [b2.1 18 (by omega)]; exact a2.2.2.2
