/-! lamps taken from crates; replace -/
def tk (f : Nat → Int32) : Nat → Nat → Nat
  | 0, i => i
  | k + 1, i => if f i = 0 then tk f k (i + 1) else i
theorem tk_spec {f : Nat → Int32} : ∀ (k i : Nat), (∃ j, i ≤ j ∧ j < i + k ∧ ¬ f j = 0) → i ≤ tk f k i ∧ tk f k i < i + k ∧ ¬ f (tk f k i) = 0
  | 0, i, ⟨j, h1, h2, _⟩ => absurd h2 (by omega)
  | k + 1, i, ⟨j, h1, h2, h3⟩ => by
    rw [tk]
    by_cases e : f i = 0
    · rw [if_pos e]
      have hj : j ≠ i := fun z => h3 (by rw [z]; exact e)
      obtain ⟨a, b, c⟩ := tk_spec k (i + 1) ⟨j, by omega, by omega, h3⟩
      exact ⟨by omega, by omega, c⟩
    · rw [if_neg e]
      exact ⟨Nat.le_refl _, by omega, e⟩
def VCf (f : Nat → Int32) (m : Nat) : Prop := ∀ j, j < m → ∃ k, k ≤ 1000 ∧ f j = nI k
def sN (f : Nat → Int32) : Nat → Nat
  | 0 => 0
  | k + 1 => sN f k + (f k).toNatClampNeg
theorem VCf.cl {f : Nat → Int32} {m j : Nat} (hV : VCf f m) (hj : j < m) : (f j).toNatClampNeg ≤ 1000 ∧ f j = nI (f j).toNatClampNeg := by
  obtain ⟨k, h1, h2⟩ := hV j hj
  rw [h2, nI_clamp (by omega)]
  exact ⟨h1, rfl⟩
theorem VCf.z {f : Nat → Int32} {m j : Nat} (hV : VCf f m) (hj : j < m) : f j ≤ 0 ↔ f j = 0 := by
  obtain ⟨k, h1, h2⟩ := hV j hj
  rw [h2, Int32.le_iff_toInt_le, ← Int32.toInt_inj, nI_toInt (by omega), Int32.toInt_zero]
  omega
theorem sumF_N {f : Nat → Int32} {m : Nat} (hV : VCf f m) : ∀ k, k ≤ m → sumF f k = nI (sN f k) ∧ sN f k ≤ 1000 * k
  | 0, _ => ⟨rfl, Nat.le_refl _⟩
  | k + 1, hk => by
    obtain ⟨a, b⟩ := sumF_N hV k (by omega)
    obtain ⟨c, e⟩ := hV.cl (show k < m by omega)
    rw [sumF, sN, a, ← nI_add, ← e]
    exact ⟨rfl, by omega⟩
theorem sN_pos {f : Nat → Int32} : ∀ k, 0 < sN f k → ∃ j, j < k ∧ ¬ f j = 0
  | 0, h => absurd h (Nat.lt_irrefl _)
  | k + 1, h => by
    by_cases e : f k = 0
    · rw [sN, e] at h
      obtain ⟨j, a, b⟩ := sN_pos (f := f) k (by simpa using h)
      exact ⟨j, by omega, b⟩
    · exact ⟨k, by omega, e⟩
theorem sN_ge {f : Nat → Int32} {c : Nat} {x : Int32} : ∀ k, k ≤ c → sN (upd f c x) k = sN f k
  | 0, _ => rfl
  | k + 1, h => by rw [sN, sN, sN_ge k (by omega), upd_n (by omega)]
theorem VCf.dec {f : Nat → Int32} {m c : Nat} (hV : VCf f m) (hc : c < m) (h0 : ¬ f c = 0) : VCf (upd f c (f c - nI 1)) m ∧ (f c - nI 1).toNatClampNeg + 1 = (f c).toNatClampNeg := by
  obtain ⟨k, h1, h2⟩ := hV c hc
  have hk : 1 ≤ k := by
    rcases Nat.eq_zero_or_pos k with e | e
    · subst e; exact absurd h2 h0
    · exact e
  refine ⟨fun j hj => ?_, ?_⟩
  · by_cases e : j = c
    · subst e
      rw [upd_s, h2, pk_sub hk]
      exact ⟨k - 1, by omega, rfl⟩
    · rw [upd_n e]; exact hV j hj
  · rw [h2, pk_sub hk, nI_clamp (by omega), nI_clamp (by omega)]
    omega
theorem sN_dec {f : Nat → Int32} {m c : Nat} (hV : VCf f m) (hc : c < m) (h0 : ¬ f c = 0) : ∀ k, c < k → k ≤ m → sN (upd f c (f c - nI 1)) k + 1 = sN f k
  | 0, h, _ => absurd h (Nat.not_lt_zero _)
  | k + 1, h, hk => by
    have hd := (hV.dec hc h0).2
    rw [sN, sN]
    by_cases e : k = c
    · subst e
      rw [sN_ge k (Nat.le_refl _), upd_s]
      omega
    · have := sN_dec hV hc h0 k (by omega) (by omega)
      rw [upd_n e]
      omega
section TAKE
variable {sl : Nat} {xs : Nat → Int32}
theorem take_c {d : Nat} {h : pmH} {m : Nat} (hm : m ≤ 12) (e2 : h 2 0 = nI m) (hV : VCf (h 4) m) : ∀ (k i : Nat), i + k = m → (∃ j, i ≤ j ∧ j < i + k ∧ ¬ h 4 j = 0) → pm_Ev sl xs d 16 2 [some (.ref 3), some (.int (nI i))] [] (SH, h) = some (some (.int (nI (tk (h 4) k i))), (SH, pm_up (pm_up h 4 (tk (h 4) k i) (h 4 (tk (h 4) k i) - nI 1)) 6 (tk (h 4) k i) (h 6 (tk (h 4) k i) + nI 1)))
  | 0, i, hk, ⟨j, h1, h2, _⟩ => absurd h2 (by omega)
  | k + 1, i, hk, ⟨j, h1, h2, h3⟩ => by
    have ix : ∀ (t : Nat → Option pmR), pm_ix none (nI i) 12 t = t i := fun t => pm_ix_nI (by omega) (by decide)
    have hz := hV.z (show i < m by omega)
    rw [qX2_take_2, e2, if_neg (nI_ge (by omega) (by omega)), ix, tk]
    by_cases e : h 4 i = 0
    · rw [if_pos (hz.mpr e), if_pos e, nI_add]
      have hj : j ≠ i := fun z => h3 (by rw [z]; exact e)
      exact take_c hm e2 hV k (i + 1) (by omega) ⟨j, by omega, by omega, h3⟩
    · rw [if_neg (fun z => e (hz.mp z)), if_neg e, ix, ix, ix, ix]
theorem take_m {d : Nat} {h : pmH} {m : Nat} (hm : m ≤ 12) : ∀ (k i : Nat), i + k = m → (∃ j, i ≤ j ∧ j < i + k ∧ ¬ h 41 j = 0) → pm_Ev sl xs d 101 2 [some (.ref 40), some (.int (nI i))] [] (SH, h) = some (some (.int (nI (tk (h 41) k i))), (SH, pm_up h 41 (tk (h 41) k i) (h 41 (tk (h 41) k i) - nI 1)))
  | 0, i, hk, ⟨j, h1, h2, _⟩ => absurd h2 (by omega)
  | k + 1, i, hk, ⟨j, h1, h2, h3⟩ => by
    have ix : ∀ (t : Nat → Option pmR), pm_ix none (nI i) 12 t = t i := fun t => pm_ix_nI (by omega) (by decide)
    rw [qX8_taken_2, ix, tk]
    by_cases e : h 41 i = 0
    · rw [if_pos e, if_pos e, nI_add]
      have hj : j ≠ i := fun z => h3 (by rw [z]; exact e)
      exact take_m hm k (i + 1) (by omega) ⟨j, by omega, by omega, h3⟩
    · rw [if_neg e, if_neg e, ix, ix]
/-- the crate that is next -/
def tkN (f : Nat → Int32) (m : Nat) : Nat := tk f m 0
theorem tkN_ok {f : Nat → Int32} {m : Nat} (h : 0 < sN f m) : tkN f m < m ∧ ¬ f (tkN f m) = 0 := by
  obtain ⟨j, a, b⟩ := sN_pos m h
  obtain ⟨-, c, e⟩ := tk_spec (f := f) m 0 ⟨j, by omega, by omega, b⟩
  exact ⟨by unfold tkN; omega, e⟩
theorem c_take {d : Nat} {h : pmH} {m : Nat} (hm : m ≤ 12) (e2 : h 2 0 = nI m) (hV : VCf (h 4) m) (hp : 0 < sN (h 4) m) : pm_cf (pm_Ev sl xs) (d + 1) 16 [.ref 3] (SH, h) = some (some (.int (nI (tkN (h 4) m))), (SH, pm_up (pm_up h 4 (tkN (h 4) m) (h 4 (tkN (h 4) m) - nI 1)) 6 (tkN (h 4) m) (h 6 (tkN (h 4) m) + nI 1))) := by
  obtain ⟨j, a, b⟩ := sN_pos m hp
  rw [qX2_take_0]; exact take_c hm e2 hV m 0 (by omega) ⟨j, by omega, by omega, b⟩
theorem m_taken {d : Nat} {h : pmH} {m : Nat} {f : Nat → Int32} (hm : m ≤ 12) (e : h 41 = f) (hp : 0 < sN f m) : pm_cf (pm_Ev sl xs) (d + 1) 101 [.ref 40] (SH, h) = some (some (.int (nI (tkN f m))), (SH, pm_up h 41 (tkN f m) (f (tkN f m) - nI 1))) := by
  subst e
  obtain ⟨j, a, b⟩ := sN_pos m hp
  rw [qX8_taken_0]; exact take_m hm m 0 (by omega) ⟨j, by omega, by omega, b⟩
end TAKE
/-- one lamp's crate is another: the counts -/
theorem cntP_set {h h2 : pmH} {s c p x y : Nat} (e13 : h2 13 = h 13) (hx : x < 12) (hy : y < 12) (hc : c < 12) (hold : h 19 (60 * s + p) = nI x) (hnew : h2 19 = upd (h 19) (60 * s + p) (nI y)) (hp : nI p < h 13 s) : ∀ k, (k ≤ p → cntP h2 s c k = cntP h s c k) ∧ (p < k → cntP h2 s c k + (if x = c then 1 else 0) = cntP h s c k + (if y = c then 1 else 0))
  | 0 => ⟨fun _ => rfl, fun h => absurd h (Nat.not_lt_zero _)⟩
  | k + 1 => by
    obtain ⟨a, b⟩ := cntP_set e13 hx hy hc hold hnew hp k
    refine ⟨fun hk => ?_, fun hk => ?_⟩
    · rw [cntP, cntP, a (by omega), e13, hnew, upd_n (by omega)]
    · rw [cntP, cntP, e13, hnew]
      by_cases e : k = p
      · subst e
        have h1 : (nI y = nI c) = (y = c) := propext (nI_eq (by omega) (by omega))
        have h2 : (nI x = nI c) = (x = c) := propext (nI_eq (by omega) (by omega))
        rw [a (Nat.le_refl _), upd_s, hold, if_pos hp, if_pos hp]
        simp only [h1, h2]
        omega
      · have := b (by omega)
        rw [upd_n (by omega)]
        omega
theorem cntP_off {h h2 : pmH} {s s2 c p y : Nat} (e13 : h2 13 = h 13) (hp : p < 60) (hs : s2 ≠ s) (hnew : h2 19 = upd (h 19) (60 * s + p) (nI y)) : ∀ k, k ≤ 60 → cntP h2 s2 c k = cntP h s2 c k
  | 0, _ => rfl
  | k + 1, hk => by rw [cntP, cntP, cntP_off e13 hp hs hnew k (by omega), e13, hnew, upd_n (by omega)]
theorem cntS_set {h h2 : pmH} {s c p x y : Nat} (e13 : h2 13 = h 13) (hx : x < 12) (hy : y < 12) (hc : c < 12) (hp : p < 60) (hold : h 19 (60 * s + p) = nI x) (hnew : h2 19 = upd (h 19) (60 * s + p) (nI y)) (hl : nI p < h 13 s) : ∀ k, (k ≤ s → cntS h2 c k = cntS h c k) ∧ (s < k → cntS h2 c k + (if x = c then 1 else 0) = cntS h c k + (if y = c then 1 else 0))
  | 0 => ⟨fun _ => rfl, fun h => absurd h (Nat.not_lt_zero _)⟩
  | k + 1 => by
    obtain ⟨a, b⟩ := cntS_set e13 hx hy hc hp hold hnew hl k
    refine ⟨fun hk => ?_, fun hk => ?_⟩
    · rw [cntS, cntS, a (by omega), cntP_off e13 hp (by omega) hnew 60 (Nat.le_refl _)]
    · rw [cntS, cntS]
      by_cases e : k = s
      · subst e
        have := (cntP_set (c := c) e13 hx hy hc hold hnew hl 60).2 hp
        rw [a (Nat.le_refl _)]
        omega
      · have := b (by omega)
        rw [cntP_off e13 hp e hnew 60 (Nat.le_refl _)]
        omega
theorem InvN.lamps {h h2 : pmH} {n m q : Nat} (hi : InvN h n m q) (hA : ∀ k ∈ relA, k ∉ [4, 41, 5, 42, 6, 19, 54] → h2 k = h k) (hF : ∀ p ∈ relF, h2 p.1 p.2 = h p.1 p.2) (a1 : h2 4 = h2 41) (a2 : h2 5 = h2 42) (a3 : h2 19 = h2 54) (hC : VC h2 m) (hL : VL h2 n m) (hH : VH h2 n m) : InvN h2 n m q := by
  obtain ⟨hb, hE, hS, ⟨hVS, hV0, hVC, hVL, hVP, hVH⟩, hN, hB⟩ := hi.to
  have key : ∀ p ∈ prs, p = (4, 41) ∨ p = (5, 42) ∨ p = (19, 54) ∨ (p.1 ∉ [4, 41, 5, 42, 6, 19, 54] ∧ p.2 ∉ [4, 41, 5, 42, 6, 19, 54]) := by decide
  have e8 := hA 8 (by decide) (by decide); have e9 := hA 9 (by decide) (by decide); have e10 := hA 10 (by decide) (by decide); have e11 := hA 11 (by decide) (by decide)
  have e12 := hA 12 (by decide) (by decide); have e13 := hA 13 (by decide) (by decide); have e14 := hA 14 (by decide) (by decide); have e15 := hA 15 (by decide) (by decide)
  have e16 := hA 16 (by decide) (by decide); have e30 := hA 30 (by decide) (by decide); have e36 := hA 36 (by decide) (by decide)
  have g1 := hF (7, 0) (by decide); have g2 := hF (39, 1) (by decide); have g3 := hF (2, 0) (by decide); have g4 := hF (39, 0) (by decide)
  have g5 := hF (37, 0) (by decide); have g6 := hF (39, 6) (by decide); have g7 := hF (20, 1) (by decide); have g8 := hF (39, 2) (by decide)
  have g9 := hF (28, 1) (by decide); have g10 := hF (39, 3) (by decide); have g11 := hF (28, 2) (by decide); have g12 := hF (39, 4) (by decide)
  have g13 := hF (35, 1) (by decide); have g14 := hF (39, 5) (by decide)
  dsimp only at g1 g2 g3 g4 g5 g6 g7 g8 g9 g10 g11 g12 g13 g14
  refine InvN.of hb (fun p hp => ?_) ?_ ⟨?_, ?_, hC, hL, ?_, hH⟩ ?_ ?_
  · rcases key p hp with rfl | rfl | rfl | ⟨k1, k2⟩
    · exact a1
    · exact a2
    · exact a3
    · rw [hA _ (prs_rel p hp).1 k1, hA _ (prs_rel p hp).2 k2]; exact hE p hp
  · unfold SC; rw [g1, g2, g3, g4, g5, g6, g7, g8, g9, g10, g11, g12, g13, g14]; exact hS
  · unfold VS; rw [e8, e9, e10, e11, e12, e13, e14, e15, e16]; exact hVS
  · unfold V0; rw [e15, e16]; exact hV0
  · unfold VP; rw [e30]; exact hVP
  · unfold VN; rw [g9, g11]; exact hN
  · unfold VB; rw [e36, g13]; exact hB
theorem step_replace {sl : Nat} {xs : Nat → Int32} {a c : Int32} : Step sl xs 79 143 [.int a, .int c] := by
  intro d h ⟨n, m, q, hi⟩
  have hn : n ≤ 24 := hi.1.1
  have hm : m ≤ 12 := hi.1.2.1
  have n7 := hi.n7
  have m2 : h 2 0 = nI m := hi.2.2.1.2.1.1
  have m39 : h 39 0 = nI m := hi.2.2.1.2.1.2
  have e13 : h 48 = h 13 := (hi.eq (by decide)).symm
  have e4 : h 41 = h 4 := (hi.eq (by decide)).symm
  have e5 : h 42 = h 5 := (hi.eq (by decide)).symm
  have e19 : h 54 = h 19 := (hi.eq (by decide)).symm
  have hV : VS h n := hi.2.2.2.1
  have hC : VCf (h 4) m := hi.2.2.2.2.2.1
  have hL : VL h n m := hi.2.2.2.2.2.2.1
  have hH : VH h n m := hi.2.2.2.2.2.2.2.2.1
  obtain ⟨hs1, hs2⟩ := sumF_N hC m (Nat.le_refl _)
  cases hr : inL h a c n with
  | false =>
    refine ⟨-1000000001, pm_up h 1 1 (h 1 1 + nI 1), _, ?_, ?_, n, m, q, hi.fnd 1⟩
    · rw [qX7_replace_0, c_hasLamp hn n7, pm_ri_ok, hr, bI_f, c_find (k := 1) (by decide) f_1, pm_ri_ok]
    · have hr' : inL (pm_up h 1 1 (h 1 1 + nI 1)) a c n = false := by
        unfold inL at hr ⊢
        rw [pm_up_ne (by decide)]
        exact hr
      have hV' : VS (pm_up h 1 1 (h 1 1 + nI 1)) n := (VA.up (k := 1) (j := 1) (x := h 1 1 + nI 1) hi.to.2.2.2.1 (by decide)).1
      rw [qX8_replace_0, c_isLamp hn (by rw [pm_up_ne (by decide)]; exact hi.n39) (by rw [pm_up_ne (by decide), pm_up_ne (by decide)]; exact e13) hV', pm_ri_ok, hr', bI_f, c_finds (by decide), pm_ri_ok, g_1]
  | true =>
    by_cases h0 : sN (h 4) m = 0
    · have hz : sumF (h 4) m = 0 := by rw [hs1, h0]; rfl
      refine ⟨-1000000003, pm_up h 1 3 (h 1 3 + nI 1), _, ?_, ?_, n, m, q, hi.fnd 3⟩
      · rw [qX7_replace_0, c_hasLamp hn n7, pm_ri_ok, hr, bI_t, c_allLeft hm m2, pm_ri_ok, if_pos hz, c_find (k := 3) (by decide) f_3, pm_ri_ok]
      · have hr' : inL (pm_up h 1 3 (h 1 3 + nI 1)) a c n = true := by
          unfold inL at hr ⊢
          rw [pm_up_ne (by decide)]
          exact hr
        have hV' : VS (pm_up h 1 3 (h 1 3 + nI 1)) n := (VA.up (k := 1) (j := 3) (x := h 1 3 + nI 1) hi.to.2.2.2.1 (by decide)).1
        rw [qX8_replace_0, c_isLamp hn (by rw [pm_up_ne (by decide)]; exact hi.n39) (by rw [pm_up_ne (by decide), pm_up_ne (by decide)]; exact e13) hV', pm_ri_ok, hr', bI_t, c_lampsLeft hm (by rw [pm_up_ne (by decide)]; exact m39), pm_ri_ok, pm_up_ne (a := 41) (by decide), e4, if_pos hz, c_finds (by decide), pm_ri_ok, g_3]
    · have hp0 : 0 < sN (h 4) m := by omega
      have hz : ¬ sumF (h 4) m = 0 := by rw [hs1]; exact nI_ne0 hp0 (by omega)
      obtain ⟨s, p, hs, hp, rfl, rfl, hpl⟩ := inL_nat hn hV hr
      obtain ⟨c1, hc1, hold⟩ := hL s p hs hp hpl
      obtain ⟨t1, t2⟩ := tkN_ok hp0
      have ixx : ∀ (t : Nat → Option pmR), pm_ix none (nI (60 * s + p)) 1440 t = t (60 * s + p) := fun t => pm_ix_nI (by omega) (by decide)
      have ix1 : ∀ (t : Nat → Option pmR), pm_ix none (nI c1) 12 t = t c1 := fun t => pm_ix_nI (by omega) (by decide)
      generalize hc0 : tkN (h 4) m = c0 at t1 t2
      generalize hx : 60 * s + p = x at ixx
      have hold : h 19 x = nI c1 := by rw [← hx]; exact hold
      obtain ⟨g1, hg1⟩ : ∃ g, g = pm_up (pm_up h 4 c0 (h 4 c0 - nI 1)) 6 c0 (h 6 c0 + nI 1) := ⟨_, rfl⟩
      obtain ⟨g2, hg2⟩ : ∃ g, g = pm_up (pm_up (pm_up g1 6 c1 (g1 6 c1 - nI 1)) 5 c1 (g1 5 c1 + nI 1)) 19 x (nI c0) := ⟨_, rfl⟩
      have k2 : ∀ k, k ≠ 4 → k ≠ 5 → k ≠ 6 → k ≠ 19 → g2 k = h k := fun k k1 k3 k4 k5 => by
        rw [hg2, pm_up_ne k5, pm_up_ne k3, pm_up_ne k4, hg1, pm_up_ne k4, pm_up_ne k1]
      obtain ⟨g3, hg3⟩ : ∃ g, g = pm_up (pm_up (pm_up g2 42 c1 (h 5 c1 + nI 1)) 41 c0 (h 4 c0 - nI 1)) 54 x (nI c0) := ⟨_, rfl⟩
      have k3 : ∀ k, k ≠ 41 → k ≠ 42 → k ≠ 54 → g3 k = g2 k := fun k k1 k2 k4 => by
        rw [hg3, pm_up_ne k4, pm_up_ne k1, pm_up_ne k2]
      have r4 : g3 4 = upd (h 4) c0 (h 4 c0 - nI 1) := by rw [k3 4 (by decide) (by decide) (by decide), hg2, pm_up_ne (by decide), pm_up_ne (by decide), pm_up_ne (by decide), hg1, pm_up_ne (by decide), pm_up_same]
      have r41 : g3 41 = upd (h 4) c0 (h 4 c0 - nI 1) := by rw [hg3, pm_up_ne (by decide), pm_up_same, pm_up_ne (by decide), k2 41 (by decide) (by decide) (by decide) (by decide), e4]
      have r5 : g3 5 = upd (h 5) c1 (h 5 c1 + nI 1) := by rw [k3 5 (by decide) (by decide) (by decide), hg2, pm_up_ne (by decide), pm_up_same, pm_up_ne (by decide), hg1, pm_up_ne (by decide), pm_up_ne (by decide)]
      have r42 : g3 42 = upd (h 5) c1 (h 5 c1 + nI 1) := by rw [hg3, pm_up_ne (by decide), pm_up_ne (by decide), pm_up_same, k2 42 (by decide) (by decide) (by decide) (by decide), e5]
      have r6 : g3 6 = upd (upd (h 6) c0 (h 6 c0 + nI 1)) c1 (upd (h 6) c0 (h 6 c0 + nI 1) c1 - nI 1) := by rw [k3 6 (by decide) (by decide) (by decide), hg2, pm_up_ne (by decide), pm_up_ne (by decide), pm_up_same, hg1, pm_up_same, pm_up_ne (by decide)]
      have r19 : g3 19 = upd (h 19) x (nI c0) := by rw [k3 19 (by decide) (by decide) (by decide), hg2, pm_up_same, pm_up_ne (by decide), pm_up_ne (by decide), hg1, pm_up_ne (by decide), pm_up_ne (by decide)]
      have r54 : g3 54 = upd (h 19) x (nI c0) := by rw [hg3, pm_up_same, pm_up_ne (by decide), pm_up_ne (by decide), k2 54 (by decide) (by decide) (by decide) (by decide), e19]
      have r13 : g3 13 = h 13 := by rw [k3 13 (by decide) (by decide) (by decide), k2 13 (by decide) (by decide) (by decide) (by decide)]
      refine ⟨nI c0, g2, g3, ?_, ?_, n, m, q, ?_⟩
      · have y19 : g1 19 x = nI c1 := by rw [hg1, pm_up_ne (by decide), pm_up_ne (by decide)]; exact hold
        have y2 : g1 2 0 = nI m := by rw [hg1, pm_up_ne (by decide), pm_up_ne (by decide)]; exact m2
        rw [qX7_replace_0, c_hasLamp hn n7, pm_ri_ok, hr, bI_t, c_allLeft hm m2, pm_ri_ok, if_neg hz, c_take hm m2 hC hp0, pm_ri_ok, hc0, ← hg1, qX5_crateOf_0, pk_mul, nI_add, Nat.mul_comm s 60, hx, ixx, y19, pm_ri_ok, qX2_spoil_0, c_hasC y2, pm_ri_ok, inS_of (by omega) (by omega), bI_t, ix1, ix1, ix1, ix1, pm_rv_ok, qX5_setCrateOf_0, pk_mul, nI_add, Nat.mul_comm s 60, hx, ixx, pm_rv_ok, ← hg2]
      · have hr' : inL g2 (nI s) (nI p) n = true := by
          unfold inL at hr ⊢
          rw [k2 13 (by decide) (by decide) (by decide) (by decide)]
          exact hr
        have hV' : VS g2 n := by
          unfold VS
          rw [k2 8 (by decide) (by decide) (by decide) (by decide), k2 9 (by decide) (by decide) (by decide) (by decide), k2 10 (by decide) (by decide) (by decide) (by decide), k2 11 (by decide) (by decide) (by decide) (by decide), k2 12 (by decide) (by decide) (by decide) (by decide), k2 13 (by decide) (by decide) (by decide) (by decide), k2 14 (by decide) (by decide) (by decide) (by decide), k2 15 (by decide) (by decide) (by decide) (by decide), k2 16 (by decide) (by decide) (by decide) (by decide)]
          exact hV
        have y41 : g2 41 = h 4 := by rw [k2 41 (by decide) (by decide) (by decide) (by decide), e4]
        have y54 : g2 54 = h 19 := by rw [k2 54 (by decide) (by decide) (by decide) (by decide), e19]
        have y42 : g2 42 = h 5 := by rw [k2 42 (by decide) (by decide) (by decide) (by decide), e5]
        rw [qX8_replace_0, c_isLamp hn (by rw [k2 39 (by decide) (by decide) (by decide) (by decide)]; exact hi.n39) (by rw [k2 48 (by decide) (by decide) (by decide) (by decide), k2 13 (by decide) (by decide) (by decide) (by decide)]; exact e13) hV', pm_ri_ok, hr', bI_t, c_lampsLeft hm (by rw [k2 39 (by decide) (by decide) (by decide) (by decide)]; exact m39), pm_ri_ok, y41, if_neg hz, pk_mul, nI_add, hx, ixx, y54, hold, ix1, ix1, m_taken (f := h 4) hm (by rw [pm_up_ne (by decide)]; exact y41) hp0, pm_ri_ok, hc0, ixx, ixx, y42, upd_s, ← hg3]
      · refine hi.lamps (fun k _ hk => ?_) (fun p hp => ?_) (r4.trans r41.symm) (r5.trans r42.symm) (r19.trans r54.symm) ?_ ?_ ?_
        · simp at hk
          rw [k3 k (by omega) (by omega) (by omega), k2 k (by omega) (by omega) (by omega) (by omega)]
        · have k9 : ∀ p ∈ relF, p.1 ≠ 41 ∧ p.1 ≠ 42 ∧ p.1 ≠ 54 ∧ p.1 ≠ 4 ∧ p.1 ≠ 5 ∧ p.1 ≠ 6 ∧ p.1 ≠ 19 := by decide
          obtain ⟨b1, b2, b3, b4, b5, b6, b7⟩ := k9 p hp
          rw [k3 p.1 b1 b2 b3, k2 p.1 b4 b5 b6 b7]
        · unfold VC; rw [r4]; exact (hC.dec t1 t2).1
        · intro s2 p2 h1 h2 h3
          rw [r13] at h3
          rw [r19]
          by_cases e : 60 * s2 + p2 = x
          · rw [e, upd_s]; exact ⟨c0, t1, rfl⟩
          · rw [upd_n e]; exact hL s2 p2 h1 h2 h3
        · intro cc hcc
          have hk := (cntS_set (h := h) (h2 := g3) (s := s) (c := cc) (p := p) (x := c1) (y := c0) r13 (by omega) (by omega) hcc hp (by rw [hx]; exact hold) (by rw [hx]; exact r19) hpl n).2 hs
          rw [r6]
          have ho := hH cc hcc
          by_cases a1 : c1 = cc
          · subst a1
            rw [upd_s]
            by_cases a2 : c0 = c1
            · subst a2
              rw [upd_s, ho, nI_add, pk_sub (by omega)]
              rw [if_pos rfl] at hk
              congr 1
              omega
            · rw [upd_n (fun z => a2 z.symm), ho]
              rw [if_pos rfl, if_neg a2] at hk
              rw [pk_sub (by omega)]
              congr 1
              omega
          · rw [upd_n (fun z => a1 z.symm)]
            by_cases a2 : c0 = cc
            · subst a2
              rw [upd_s, ho, nI_add]
              rw [if_neg a1, if_pos rfl] at hk
              congr 1
              omega
            · rw [upd_n (fun z => a2 z.symm), ho]
              rw [if_neg a1, if_neg a2] at hk
              congr 1
              omega
