/-! fuses, check -/
theorem dnS_bd {up : Nat → Int32} {n T : Nat} (hn : n ≤ 24) (hU : UPok up n) : ∀ (i : Nat) (N : Nat → Nat) (w : Nat → Int32), i ≤ n → (∀ j, j < n → w j = nI (N j)) → sm N i ≤ T → (∀ j, i ≤ j → j < n → N j ≤ T) → ∃ N2 : Nat → Nat, (∀ j, j < n → dnS up i w j = nI (N2 j)) ∧ ∀ j, j < n → N2 j ≤ T
  | 0, N, w, _, hw, _, hT => ⟨N, hw, fun j hj => hT j (Nat.zero_le _) hj⟩
  | i + 1, N, w, hi, hw, hs, hT => by
    have hs' : sm N i + N i ≤ T := hs
    rw [dnS]
    by_cases hu : up i < 0
    · rw [if_pos hu]
      refine dnS_bd hn hU i N w (by omega) hw (by omega) (fun j j1 j2 => ?_)
      by_cases e : j = i
      · subst e; omega
      · exact hT j (by omega) j2
    · obtain ⟨h1, -⟩ := hU.lt hn (show i < n by omega) hu
      rw [if_neg hu]
      refine dnS_bd hn hU i (fun j => N j + (if j = upI up i then N i else 0)) _ (by omega) (fun j hj => ?_) ?_ (fun j j1 j2 => ?_)
      · by_cases e : j = upI up i
        · subst e
          rw [upd_s, hw _ (by omega), hw i (by omega), nI_add, if_pos rfl]
        · rw [upd_n e, hw j hj, if_neg e]; rfl
      · rw [sm_add, sm_one i h1]; exact hs'
      · show N j + (if j = upI up i then N i else 0) ≤ T
        rw [if_neg (by omega)]
        by_cases e : j = i
        · subst e; omega
        · exact hT j (by omega) j2
theorem WV_bd {h : pmH} {n j : Nat} (hn : n ≤ 24) (hV : VS h n) (hj : j < n) : ∃ k, k ≤ 60000 ∧ WV h n j = nI k := by
  have hw : ∀ j, j < n → ldS h j = nI (ldS h j).toNatClampNeg ∧ (ldS h j).toNatClampNeg ≤ 2400 := fun j hj => by
    obtain ⟨k, -, k2, k3, -⟩ := hV.load hj
    rw [k3, nI_clamp (by omega)]
    exact ⟨rfl, k2⟩
  have hs : ∀ i, i ≤ n → sm (fun j => (ldS h j).toNatClampNeg) i ≤ 2400 * i := fun i => by
    induction i with
    | zero => intro _; exact Nat.zero_le _
    | succ i ih =>
      intro hi
      have := ih (by omega)
      have := (hw i (by omega)).2
      rw [sm]
      omega
  obtain ⟨N2, n1, n2⟩ := dnS_bd (T := 60000) hn hV.up n (fun j => (ldS h j).toNatClampNeg) (ldS h) (Nat.le_refl _) (fun j hj => (hw j hj).1) (by have := hs n (Nat.le_refl _); omega) (fun j j1 j2 => by omega)
  exact ⟨N2 j, n2 j hj, n1 j hj⟩
def fzRow (S : Nat → Bool) (w f0 : Nat → Int32) (i : Nat) : Nat → Int32 := fun j => if j < i then (if S j = true then w j else nI 0) else f0 j
theorem fzRow_up {S : Nat → Bool} {w f0 : Nat → Int32} {i : Nat} {x : Int32} (hx : x = if S i = true then w i else nI 0) : upd (fzRow S w f0 i) i x = fzRow S w f0 (i + 1) := by
  funext j
  unfold fzRow upd
  by_cases e : j = i
  · subst e; rw [if_pos rfl, if_pos (Nat.lt_succ_self _), hx]
  · rw [if_neg e]
    show (if j < i then (if S j = true then w j else nI 0) else f0 j) = _
    by_cases e2 : j < i
    · rw [if_pos e2, if_pos (show j < i + 1 by omega)]
    · rw [if_neg e2, if_neg (show ¬ j < i + 1 by omega)]
theorem fzRow_0 {S : Nat → Bool} {w f0 : Nat → Int32} : fzRow S w f0 0 = f0 := by
  funext j
  unfold fzRow
  rw [if_neg (Nat.not_lt_zero _)]
theorem fzRow_w {S : Nat → Bool} {w f0 : Nat → Int32} {n j : Nat} (hj : j < n) : fzRow S w f0 n j = if S j = true then w j else nI 0 := if_pos hj
theorem hb_Sn {S : Nat → Bool} {n i : Nat} (hn : n ≤ 24) (hS : ∀ p, n ≤ p → S p = false) (hi : i < 24) : hb (nI (btS S n)) (nI i) = S i := by
  obtain ⟨e1, -⟩ := btS_ext hS (24 - n)
  rw [show n + (24 - n) = 24 by omega] at e1
  rw [← e1]; exact hb_S hi
section FUSES
variable {sl : Nat} {xs : Nat → Int32}
theorem put_c {d : Nat} {g : pmH} {n : Nat} {S : Nat → Bool} {w f0 : Nat → Int32} (hn : n ≤ 24) (hS : ∀ p, n ≤ p → S p = false) (n7 : g 7 0 = nI n) (e26 : g 26 3 = nI (16777216 * cnS S n + btS S n)) (e23 : ∀ j, j < n → g 23 j = w j) : ∀ (k i : Nat), i + k = n → pm_Ev sl xs (d + 1) 26 2 [some (.ref 27), some (.int (nI i))] [] (SH, pm_pt g 15 (fzRow S w f0 i)) = some (none, (SH, pm_pt g 15 (fzRow S w f0 n)))
  | 0, i, hk => by
    have e : i = n := by omega
    subst e
    rw [qX3_putFuses_2, pt_ne (a := 7) (by decide), n7, if_pos (nI_le (Nat.le_refl _) (by omega))]
  | k + 1, i, hk => by
    obtain ⟨l1, l2⟩ := cst_lt (S := S) hn
    have ix : ∀ (t : Nat → Option pmR), pm_ix none (nI i) 24 t = t i := fun t => pm_ix_nI (by omega) (by decide)
    rw [qX3_putFuses_2, pt_ne (a := 7) (by decide), n7, if_neg (nI_ge (by omega) (by omega)), qX3_asBits_0, pm_ri_ok, pt_ne (a := 26) (by decide), e26, cst_bits l1 l2, c_hasBit, pm_ri_ok, bI_if, hb_Sn hn hS (by omega), nI_add]
    cases z : S i with
    | true =>
      rw [if_pos rfl, ix, ix, pt_up, pt_ne (a := 23) (by decide), e23 i (by omega), fzRow_up (by rw [z, if_pos rfl])]
      exact put_c hn hS n7 e26 e23 k (i + 1) (by omega)
    | false =>
      rw [if_neg (by decide), ix, pt_up, fzRow_up (by rw [z, if_neg (by decide)])]
      exact put_c hn hS n7 e26 e23 k (i + 1) (by omega)
theorem put_m {d : Nat} {g : pmH} {n : Nat} {S : Nat → Bool} {w f0 : Nat → Int32} (hn : n ≤ 24) (hS : ∀ p, n ≤ p → S p = false) (n39 : g 39 1 = nI n) (e61 : ∀ j, j < n → g 61 j = w j) : ∀ (k i : Nat), i + k = n → pm_Ev sl xs (d + 1) 122 17 [some (.ref 40), some (.int (nI (btS S n))), some (.int (nI i))] [] (SH, pm_pt g 50 (fzRow S w f0 i)) = some (some (.int (nI (cnS S n))), (SH, pm_pt g 50 (fzRow S w f0 n)))
  | 0, i, hk => by
    have e : i = n := by omega
    subst e
    rw [qX8_fuses_17, pt_ne (a := 39) (by decide), n39, if_pos (nI_le (Nat.le_refl _) (by omega)), m_ones hn hS, pm_ri_ok]
  | k + 1, i, hk => by
    have ix : ∀ (t : Nat → Option pmR), pm_ix none (nI i) 24 t = t i := fun t => pm_ix_nI (by omega) (by decide)
    rw [qX8_fuses_17, pt_ne (a := 39) (by decide), n39, if_neg (nI_ge (by omega) (by omega)), c_hasM, pm_ri_ok, bI_if, hb_Sn hn hS (by omega), nI_add]
    cases z : S i with
    | true =>
      rw [if_pos rfl, ix, ix, pt_up, pt_ne (a := 61) (by decide), e61 i (by omega), fzRow_up (by rw [z, if_pos rfl])]
      exact put_m hn hS n39 e61 k (i + 1) (by omega)
    | false =>
      rw [if_neg (by decide), ix, pt_up, fzRow_up (by rw [z, if_neg (by decide)])]
      exact put_m hn hS n39 e61 k (i + 1) (by omega)
end FUSES
/-- other fuses on both sides -/
theorem InvN.row15 {h h2 : pmH} {n m q : Nat} {f : Nat → Int32} (hi : InvN h n m q) (hA : ∀ k ∈ relA, k ∉ [15, 50] → h2 k = h k) (hF : ∀ p ∈ relF, h2 p.1 p.2 = h p.1 p.2) (a1 : h2 15 = f) (a2 : h2 50 = f) (hf : ∀ j, j < n → ∃ k, k ≤ 60000 ∧ f j = nI k) (hf2 : ∀ j, n ≤ j → f j = 0) : InvN h2 n m q := by
  have hi2 : InvN (pm_pt (pm_pt h2 15 (h 15)) 50 (h 50)) n m q := by
    refine hi.frame ⟨fun k hk => ?_, fun p hp => ?_⟩
    · by_cases c1 : k = 50
      · subst c1; exact pt_same _ _ _
      · rw [pt_ne c1]
        by_cases c2 : k = 15
        · subst c2; exact pt_same _ _ _
        · rw [pt_ne c2]
          exact hA k hk (by simp [c1, c2])
    · have k2 : ∀ p ∈ relF, p.1 ≠ 15 ∧ p.1 ≠ 50 := by decide
      rw [pt_ne (k2 p hp).2, pt_ne (k2 p hp).1]
      exact hF p hp
  obtain ⟨hb, hE, hS, ⟨hVS, hV0, hVC, hVL, hVP, hVH⟩, hN, hB⟩ := hi2.to
  have ne : ∀ k, k ≠ 15 → k ≠ 50 → (pm_pt (pm_pt h2 15 (h 15)) 50 (h 50)) k = h2 k := fun k k1 k2 => by rw [pt_ne k2, pt_ne k1]
  have key : ∀ p ∈ prs, p = (15, 50) ∨ (p.1 ≠ 15 ∧ p.1 ≠ 50 ∧ p.2 ≠ 15 ∧ p.2 ≠ 50) := by decide
  refine InvN.of hb (fun p hp => ?_) ?_ ⟨?_, ?_, ?_, ?_, ?_, ?_⟩ ?_ ?_
  · rcases key p hp with rfl | ⟨k1, k2, k3, k4⟩
    · exact a1.trans a2.symm
    · have := hE p hp
      rw [ne _ k1 k2, ne _ k3 k4] at this
      exact this
  · exact hS
  · intro j hj
    obtain ⟨x1, x2, x3, x4, x5, x6, x7, -, x9⟩ := hVS j hj
    rw [a1]
    exact ⟨x1, x2, x3, x4, x5, x6, x7, hf j hj, x9⟩
  · intro j hj
    rw [a1]
    exact ⟨hf2 j hj, (hV0 j hj).2⟩
  · exact hVC
  · exact hVL
  · exact hVP
  · intro c hc
    have := hVH c hc
    rw [cntS_cg (h := h2) (ne 13 (by decide) (by decide)) (ne 19 (by decide) (by decide))] at this
    exact this
  · exact hN
  · exact hB
theorem step_fuses {sl : Nat} {xs : Nat → Int32} : Step sl xs 64 122 [] := by
  intro d h ⟨n, m, q, hi⟩
  have hn : n ≤ 24 := hi.1.1
  have hV : VS h n := hi.2.2.2.1
  obtain ⟨h1, a1, a2, a3, a4⟩ := c_search (sl := sl) (xs := xs) (d := d + 35) hn hi.n7 hV
  have hi1 := hi.frame (FR_search a2)
  by_cases c : cstH h n = 536870912
  · obtain ⟨h2, b1, b2, b3, -⟩ := best_both (sl := sl) (xs := xs) (d := d + 35) (g := pm_up h1 1 2 (h1 1 2 + nI 1)) hi (fun k hk => by rw [pm_up_ne (by omega)]; exact a2 k (by omega)) (by rw [pm_up_ne (by decide), a2 39 (by omega)])
    have b1 : pm_cf (pm_Ev sl xs) (d + 35 + 4) 119 [.ref 40] (SH, pm_up h1 1 2 (h1 1 2 + nI 1)) = some (some (.int (-nI 1)), (SH, h2)) := by
      rcases b1 with ⟨-, b1⟩ | ⟨S, -, k2, -⟩
      · exact b1
      · obtain ⟨l1, l2⟩ := cst_lt (S := S) hn
        omega
    have hfr := FR_best b2 b3
    refine ⟨-1000000002, pm_up h1 1 2 (h1 1 2 + nI 1), pm_up h2 58 2 (h2 58 2 + nI 1), ?_, ?_, n, m, q, ?_⟩
    · rw [qX7_fuses_0, a1, pm_ri_ok, show (if 536870912 ≤ cstV (h 9) (canS (h 8) (h 12) (WV h n)) (lackS (h 8) (h 12) (WV h n)) n then nI 0 else nI 1) = nI 0 from if_pos (by show 536870912 ≤ cstH h n; omega), if_pos z00, c_find (k := 2) (by decide) f_2, pm_ri_ok]
    · rw [qX8_fuses_0, b1, pm_ri_ok, if_neg (fun z => (ge0 _).mp z neg1), c_finds (by decide), pm_ri_ok, g_2]
    · have := hi1.fnd 2
      refine this.frame ?_
      rw [show h2 58 2 = pm_up h1 1 2 (h1 1 2 + nI 1) 58 2 by rw [hfr.1 58 (by decide)]]
      exact hfr.up
  · -- the set is the same whichever side is asked first
    obtain ⟨h0, z1, -⟩ := best_both (sl := sl) (xs := xs) (d := d + 35) (g := h1) hi (fun k hk => a2 k (by omega)) (by rw [a2 39 (by omega)])
    rcases z1 with ⟨k1, -⟩ | ⟨S0, s1, s2, -⟩
    · exact absurd k1 c
    · obtain ⟨l1, l2⟩ := cst_lt (S := S0) hn
      have hx : (if 536870912 ≤ cstV (h 9) (canS (h 8) (h 12) (WV h n)) (lackS (h 8) (h 12) (WV h n)) n then nI 0 else nI 1) = nI 1 := if_neg (by show ¬ 536870912 ≤ cstH h n; omega)
      have h3 : h1 26 3 = nI (16777216 * cnS S0 n + btS S0 n) := by rw [a4, ← s2]; rfl
      have p1 := put_c (sl := sl) (xs := xs) (d := d + 37) (g := h1) (w := WV h n) (f0 := h 15) hn s1 (by rw [a2 7 (by omega)]; exact hi.n7) h3 a3 n 0 (by omega)
      have e15 : pm_pt h1 15 (fzRow S0 (WV h n) (h 15) 0) = h1 := by rw [fzRow_0, ← a2 15 (by omega)]; exact pt_self _ _
      rw [e15] at p1
      obtain ⟨h2, b1, b2, b3, b4⟩ := best_both (sl := sl) (xs := xs) (d := d + 35) (g := pm_pt h1 15 (fzRow S0 (WV h n) (h 15) n)) hi (fun k hk => by rw [pt_ne (by omega)]; exact a2 k (by omega)) (by rw [pt_ne (by decide), a2 39 (by omega)])
      rcases b1 with ⟨k1, -⟩ | ⟨S, k1, k2, b1⟩
      · exact absurd k1 c
      · obtain ⟨l3, l4⟩ := cst_lt (S := S) hn
        have ec : cnS S n = cnS S0 n := by omega
        have eb : btS S n = btS S0 n := by omega
        rw [eb] at b1
        have q1 := put_m (sl := sl) (xs := xs) (d := d + 38) (g := h2) (S := S0) (w := WV h n) (f0 := h 15) hn s1 (by rw [b3 1 (by decide), pt_ne (by decide), a2 39 (by omega)]; exact hi.n39) b4 n 0 (by omega)
        have e50 : h2 50 = h 15 := by rw [b2 50 (by omega) (by decide), pt_ne (by decide), a2 50 (by omega)]; exact (hi.eq (by decide)).symm
        have e50' : pm_pt h2 50 (fzRow S0 (WV h n) (h 15) 0) = h2 := by rw [fzRow_0, ← e50]; exact pt_self _ _
        rw [e50'] at q1
        refine ⟨nI (cnS S0 n), pm_pt h1 15 (fzRow S0 (WV h n) (h 15) n), pm_pt h2 50 (fzRow S0 (WV h n) (h 15) n), ?_, ?_, n, m, q, ?_⟩
        · rw [qX7_fuses_0, a1, pm_ri_ok, hx, if_neg z10, qX3_putFuses_0, p1, pm_rv_ok, qX3_howMany_0, pm_ri_ok, pt_ne (a := 26) (by decide), h3, cst_many l1 l2]
        · rw [qX8_fuses_0, b1, pm_ri_ok, if_pos ((ge0 _).mpr (nI_pos (by omega)))]
          exact q1
        · have hfr := FR_best b2 b3
          refine hi.row15 (f := fzRow S0 (WV h n) (h 15) n) (fun k hk hk2 => ?_) (fun p hp => ?_) ?_ (pt_same _ _ _) (fun j hj => ?_) (fun j hj => ?_)
          · simp at hk2
            rw [pt_ne hk2.2, hfr.1 k hk, pt_ne hk2.1]
            exact (FR_search a2).1 k hk
          · have k2 : ∀ p ∈ relF, p.1 ≠ 15 ∧ p.1 ≠ 50 := by decide
            rw [pt_ne (k2 p hp).2, hfr.2 p hp, pt_ne (k2 p hp).1]
            exact (FR_search a2).2 p hp
          · rw [pt_ne (by decide), hfr.1 15 (by decide), pt_same]
          · rw [fzRow_w hj]
            cases S0 j with
            | true => exact WV_bd hn hV hj
            | false => exact ⟨0, by decide, rfl⟩
          · unfold fzRow
            rw [if_neg (by omega)]
            exact (hi.2.2.2.2.1 j hj).1
/-! check -/
def chk (S : Nat → Bool) (wt : Nat → Int32) (q : Nat) : Nat → Nat → Nat → Nat
  | 0, _, i => if q ≤ i then 0 else 99
  | k + 1, s, i => if S s = true then (if q ≤ i then 1 + i else if wt i = nI s then chk S wt q k (s + 1) (i + 1) else 1 + i) else chk S wt q k (s + 1) i
theorem chk_0 {S : Nat → Bool} {wt : Nat → Int32} {q n : Nat} (hS : ∀ p, n ≤ p → S p = false) : ∀ (k s i : Nat), n ≤ s → chk S wt q k s i = if q ≤ i then 0 else 99
  | 0, s, i, _ => rfl
  | k + 1, s, i, hs => by
    rw [chk, hS s hs, if_neg (by decide)]
    exact chk_0 hS k (s + 1) i (by omega)
theorem chk_n {S : Nat → Bool} {wt : Nat → Int32} {q n r : Nat} (hS : ∀ p, n ≤ p → S p = false) : ∀ (k s i : Nat), s + k = n → chk S wt q (k + r) s i = chk S wt q k s i
  | 0, s, i, hs => by rw [chk_0 hS _ s i (by omega)]; rfl
  | k + 1, s, i, hs => by
    rw [show k + 1 + r = (k + r) + 1 by omega, chk, chk, chk_n hS k (s + 1) i (by omega), chk_n hS k (s + 1) (i + 1) (by omega)]
section CHECK
variable {sl : Nat} {xs : Nat → Int32}
theorem cmp_c {d : Nat} {g : pmH} {n q : Nat} {S : Nat → Bool} (hn : n ≤ 24) (hq : q ≤ 24) (hS : ∀ p, n ≤ p → S p = false) (e37 : g 37 0 = nI q) : ∀ (k s i : Nat), s + k = 24 → i ≤ s → pm_Ev sl xs (d + 1) 52 4 [some (.ref 38), some (.int (nI (btS S n))), some (.int (nI i)), some (.int (nI s))] [] (SH, g) = some (some (.int (nI (chk S (g 38) q k s i))), (SH, g))
  | 0, s, i, hk, hi => by
    rw [qX6_compare_4, if_pos (nI_le (by omega) (by omega)), e37, chk]
    by_cases c : q ≤ i
    · rw [if_pos (nI_le c (by omega)), if_pos c]
    · rw [if_neg (nI_ge (by omega) (by omega)), if_neg c]
  | k + 1, s, i, hk, hi => by
    rw [qX6_compare_4, if_neg (nI_ge (by omega) (by omega)), c_hasBit, pm_ri_ok, bI_if, hb_Sn hn hS (by omega), e37, nI_add, nI_add, nI_add, chk]
    cases z : S s with
    | false =>
      rw [if_neg (by decide), if_neg (by decide)]
      exact cmp_c hn hq hS e37 k (s + 1) i (by omega) (by omega)
    | true =>
      rw [if_pos rfl, if_pos rfl]
      by_cases c : q ≤ i
      · rw [if_pos (nI_le c (by omega)), if_pos c]
      · rw [if_neg (nI_ge (by omega) (by omega)), if_neg c, pm_ix_nI (by omega) (by decide)]
        by_cases c2 : g 38 i = nI s
        · rw [if_pos c2, if_pos c2]
          exact cmp_c hn hq hS e37 k (s + 1) (i + 1) (by omega) (by omega)
        · rw [if_neg c2, if_neg c2]
theorem cmp_m {d : Nat} {g : pmH} {n q : Nat} {S : Nat → Bool} {wt : Nat → Int32} (hn : n ≤ 24) (hq : q ≤ 24) (hS : ∀ p, n ≤ p → S p = false) (n39 : g 39 1 = nI n) (e57 : g 57 = wt) : ∀ (k s i : Nat), s + k = n → i ≤ s → pm_Ev sl xs (d + 1) 146 30 [some (.ref 40), some (.int (nI q)), some (.int (nI (btS S n))), some (.int (nI i)), some (.int (nI s))] [] (SH, g) = some (some (.int (nI (chk S wt q k s i))), (SH, g))
  | 0, s, i, hk, hi => by
    rw [qX8_check_30, n39, if_pos (nI_le (by omega) (by omega)), chk]
    by_cases c : q ≤ i
    · rw [if_pos (nI_le c (by omega)), if_pos c]
    · rw [if_neg (nI_ge (by omega) (by omega)), if_neg c]
  | k + 1, s, i, hk, hi => by
    rw [qX8_check_30, n39, if_neg (nI_ge (by omega) (by omega)), c_hasM, pm_ri_ok, bI_if, hb_Sn hn hS (by omega), nI_add, nI_add, nI_add, chk, e57]
    cases z : S s with
    | false =>
      rw [if_neg (by decide), if_neg (by decide)]
      exact cmp_m hn hq hS n39 e57 k (s + 1) i (by omega) (by omega)
    | true =>
      rw [if_pos rfl, if_pos rfl]
      by_cases c : q ≤ i
      · rw [if_pos (nI_le c (by omega)), if_pos c]
      · rw [if_neg (nI_ge (by omega) (by omega)), if_neg c, pm_ix_nI (by omega) (by decide)]
        by_cases c2 : wt i = nI s
        · rw [if_pos c2, if_pos c2]
          exact cmp_m hn hq hS n39 e57 k (s + 1) (i + 1) (by omega) (by omega)
        · rw [if_neg c2, if_neg c2]
end CHECK
theorem up_comm {h : pmH} {k k2 j j2 : Nat} {x y : Int32} (hk : k ≠ k2) : pm_up (pm_up h k j x) k2 j2 y = pm_up (pm_up h k2 j2 y) k j x := by
  funext a
  unfold pm_up
  by_cases h1 : a = k
  · subst h1; simp [hk]
  · by_cases h2 : a = k2
    · subst h2; simp [h1]
    · simp [h1, h2]
theorem InvN.q0 {h : pmH} {n m q : Nat} (hi : InvN h n m q) : InvN (pm_up (pm_up h 37 0 (nI 0)) 39 6 (nI 0)) n m 0 := by
  obtain ⟨hb, hE, hS, hA, hN, hB⟩ := hi.to
  refine InvN.of ⟨hb.1, hb.2.1, by omega⟩ ((hE.other (by decide)).other (by decide)) ?_ ((hA.up (by decide)).up (by decide)) ((hN.up (by decide)).up (by decide)) ((hB.up (by decide)).up (by decide))
  unfold SC at hS ⊢
  simpa [pm_up, upd] using ⟨hS.1, hS.2.1, hS.2.2.2⟩
theorem step_check {sl : Nat} {xs : Nat → Int32} : Step sl xs 82 146 [] := by
  intro d h ⟨n, m, q, hi⟩
  have hn : n ≤ 24 := hi.1.1
  have hq : q ≤ 24 := hi.1.2.2
  have hV : VS h n := hi.2.2.2.1
  have q37 : h 37 0 = nI q := hi.2.2.1.2.2.1.1
  have q39 : h 39 6 = nI q := hi.2.2.1.2.2.1.2
  obtain ⟨h1, a1, a2, a3, a4⟩ := c_search (sl := sl) (xs := xs) (d := d + 35) hn hi.n7 hV
  have hi1 := hi.frame (FR_search a2)
  by_cases c : cstH h n = 536870912
  · obtain ⟨A, hA⟩ : ∃ A, A = pm_up (pm_up h1 1 2 (h1 1 2 + nI 1)) 37 0 (nI 0) := ⟨_, rfl⟩
    have eA : ∀ k, 37 < k → A k = h k := fun k hk => by rw [hA, pm_up_ne (by omega), pm_up_ne (by omega)]; exact a2 k (by omega)
    obtain ⟨h2, b1, b2, b3, -⟩ := best_both (sl := sl) (xs := xs) (d := d + 35) (g := pm_up A 39 6 (nI 0)) hi (fun k hk => by rw [pm_up_ne (by omega)]; exact eA k (by omega)) (by rw [pm_up_same, upd_n (by decide), eA 39 (by decide)])
    have b1 : pm_cf (pm_Ev sl xs) (d + 35 + 4) 119 [.ref 40] (SH, pm_up A 39 6 (nI 0)) = some (some (.int (-nI 1)), (SH, h2)) := by
      rcases b1 with ⟨-, b1⟩ | ⟨S, -, k2, -⟩
      · exact b1
      · obtain ⟨l1, l2⟩ := cst_lt (S := S) hn
        omega
    have hfr := FR_best b2 b3
    refine ⟨-1000000002, A, pm_up h2 58 2 (h2 58 2 + nI 1), ?_, ?_, n, m, 0, ?_⟩
    · rw [qX7_check_0, a1, pm_ri_ok, show (if 536870912 ≤ cstV (h 9) (canS (h 8) (h 12) (WV h n)) (lackS (h 8) (h 12) (WV h n)) n then nI 0 else nI 1) = nI 0 from if_pos (by show 536870912 ≤ cstH h n; omega), if_pos z00, c_find (k := 2) (by decide) f_2, pm_ri_ok, hA]
    · rw [qX8_check_0, b1, pm_ri_ok, if_neg (fun z => (ge0 _).mp z neg1), c_finds (by decide), pm_ri_ok, g_2]
    · have := hi1.q0.fnd 2
      refine this.frame ?_
      rw [show h2 58 2 = (pm_up A 39 6 (nI 0)) 58 2 by rw [hfr.1 58 (by decide)]]
      have eX : pm_up (pm_up (pm_up h1 37 0 (nI 0)) 39 6 (nI 0)) 1 2 ((pm_up (pm_up h1 37 0 (nI 0)) 39 6 (nI 0)) 1 2 + nI 1) = pm_up A 39 6 (nI 0) := by
        rw [hA, pm_up_ne (a := 1) (by decide), pm_up_ne (a := 1) (by decide), up_comm (k := 39) (k2 := 1) (by decide), up_comm (k := 37) (k2 := 1) (by decide)]
      rw [eX]
      exact hfr.up
  · obtain ⟨A, hA⟩ : ∃ A, A = pm_up h1 37 0 (nI 0) := ⟨_, rfl⟩
    have eA : ∀ k, 37 < k → A k = h k := fun k hk => by rw [hA, pm_up_ne (by omega)]; exact a2 k (by omega)
    obtain ⟨h2, b1, b2, b3, -⟩ := best_both (sl := sl) (xs := xs) (d := d + 35) (g := pm_up A 39 6 (nI 0)) hi (fun k hk => by rw [pm_up_ne (by omega)]; exact eA k (by omega)) (by rw [pm_up_same, upd_n (by decide), eA 39 (by decide)])
    rcases b1 with ⟨k1, -⟩ | ⟨S, k1, k2, b1⟩
    · exact absurd k1 c
    · obtain ⟨l1, l2⟩ := cst_lt (S := S) hn
      have hx : (if 536870912 ≤ cstV (h 9) (canS (h 8) (h 12) (WV h n)) (lackS (h 8) (h 12) (WV h n)) n then nI 0 else nI 1) = nI 1 := if_neg (by show ¬ 536870912 ≤ cstH h n; omega)
      have h3 : h1 26 3 = nI (16777216 * cnS S n + btS S n) := by rw [a4, ← k2]; rfl
      have e38 : h1 38 = h 38 := a2 38 (by omega)
      have cc := cmp_c (sl := sl) (xs := xs) (d := d + 37) (g := h1) hn hq k1 (by rw [a2 37 (by omega)]; exact q37) 24 0 0 (by omega) (Nat.le_refl _)
      have hce : chk S (h 38) q 24 0 0 = chk S (h 38) q n 0 0 := by
        have := chk_n (wt := h 38) (q := q) (r := 24 - n) k1 n 0 0 (by omega)
        rw [show n + (24 - n) = 24 by omega] at this
        exact this
      rw [e38, hce] at cc
      have mm := cmp_m (sl := sl) (xs := xs) (d := d + 38) (g := h2) (q := q) (wt := h 38) hn hq k1 (by rw [b3 1 (by decide), pm_up_same, upd_n (by decide), eA 39 (by decide)]; exact hi.n39) (by rw [b2 57 (by omega) (by decide), pm_up_ne (by decide), eA 57 (by decide)]; exact (hi.eq (by decide)).symm) n 0 0 (by omega) (Nat.le_refl _)
      refine ⟨nI (chk S (h 38) q n 0 0), A, h2, ?_, ?_, n, m, 0, ?_⟩
      · rw [qX7_check_0, a1, pm_ri_ok, hx, if_neg z10, qX3_asBits_0, pm_ri_ok, h3, cst_bits l1 l2, qX6_compare_0, cc, pm_ri_ok, hA]
      · rw [qX8_check_0, b1, pm_ri_ok, if_pos ((ge0 _).mpr (nI_pos (by omega))), eA 39 (by decide), q39]
        exact mm
      · have := hi1.q0
        rw [← hA] at this
        exact this.frame (FR_best b2 b3)
