/-! the component's search -/
def canS (kd wr w : Nat → Int32) (s : Nat) : Bool := decide (¬ nI 500 * wr s < w s ∧ (kd s = nI 1 → w s ≤ nI 500))
def lackS (kd wr w : Nat → Int32) (s a : Nat) : Bool := decide (¬ kd s = nI 1 ∧ w a ≤ nI 500 * wr s)
theorem canS_t {kd wr w : Nat → Int32} {s : Nat} (h1 : ¬ nI 500 * wr s < w s) (h2 : kd s = nI 1 → w s ≤ nI 500) : canS kd wr w s = true := decide_eq_true ⟨h1, h2⟩
theorem canS_f {kd wr w : Nat → Int32} {s : Nat} (h : nI 500 * wr s < w s ∨ (kd s = nI 1 ∧ ¬ w s ≤ nI 500)) : ¬ canS kd wr w s = true := fun z => by
  have z := of_decide_eq_true z
  rcases h with h | h
  · exact z.1 h
  · exact h.2 (z.2 h.1)
theorem lackS_t {kd wr w : Nat → Int32} {s a : Nat} (h1 : ¬ kd s = nI 1) (h2 : w a ≤ nI 500 * wr s) : lackS kd wr w s a = true := decide_eq_true ⟨h1, h2⟩
theorem lackS_f {kd wr w : Nat → Int32} {s a : Nat} (h : kd s = nI 1 ∨ ¬ w a ≤ nI 500 * wr s) : ¬ lackS kd wr w s a = true := fun z => by
  have z := of_decide_eq_true z
  rcases h with h | h
  · exact z.1 h
  · exact h z.2
theorem NWi : (536870912 : Int32) = nI 536870912 := by decide
theorem OWi : (16777216 : Int32) = nI 16777216 := by decide
theorem sh5 : ∀ s, s < 32 → ((nI s &&& 31).toBitVec.smod 32).toNat = s := by decide +kernel
theorem shl1 {s : Nat} (hs : s ≤ 24) : nI 1 <<< (nI s &&& 31) = nI (2 ^ s) := by
  have := p24 hs
  rw [pk_shlN (nI s &&& 31) s (sh5 s (by omega)) (by omega), Nat.one_mul]
def RBc (f : Nat → Int32) (b : Nat → Nat → Nat) (n : Nat) : Prop := ∀ p a, p < n → a ≤ p → f (24 * p + a) = nI (min 536870912 (b p a))
def mixB (b b2 : Nat → Nat → Nat) (c : Nat) : Nat → Nat → Nat := fun p a => if a < c then b2 p a else b p a
theorem min_nI {x y : Nat} (hx : x < 2 ^ 31) (hy : y < 2 ^ 31) : (if nI x < nI y then nI x else nI y) = nI (min x y) := by
  by_cases c : x < y
  · rw [if_pos (nI_lt c hy), Nat.min_eq_left (by omega)]
  · rw [if_neg (nI_nlt (by omega) hx), Nat.min_eq_right (by omega)]
theorem cap_add (K x y : Nat) : min K (x + min K y) = min K (x + y) := by
  rcases Nat.le_total K y with h | h
  · rw [Nat.min_eq_left h, Nat.min_eq_left (by omega), Nat.min_eq_left (by omega)]
  · rw [Nat.min_eq_right h]
section SEARCH
variable {sl : Nat} {xs : Nat → Int32}
theorem c_join {d : Nat} {g : pmH} {x y : Nat} (h : x + y < 2 ^ 31) : pm_cf (pm_Ev sl xs) (d + 2) 23 [.int (nI x), .int (nI y)] (SH, g) = some (some (.int (nI (min 536870912 (x + y)))), (SH, g)) := by
  rw [qX3_join_0, nI_add, NWi, min_nI h (by decide), Nat.min_comm]
theorem c_cwf {d : Nat} {g : pmH} {n s : Nat} {b : Nat → Nat → Nat} {f r kd wr w : Nat → Int32} (hn : n ≤ 24) (hs : s < n) (e8 : g 8 = kd) (e12 : g 12 = wr) (e23 : g 23 s = w s) (hf : f (24 * s + s) = nI (min 536870912 (b s s))) : pm_cf (pm_Ev sl xs) (d + 3) 21 [.ref 27, .int (nI s)] (SH, pP g 27 f 26 r) = some (some (.int (nI (min 536870912 (hvC (canS kd wr w) s + b s s)))), (SH, pP g 27 f 26 r)) := by
  have ix : ∀ (t : Nat → Option pmR), pm_ix none (nI s) 24 t = t s := fun t => pm_ix_nI (by omega) (by decide)
  have ij : ∀ (t : Nat → Option pmR), pm_ix none (nI s * nI 24 + nI s) 576 t = t (24 * s + s) := fun t => by
    rw [pk_mul, nI_add, Nat.mul_comm]; exact pm_ix_nI (by omega) (by decide)
  have hp := p24 (k := s) (by omega)
  have hj : pm_cf (pm_Ev sl xs) (d + 2) 23 [.int (16777216 + (nI 1 <<< (nI s &&& 31))), .int (f (24 * s + s))] (SH, pP g 27 f 26 r) = some (some (.int (nI (min 536870912 (16777216 + 2 ^ s + b s s)))), (SH, pP g 27 f 26 r)) := by
    rw [hf, OWi, shl1 (by omega), nI_add, c_join (by omega), cap_add]
  unfold hvC
  rw [qX3_costWithFuse_0, ix, qX5_bears_0, ix, pm_ri_ok, pP_ne (k := 12) (by decide) (by decide), pP_ne (k := 23) (by decide) (by decide), e12, e23]
  by_cases c1 : nI 500 * wr s < w s
  · rw [if_pos c1, if_neg z10, if_neg (canS_f (Or.inl c1)), NWi, Nat.min_eq_left (by omega)]
  · rw [if_neg c1, ix, pP_ne (k := 8) (by decide) (by decide), e8]
    by_cases c2 : kd s = nI 1
    · rw [if_pos c2]
      by_cases c3 : w s ≤ nI 500
      · rw [if_pos c3, if_pos z00, ij, pP_a (by decide), hj, pm_ri_ok, if_pos (canS_t c1 (fun _ => c3))]
      · rw [if_neg c3, if_neg z10, if_neg (canS_f (Or.inr ⟨c2, c3⟩)), NWi, Nat.min_eq_left (by omega)]
    · rw [if_neg c2, if_pos z00, ij, pP_a (by decide), hj, pm_ri_ok, if_pos (canS_t c1 (fun z => absurd z c2))]
theorem c_cwo {d : Nat} {g : pmH} {n s a : Nat} {b : Nat → Nat → Nat} {f r kd wr w : Nat → Int32} (hn : n ≤ 24) (hs : s < n) (ha : a ≤ s) (e8 : g 8 = kd) (e12 : g 12 = wr) (e23 : g 23 a = w a) (hf : f (24 * s + a) = nI (min 536870912 (b s a))) : pm_cf (pm_Ev sl xs) (d + 2) 22 [.ref 27, .int (nI s), .int (nI a)] (SH, pP g 27 f 26 r) = some (some (.int (nI (min 536870912 (lcC (lackS kd wr w) s a + b s a)))), (SH, pP g 27 f 26 r)) := by
  have ix : ∀ (t : Nat → Option pmR), pm_ix none (nI s) 24 t = t s := fun t => pm_ix_nI (by omega) (by decide)
  have ia : ∀ (t : Nat → Option pmR), pm_ix none (nI a) 24 t = t a := fun t => pm_ix_nI (by omega) (by decide)
  have ij : ∀ (t : Nat → Option pmR), pm_ix none (nI s * nI 24 + nI a) 576 t = t (24 * s + a) := fun t => by
    rw [pk_mul, nI_add, Nat.mul_comm]; exact pm_ix_nI (by omega) (by decide)
  unfold lcC
  rw [qX3_costWithout_0, ix, pP_ne (k := 8) (by decide) (by decide), e8]
  by_cases c2 : kd s = nI 1
  · rw [if_pos c2, if_neg z10, if_neg (fun z => lackS_f (Or.inl c2) z.2), NWi, Nat.min_eq_left (by omega)]
  · rw [if_neg c2, ia, qX5_bears_0, ix, pm_ri_ok, pP_ne (k := 12) (by decide) (by decide), pP_ne (k := 23) (by decide) (by decide), e12, e23]
    by_cases c3 : w a ≤ nI 500 * wr s
    · rw [if_pos c3, if_pos z00, ij, pP_a (by decide), hf, if_pos ⟨by omega, lackS_t c2 c3⟩, Nat.zero_add]
    · rw [if_neg c3, if_neg z10, if_neg (fun z => lackS_f (Or.inr c3) z.2), NWi, Nat.min_eq_left (by omega)]
theorem join_c {d : Nat} {g : pmH} {n s u : Nat} {b : Nat → Nat → Nat} {r kd wr w up : Nat → Int32} (hn : n ≤ 24) (hs : s < n) (hu : u < s) (eu : upI up s = u) (e8 : g 8 = kd) (e12 : g 12 = wr) (e23 : ∀ j, j < n → g 23 j = w j) : ∀ (k a : Nat) (f : Nat → Int32) (o5 : Option Value), a + k = u + 1 → RBc f (mixB b (bPut up (hvC (canS kd wr w)) (lcC (lackS kd wr w)) b s) a) n →
    ∃ f2, pm_Ev sl xs (d + 2) 20 3 [some (.ref 27), some (.int (nI s)), some (.int (nI u)), some (.int (nI (min 536870912 (hvC (canS kd wr w) s + b s s)))), some (.int (nI a)), o5] [] (SH, pP g 27 f 26 r) = some (none, (SH, pP g 27 f2 26 r)) ∧ RBc f2 (bPut up (hvC (canS kd wr w)) (lcC (lackS kd wr w)) b s) n
  | 0, a, f, o5, hk, hf => by
    refine ⟨f, ?_, fun p c hp hc => ?_⟩
    · rw [qX3_joinToUp_3, if_pos (nI_lt (by omega) (by omega))]
    · rw [hf p c hp hc]
      unfold mixB
      by_cases e : c < a
      · rw [if_pos e]
      · rw [if_neg e]
        unfold bPut
        rw [if_neg (by omega)]
  | k + 1, a, f, o5, hk, hf => by
    have ij : ∀ (t : Nat → Option pmR), pm_ix none (nI u * nI 24 + nI a) 576 t = t (24 * u + a) := fun t => by
      rw [pk_mul, nI_add, Nat.mul_comm]; exact pm_ix_nI (by omega) (by decide)
    have fs : f (24 * s + a) = nI (min 536870912 (b s a)) := by
      rw [hf s a hs (by omega)]; unfold mixB; rw [if_neg (Nat.lt_irrefl _)]
    have fu : f (24 * u + a) = nI (min 536870912 (b u a)) := by
      rw [hf u a (by omega) (by omega)]; unfold mixB; rw [if_neg (Nat.lt_irrefl _)]
    rw [qX3_joinToUp_3, if_neg (nI_nlt (by omega) (by omega)), ij, c_cwo (b := b) hn hs (by omega) e8 e12 (e23 a (by omega)) fs, pm_ri_ok, min_nI (by omega) (by omega), pP_a (by decide), fu, c_join (by omega), pm_ri_ok, ij, pP_ua (by decide), nI_add]
    refine join_c hn hs hu eu e8 e12 e23 k (a + 1) _ _ (by omega) (fun p c hp hc => ?_)
    by_cases e : p = u ∧ c = a
    · obtain ⟨rfl, rfl⟩ := e
      rw [upd_s]
      unfold mixB
      rw [if_pos (Nat.lt_succ_self _)]
      unfold bPut
      rw [if_pos eu.symm]
      congr 1
      omega
    · rw [upd_n (by omega), hf p c hp hc]
      unfold mixB
      by_cases e2 : c = a
      · subst e2
        rw [if_neg (Nat.lt_irrefl _), if_pos (Nat.lt_succ_self _)]
        unfold bPut
        rw [if_neg (fun z => e ⟨by omega, rfl⟩)]
      · by_cases e3 : c < a
        · rw [if_pos e3, if_pos (by omega)]
        · rw [if_neg e3, if_neg (by omega)]
theorem search_c {d : Nat} {g : pmH} {n : Nat} {kd wr w up : Nat → Int32} (hn : n ≤ 24) (hU : UPok up n) (e8 : g 8 = kd) (e9 : g 9 = up) (e12 : g 12 = wr) (e23 : ∀ j, j < n → g 23 j = w j) : ∀ (i : Nat) (b : Nat → Nat → Nat) (t : Nat) (f r : Nat → Int32) (o2 o3 : Option Value), i ≤ n → RBc f b n → r 3 = nI (min 536870912 t) →
    ∃ f2 r2, pm_Ev sl xs (d + 3) 19 30 [some (.ref 27), some (.int (nI i - nI 1)), o2, o3] [] (SH, pP g 27 f 26 r) = some (some (.int (if 536870912 ≤ dpB up (hvC (canS kd wr w)) (lcC (lackS kd wr w)) i b t then nI 0 else nI 1)), (SH, pP g 27 f2 26 r2)) ∧ r2 3 = nI (min 536870912 (dpB up (hvC (canS kd wr w)) (lcC (lackS kd wr w)) i b t))
  | 0, b, t, f, r, o2, o3, _, hf, hr => by
    refine ⟨f, r, ?_, hr⟩
    rw [qX3_search_30, if_pos (by decide), pP_b, hr, NWi, dpB]
    by_cases c : 536870912 ≤ t
    · rw [if_pos (nI_le (by omega) (by omega)), if_pos c]
    · rw [if_neg (nI_ge (by omega) (by omega)), if_neg c]
  | s + 1, b, t, f, r, o2, o3, hi, hf, hr => by
    have ix : ∀ (t : Nat → Option pmR), pm_ix none (nI s) 24 t = t s := fun t => pm_ix_nI (by omega) (by decide)
    rw [pk_sub (by omega), Nat.add_sub_cancel, qX3_search_30, if_neg (nI_pos (by omega)), ix, c_cwf (b := b) hn (by omega) e8 e12 (e23 s (by omega)) (hf s s (by omega) (Nat.le_refl _)), pm_ri_ok, pP_ne (k := 9) (by decide) (by decide), e9, m1, dpB]
    by_cases hu : up s < 0
    · rw [if_neg (fun z => (ge0 _).mp z hu), if_pos hu, pP_b, hr, c_join (by omega), pm_ri_ok, pP_ub]
      refine search_c hn hU e8 e9 e12 e23 s b _ f _ _ _ (by omega) hf ?_
      rw [upd_s]
      congr 1
      omega
    · obtain ⟨h1, h2⟩ := hU.lt hn (show s < n by omega) hu
      obtain ⟨f2, j1, j2⟩ := join_c (sl := sl) (xs := xs) (d := d) (g := g) (r := r) (b := b) (up := up) hn (show s < n by omega) h1 rfl e8 e12 e23 (upI up s + 1) 0 f none (by omega) (fun p c hp hc => by rw [hf p c hp hc]; unfold mixB; rw [if_neg (Nat.not_lt_zero _)])
      rw [if_pos ((ge0 _).mpr hu), if_neg hu, h2, qX3_joinToUp_0, j1, pm_rv_ok]
      exact search_c hn hU e8 e9 e12 e23 s _ t f2 r _ _ (by omega) j2 hr
theorem c_search {d : Nat} {h : pmH} {n : Nat} (hn : n ≤ 24) (n7 : h 7 0 = nI n) (hV : VS h n) : ∃ h2, pm_cf (pm_Ev sl xs) (d + 4) 19 [.ref 27] (SH, h) = some (some (.int (if 536870912 ≤ cstV (h 9) (canS (h 8) (h 12) (WV h n)) (lackS (h 8) (h 12) (WV h n)) n then nI 0 else nI 1)), (SH, h2)) ∧ (∀ k, k < 21 ∨ 27 < k → h2 k = h k) ∧ (∀ j, j < n → h2 23 j = WV h n j) ∧ h2 26 3 = nI (cstV (h 9) (canS (h 8) (h 12) (WV h n)) (lackS (h 8) (h 12) (WV h n)) n) := by
  obtain ⟨g, a1, a2, -, -, a5, -⟩ := c_survey (sl := sl) (xs := xs) (d := d) hn n7 hV
  have e0 : pm_up (pm_fil g 27 (nI 0) 576) 26 3 (nI 0) = pP g 27 (fun j => if j < 576 then nI 0 else g 27 j) 26 (upd (g 26) 3 (nI 0)) := by
    funext k
    unfold pP pm_up pm_fil pm_pt
    by_cases h1 : k = 26
    · subst h1; simp
    · by_cases h2 : k = 27
      · subst h2; simp
      · simp [h1, h2]
  obtain ⟨f2, r2, b1, b2⟩ := search_c (sl := sl) (xs := xs) (d := d) (g := g) (n := n) (kd := h 8) (wr := h 12) (w := WV h n) (up := h 9) hn hV.up (a2 8 (by omega)) (a2 9 (by omega)) (a2 12 (by omega)) a5 n (fun _ _ => 0) 0 (fun j => if j < 576 then nI 0 else g 27 j) (upd (g 26) 3 (nI 0)) none none (Nat.le_refl _) (fun p a hp ha => by
    show (if 24 * p + a < 576 then nI 0 else g 27 (24 * p + a)) = nI 0
    exact if_pos (by omega)) (by rw [upd_s]; rfl)
  refine ⟨pP g 27 f2 26 r2, ?_, fun k hk => ?_, fun j hj => ?_, ?_⟩
  · have e7 : pm_fil g 27 (nI 0) 576 7 0 = nI n := by
      show g 7 0 = nI n
      rw [a2 7 (by omega)]; exact n7
    rw [qX3_search_0, a1, pm_rv_ok, fill_all (k := 27) (n := 576) (fl := []) rfl (by decide), pm_rv_ok, e7, e0, b1]
    unfold cstV dpN
    congr 4
    by_cases c : 536870912 ≤ dpB (h 9) (hvC (canS (h 8) (h 12) (WV h n))) (lcC (lackS (h 8) (h 12) (WV h n))) n (fun _ _ => 0) 0
    · rw [if_pos c, if_pos (by omega)]
    · rw [if_neg c, if_neg (by omega)]
  · rw [pP_ne (by omega) (by omega)]; exact a2 k (by omega)
  · rw [pP_ne (by omega) (by omega)]; exact a5 j hj
  · rw [pP_b]; exact b2
end SEARCH
