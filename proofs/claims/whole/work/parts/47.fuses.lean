/-! the best set; fewest, fuses, check -/
theorem sb0 {S : Nat → Bool} {s : Nat} : btS S (s + 1) = btS S s + (if S s = true then 2 ^ s else 0) := rfl
theorem btS_ext {S : Nat → Bool} {n : Nat} (h : ∀ p, n ≤ p → S p = false) : ∀ k, btS S (n + k) = btS S n ∧ cnS S (n + k) = cnS S n
  | 0 => ⟨rfl, rfl⟩
  | k + 1 => by
    obtain ⟨h1, h2⟩ := btS_ext h k
    unfold btS at h1 ⊢
    unfold cnS at h2 ⊢
    rw [← Nat.add_assoc, sm, sm, h1, h2, h (n + k) (by omega)]
    exact ⟨rfl, rfl⟩
theorem bit_S {S : Nat → Bool} {i : Nat} (hi : i < 24) : (nI (btS S 24) >>> (nI i &&& 31)) &&& nI 1 = nI (if S i = true then 1 else 0) := by
  have hl := btS_lt S 24
  have hd : btS S 24 / 2 ^ i ≤ btS S 24 := Nat.div_le_self _ _
  rw [pk_shrN (by omega) (nI i &&& 31) i (sh5 i (by omega)), pk_andN (by omega) 1 (by decide), Nat.pow_one, btS_bit 24 hi]
theorem hb_S {S : Nat → Bool} {i : Nat} (hi : i < 24) : hb (nI (btS S 24)) (nI i) = S i := by
  unfold hb
  rw [bit_S hi]
  cases S i
  · exact decide_eq_false (by decide)
  · exact decide_eq_true rfl
theorem cst_many {c b : Nat} (hc : c ≤ 24) (hb : b < 16777216) : nI (16777216 * c + b) >>> (nI 24 &&& 31) = nI c := by
  rw [pk_shrN (by omega) (nI 24 &&& 31) 24 (sh5 24 (by omega))]
  congr 1
  omega
theorem cst_bits {c b : Nat} (hc : c ≤ 24) (hb : b < 16777216) : nI (16777216 * c + b) &&& 16777215 = nI b := by
  rw [pk_andN (by omega) 24 (by decide)]
  congr 1
  omega
def RS (g2 g : pmH) : Prop := (∀ k, k ≠ 63 → k ≠ 39 → k ≠ 64 → g2 k = g k) ∧ ∀ k, k ≠ 31 → g2 39 k = g 39 k
section BEST
variable {sl : Nat} {xs : Nat → Int32}
theorem bs48 {d : Nat} {g : pmH} {n : Nat} {kd wr w up : Nat → Int32} {S : Nat → Bool} (hn : n ≤ 24) (hU : UPok up n) (n39 : g 39 1 = nI n) (e9 : g 44 = up) (e8 : g 43 = kd) (e12 : g 47 = wr) (e61 : ∀ j, j < n → g 61 j = w j)
    (hS : ∀ (m : Nat → Int32) (s : Nat), s < n → (∀ p, s < p → p < n → (S p = true → m p = nI 1) ∧ (S p = false → m p = nI 2)) → m s = nI 2 → (∀ p, p < s → m p = nI 0) → (fewV up (canS kd wr w) (lackS kd wr w) n m = cnS S n ↔ S s = false)) : ∀ (i V B : Nat) (g2 : pmH), i ≤ n → RS g2 g → (∀ p, i ≤ p → p < n → (S p = true → g2 64 p = nI 1) ∧ (S p = false → g2 64 p = nI 2)) → (∀ p, p < i → g2 64 p = nI 0) → V + btS S i = btS S n → V = 2 ^ i * B →
    ∃ g3, pm_Ev sl xs (d + 3) 119 48 [some (.ref 40), some (.int (nI (cnS S n))), some (.int (nI V)), some (.int (nI i - nI 1))] [] (SH, g2) = some (some (.int (nI (btS S n))), (SH, g3)) ∧ RS g3 g
  | 0, V, B, g2, _, hR, _, _, hV, _ => by
    refine ⟨g2, ?_, hR⟩
    rw [qX8_bestSet_48, if_pos (by decide), ← hV]
    rfl
  | s + 1, V, B, g2, hi, hR, h1, h2, hV, hB => by
    have ix : ∀ (t : Nat → Option pmR), pm_ix none (nI s) 24 t = t s := fun t => pm_ix_nI (by omega) (by decide)
    have ne : ∀ k, k ≠ 63 → k ≠ 39 → k ≠ 64 → (pm_up g2 64 s (nI 2)) k = g k := fun k k1 k2 k3 => by rw [pm_up_ne k3]; exact hR.1 k k1 k2 k3
    obtain ⟨g4, a1, a2, a3⟩ := m_few (sl := sl) (xs := xs) (d := d) (g := pm_up g2 64 s (nI 2)) (n := n) (kd := kd) (wr := wr) (w := w) (up := up) hn hU (by rw [pm_up_ne (by decide), hR.2 1 (by decide)]; exact n39) (by rw [ne 44 (by decide) (by decide) (by decide)]; exact e9) (by rw [ne 43 (by decide) (by decide) (by decide)]; exact e8) (by rw [ne 47 (by decide) (by decide) (by decide)]; exact e12) (fun j hj => by rw [ne 61 (by decide) (by decide) (by decide)]; exact e61 j hj)
    rw [pm_up_same] at a1
    have hR4 : RS g4 g := ⟨fun k k1 k2 k3 => by rw [a2 k k1 k2]; exact ne k k1 k2 k3, fun k hk => by rw [a3 k hk, pm_up_ne (by decide)]; exact hR.2 k hk⟩
    have e64 : g4 64 = upd (g2 64) s (nI 2) := by rw [a2 64 (by decide) (by decide), pm_up_same]
    have key := hS (upd (g2 64) s (nI 2)) s (by omega) (fun p p1 p2 => by rw [upd_n (by omega)]; exact h1 p (by omega) p2) (upd_s _ _ _) (fun p hp => by rw [upd_n (by omega)]; exact h2 p (by omega))
    have hfb : fewV up (canS kd wr w) (lackS kd wr w) n (upd (g2 64) s (nI 2)) ≤ 1000 := Nat.min_le_left _ _
    have hcn := cnS_le S n
    rw [pk_sub (by omega), Nat.add_sub_cancel, qX8_bestSet_48, if_neg (nI_pos (by omega)), ix, a1, pm_ri_ok, m1]
    rw [sb0] at hV
    cases z : S s with
    | false =>
      rw [z, if_neg (by decide), Nat.add_zero] at hV
      rw [if_pos (by rw [key.mpr z])]
      refine bs48 hn hU n39 e9 e8 e12 e61 hS s V (2 * B) g4 (by omega) hR4 (fun p p1 p2 => ?_) (fun p hp => ?_) hV ?_
      · rw [e64]
        by_cases e : p = s
        · subst e; rw [upd_s, z]; exact ⟨fun k => absurd k (by decide), fun _ => rfl⟩
        · rw [upd_n e]; exact h1 p (by omega) p2
      · rw [e64, upd_n (by omega)]; exact h2 p (by omega)
      · rw [hB, Nat.pow_succ, Nat.mul_assoc]
    | true =>
      rw [z, if_pos rfl] at hV
      rw [if_neg (fun k => by rw [key.mp ((nI_eq (by omega) (by omega)).mp k)] at z; cases z), ix, shl1 (by omega), hB, nI_put, ← hB]
      refine bs48 hn hU n39 e9 e8 e12 e61 hS s (V + 2 ^ s) (2 * B + 1) (pm_up g4 64 s (nI 1)) (by omega) ⟨fun k k1 k2 k3 => by rw [pm_up_ne k3]; exact hR4.1 k k1 k2 k3, fun k hk => by rw [pm_up_ne (by decide)]; exact hR4.2 k hk⟩ (fun p p1 p2 => ?_) (fun p hp => ?_) (by omega) ?_
      · rw [pm_up_same, e64]
        by_cases e : p = s
        · subst e; rw [upd_s, z]; exact ⟨fun _ => rfl, fun k => absurd k (by decide)⟩
        · rw [upd_n e, upd_n e]; exact h1 p (by omega) p2
      · rw [pm_up_same, e64, upd_n (by omega), upd_n (by omega)]; exact h2 p (by omega)
      · rw [hB, Nat.pow_succ, Nat.mul_add, Nat.mul_one, Nat.mul_assoc]
theorem bs6 {d : Nat} {g : pmH} {o2 o3 : Option Value} : ∀ (k i : Nat) (f : Nat → Int32), i + k = 24 → (∀ j, j < i → f j = nI 0) → ∃ f2, pm_Ev sl xs (d + 1) 119 6 [some (.ref 40), some (.int (nI i)), o2, o3] [] (SH, pm_pt g 64 f) = pm_Ev sl xs (d + 1) 119 6 [some (.ref 40), some (.int (nI 24)), o2, o3] [] (SH, pm_pt g 64 f2) ∧ ∀ j, j < 24 → f2 j = nI 0
  | 0, i, f, hk, hf => by
    have e : i = 24 := by omega
    subst e
    exact ⟨f, rfl, hf⟩
  | k + 1, i, f, hk, hf => by
    rw [qX8_bestSet_6, if_neg (nI_ge (by omega) (by omega)), pm_ix_nI (by omega) (by decide), pt_up, nI_add]
    refine bs6 k (i + 1) _ (by omega) (fun j hj => ?_)
    by_cases e : j = i
    · subst e; rw [upd_s]
    · rw [upd_n e]; exact hf j (by omega)
def cstH (h : pmH) (n : Nat) : Nat := cstV (h 9) (canS (h 8) (h 12) (WV h n)) (lackS (h 8) (h 12) (WV h n)) n
theorem m_bestSet {d : Nat} {g h : pmH} {n : Nat} (hn : n ≤ 24) (hV : VS h n) (n39 : g 39 1 = nI n) (e8 : g 43 = h 8) (e9 : g 44 = h 9) (e11 : g 46 = h 11) (e12 : g 47 = h 12) (e13 : g 48 = h 13) (e14 : g 49 = h 14) (e16 : g 53 = h 16) :
    ∃ h2, ((cstH h n = 536870912 ∧ pm_cf (pm_Ev sl xs) (d + 4) 119 [.ref 40] (SH, g) = some (some (.int (-nI 1)), (SH, h2))) ∨ ∃ S : Nat → Bool, (∀ p, n ≤ p → S p = false) ∧ cstH h n = 16777216 * cnS S n + btS S n ∧ pm_cf (pm_Ev sl xs) (d + 4) 119 [.ref 40] (SH, g) = some (some (.int (nI (btS S n))), (SH, h2))) ∧ (∀ k, k < 60 ∨ 64 < k → k ≠ 39 → h2 k = g k) ∧ (∀ k, k ≠ 31 → h2 39 k = g 39 k) ∧ ∀ j, j < n → h2 61 j = WV h n j := by
  obtain ⟨g1, a1, a2, -, a4, -⟩ := c_flow2 (sl := sl) (xs := xs) (d := d + 1) hn n39 hV e8 e9 e11 e12 e13 e14 e16
  obtain ⟨f, b1, b2⟩ := bs6 (sl := sl) (xs := xs) (d := d + 2) (g := g1) (o2 := none) (o3 := none) 24 0 (g1 64) (by omega) (fun j hj => absurd hj (Nat.not_lt_zero _))
  rw [pt_self] at b1
  have ne : ∀ k, k ≠ 64 → pm_pt g1 64 f k = g1 k := fun k hk => pt_ne hk
  obtain ⟨g3, c1, c2, c3⟩ := m_few (sl := sl) (xs := xs) (d := d) (g := pm_pt g1 64 f) (n := n) (kd := h 8) (wr := h 12) (w := WV h n) (up := h 9) hn hV.up (by rw [ne 39 (by decide), a2 39 (by omega)]; exact n39) (by rw [ne 44 (by decide), a2 44 (by omega)]; exact e9) (by rw [ne 43 (by decide), a2 43 (by omega)]; exact e8) (by rw [ne 47 (by decide), a2 47 (by omega)]; exact e12) (fun j hj => by rw [ne 61 (by decide)]; exact a4 j hj)
  rw [pt_same] at c1
  have st : pm_cf (pm_Ev sl xs) (d + 4) 119 [.ref 40] (SH, g) = pm_ri (some (some (.int (nI (fewV (h 9) (canS (h 8) (h 12) (WV h n)) (lackS (h 8) (h 12) (WV h n)) n f))), (SH, g3))) SH fun x2 h1 => if x2 < nI 1000 then pm_Ev sl xs (d + 3) 119 48 [some (.ref 40), some (.int x2), some (.int (nI 0)), some (.int (h1 39 1 - nI 1))] [] (SH, h1) else some (some (.int (-nI 1)), (SH, h1)) := by
    rw [qX8_bestSet_0, a1, pm_rv_ok, b1, qX8_bestSet_6, if_pos (nI_le (by omega) (by omega)), c1]
  have g39 : g3 39 1 = nI n := by rw [c3 1 (by decide), ne 39 (by decide), a2 39 (by omega)]; exact n39
  have fr3 : ∀ k, k < 60 ∨ 64 < k → k ≠ 39 → g3 k = g k := fun k k1 k2 => by rw [c2 k (by omega) k2, ne k (by omega), a2 k (by omega)]
  have fr4 : ∀ k, k ≠ 31 → g3 39 k = g 39 k := fun k hk => by rw [c3 k hk, ne 39 (by decide), a2 39 (by omega)]
  have fr5 : ∀ j, j < n → g3 61 j = WV h n j := fun j hj => by rw [c2 61 (by decide) (by decide), ne 61 (by decide)]; exact a4 j hj
  rw [pm_ri_ok] at st
  rcases cost_find (can := canS (h 8) (h 12) (WV h n)) (lack := lackS (h 8) (h 12) (WV h n)) (m0 := f) hn hV.up (fun j hj => b2 j (by omega)) with ⟨k1, k2⟩ | ⟨S, k1, k2, k3, k4⟩
  · refine ⟨g3, Or.inl ⟨k1, ?_⟩, fr3, fr4, fr5⟩
    rw [st, k2, if_neg (by decide)]
  · have hcn := cnS_le S n
    obtain ⟨g5, d1, d2⟩ := bs48 (sl := sl) (xs := xs) (d := d) (g := g3) (n := n) (kd := h 8) (wr := h 12) (w := WV h n) (up := h 9) (S := S) hn hV.up g39 (by rw [fr3 44 (by omega) (by decide)]; exact e9) (by rw [fr3 43 (by omega) (by decide)]; exact e8) (by rw [fr3 47 (by omega) (by decide)]; exact e12) fr5 k4 n 0 0 g3 (Nat.le_refl _) ⟨fun _ _ _ _ => rfl, fun _ _ => rfl⟩ (fun p p1 p2 => by omega) (fun p hp => by rw [c2 64 (by decide) (by decide), pt_same]; exact b2 p (by omega)) (by omega) (by omega)
    refine ⟨g5, Or.inr ⟨S, k1, k2, ?_⟩, fun k h1 h2 => ?_, fun k hk => ?_, fun j hj => ?_⟩
    · rw [st, k3, if_pos (nI_lt (by omega) (by decide)), g39, d1]
    · rw [d2.1 k (by omega) h2 (by omega)]; exact fr3 k h1 h2
    · rw [d2.2 k hk]; exact fr4 k hk
    · rw [d2.1 61 (by decide) (by decide) (by decide)]; exact fr5 j hj
theorem ones_m {d : Nat} {h : pmH} {S : Nat → Bool} : ∀ (k i : Nat), i + k = 24 → pm_Ev sl xs d 120 4 [some (.int (nI (btS S 24))), some (.int (nI (cnS S i))), some (.int (nI i))] [] (SH, h) = some (some (.int (nI (cnS S 24))), (SH, h))
  | 0, i, hk => by
    have e : i = 24 := by omega
    subst e
    rw [qX8_ones_4, if_pos (nI_le (by omega) (by omega))]
  | k + 1, i, hk => by
    rw [qX8_ones_4, if_neg (nI_ge (by omega) (by omega)), bit_S (by omega), nI_add, nI_add]
    exact ones_m k (i + 1) (by omega)
theorem m_ones {d : Nat} {h : pmH} {S : Nat → Bool} {n : Nat} (hn : n ≤ 24) (hS : ∀ p, n ≤ p → S p = false) : pm_cf (pm_Ev sl xs) (d + 1) 120 [.int (nI (btS S n))] (SH, h) = some (some (.int (nI (cnS S n))), (SH, h)) := by
  obtain ⟨e1, e2⟩ := btS_ext hS (24 - n)
  rw [show n + (24 - n) = 24 by omega] at e1 e2
  rw [← e1, ← e2, qX8_ones_0]
  exact ones_m 24 0 (by omega)
/-! frames -/
theorem FR.up {g h : pmH} {k j : Nat} {x : Int32} (hf : FR g h) : FR (pm_up g k j x) (pm_up h k j x) := by
  refine ⟨fun a ha => ?_, fun p hp => ?_⟩
  · by_cases e : a = k
    · subst e; rw [pm_up_same, pm_up_same, hf.1 a ha]
    · rw [pm_up_ne e, pm_up_ne e]; exact hf.1 a ha
  · by_cases e : p.1 = k
    · have := hf.2 p hp
      rw [e] at this ⊢
      rw [pm_up_same, pm_up_same]
      by_cases e2 : p.2 = j
      · rw [e2, upd_s, upd_s]
      · rw [upd_n e2, upd_n e2]; exact this
    · rw [pm_up_ne e, pm_up_ne e]; exact hf.2 p hp
theorem FR_best {g h2 : pmH} (h1 : ∀ k, k < 60 ∨ 64 < k → k ≠ 39 → h2 k = g k) (h3 : ∀ k, k ≠ 31 → h2 39 k = g 39 k) : FR g h2 := by
  have k1 : ∀ k ∈ relA, (k < 60 ∨ 64 < k) ∧ k ≠ 39 := by decide
  have k2 : ∀ p ∈ relF, (p.1 < 60 ∧ p.1 ≠ 39) ∨ (p.1 = 39 ∧ p.2 ≠ 31) := by decide
  refine ⟨fun k hk => h1 k (k1 k hk).1 (k1 k hk).2, fun p hp => ?_⟩
  rcases k2 p hp with ⟨a, b⟩ | ⟨a, b⟩
  · rw [h1 p.1 (Or.inl a) b]
  · rw [a]; exact h3 p.2 b
theorem FR_search {h h2 : pmH} (hf : ∀ k, k < 21 ∨ 27 < k → h2 k = h k) : FR h h2 := by
  have k1 : ∀ k ∈ relA, k < 21 ∨ 27 < k := by decide
  have k2 : ∀ p ∈ relF, p.1 < 21 ∨ 27 < p.1 := by decide
  exact ⟨fun k hk => hf k (k1 k hk), fun p hp => by rw [hf p.1 (k2 p hp)]⟩
/-- both searches; g is what the reference begins from -/
theorem best_both {d : Nat} {h g : pmH} {n m q : Nat} (hi : InvN h n m q) (hg : ∀ k, (39 < k → g k = h k)) (hg39 : g 39 1 = h 39 1) :
    ∃ h2, ((cstH h n = 536870912 ∧ pm_cf (pm_Ev sl xs) (d + 4) 119 [.ref 40] (SH, g) = some (some (.int (-nI 1)), (SH, h2))) ∨ ∃ S : Nat → Bool, (∀ p, n ≤ p → S p = false) ∧ cstH h n = 16777216 * cnS S n + btS S n ∧ pm_cf (pm_Ev sl xs) (d + 4) 119 [.ref 40] (SH, g) = some (some (.int (nI (btS S n))), (SH, h2))) ∧ (∀ k, k < 60 ∨ 64 < k → k ≠ 39 → h2 k = g k) ∧ (∀ k, k ≠ 31 → h2 39 k = g 39 k) ∧ ∀ j, j < n → h2 61 j = WV h n j := by
  refine m_bestSet (h := h) hi.1.1 hi.2.2.2.1 (by rw [hg39]; exact hi.n39) ?_ ?_ ?_ ?_ ?_ ?_ ?_
  · rw [hg 43 (by decide)]; exact (hi.eq (by decide)).symm
  · rw [hg 44 (by decide)]; exact (hi.eq (by decide)).symm
  · rw [hg 46 (by decide)]; exact (hi.eq (by decide)).symm
  · rw [hg 47 (by decide)]; exact (hi.eq (by decide)).symm
  · rw [hg 48 (by decide)]; exact (hi.eq (by decide)).symm
  · rw [hg 49 (by decide)]; exact (hi.eq (by decide)).symm
  · rw [hg 53 (by decide)]; exact (hi.eq (by decide)).symm
theorem cst_lt {S : Nat → Bool} {n : Nat} (hn : n ≤ 24) : cnS S n ≤ 24 ∧ btS S n < 16777216 := ⟨Nat.le_trans (cnS_le S n) hn, Nat.lt_of_lt_of_le (btS_lt S n) (p24 hn)⟩
theorem step_fewest {a : Int32} : Step sl xs 63 121 [.int a] := by
  intro d h ⟨n, m, q, hi⟩
  have hn : n ≤ 24 := hi.1.1
  cases hr : inR a (nI 0) (nI 1) with
  | false =>
    refine ⟨-1000000001, pm_up h 1 1 (h 1 1 + nI 1), _, ?_, ?_, n, m, q, hi.fnd 1⟩
    · rw [qX7_fewest_0, c_within, pm_ri_ok, hr, bI_f, c_find (k := 1) (by decide) f_1, pm_ri_ok]
    · rw [qX8_fewest_0, c_in, pm_ri_ok, hr, bI_f, c_finds (by decide), pm_ri_ok, g_1]
  | true =>
    obtain ⟨h1, a1, a2, a3, a4⟩ := c_search (sl := sl) (xs := xs) (d := d + 35) hn hi.n7 hi.2.2.2.1
    have hi1 := hi.frame (FR_search a2)
    by_cases c : cstH h n = 536870912
    · obtain ⟨h2, b1, b2, b3, -⟩ := best_both (sl := sl) (xs := xs) (d := d + 35) (g := pm_up h1 1 2 (h1 1 2 + nI 1)) hi (fun k hk => by rw [pm_up_ne (by omega)]; exact a2 k (by omega)) (by rw [pm_up_ne (by decide), a2 39 (by omega)])
      have b1 : pm_cf (pm_Ev sl xs) (d + 35 + 4) 119 [.ref 40] (SH, pm_up h1 1 2 (h1 1 2 + nI 1)) = some (some (.int (-nI 1)), (SH, h2)) := by
        rcases b1 with ⟨-, b1⟩ | ⟨S, -, k2, -⟩
        · exact b1
        · obtain ⟨l1, l2⟩ := cst_lt (S := S) hn
          omega
      have hfr := FR_best b2 b3
      refine ⟨-1000000002, pm_up h1 1 2 (h1 1 2 + nI 1), pm_up h2 58 2 (h2 58 2 + nI 1), ?_, ?_, n, m, q, ?_⟩
      · rw [qX7_fewest_0, c_within, pm_ri_ok, hr, bI_t, a1, pm_ri_ok, show (if 536870912 ≤ cstV (h 9) (canS (h 8) (h 12) (WV h n)) (lackS (h 8) (h 12) (WV h n)) n then nI 0 else nI 1) = nI 0 from if_pos (by show 536870912 ≤ cstH h n; omega), if_pos z00, c_find (k := 2) (by decide) f_2, pm_ri_ok]
      · rw [qX8_fewest_0, c_in, pm_ri_ok, hr, bI_t, b1, pm_ri_ok, if_neg (fun z => (ge0 _).mp z neg1), c_finds (by decide), pm_ri_ok, g_2]
      · have := hi1.fnd 2
        refine this.frame ?_
        rw [show h2 58 2 = pm_up h1 1 2 (h1 1 2 + nI 1) 58 2 by rw [hfr.1 58 (by decide)]]
        exact hfr.up
    · obtain ⟨h2, b1, b2, b3, -⟩ := best_both (sl := sl) (xs := xs) (d := d + 35) (g := h1) hi (fun k hk => a2 k (by omega)) (by rw [a2 39 (by omega)])
      rcases b1 with ⟨k1, -⟩ | ⟨S, k1, k2, b1⟩
      · exact absurd k1 c
      · obtain ⟨l1, l2⟩ := cst_lt (S := S) hn
        have hx : (if 536870912 ≤ cstV (h 9) (canS (h 8) (h 12) (WV h n)) (lackS (h 8) (h 12) (WV h n)) n then nI 0 else nI 1) = nI 1 := if_neg (by show ¬ 536870912 ≤ cstH h n; omega)
        have h3 : h1 26 3 = nI (16777216 * cnS S n + btS S n) := by rw [a4, ← k2]; rfl
        have hp : 0 ≤ nI (btS S n) := (ge0 _).mpr (nI_pos (by omega))
        by_cases c0 : a = nI 0
        · subst c0
          refine ⟨nI (cnS S n), h1, h2, ?_, ?_, n, m, q, hi1.frame (FR_best b2 b3)⟩
          · rw [qX7_fewest_0, c_within, pm_ri_ok, hr, bI_t, a1, pm_ri_ok, hx, if_neg z10, if_pos z00, qX3_howMany_0, pm_ri_ok, h3, cst_many l1 l2]
          · rw [qX8_fewest_0, c_in, pm_ri_ok, hr, bI_t, b1, pm_ri_ok, if_pos hp, if_pos z00, m_ones hn k1, pm_ri_ok]
        · refine ⟨nI (btS S n), h1, h2, ?_, ?_, n, m, q, hi1.frame (FR_best b2 b3)⟩
          · rw [qX7_fewest_0, c_within, pm_ri_ok, hr, bI_t, a1, pm_ri_ok, hx, if_neg z10, if_neg (show ¬ a = 0 from c0), qX3_asBits_0, pm_ri_ok, h3, cst_bits l1 l2]
          · rw [qX8_fewest_0, c_in, pm_ri_ok, hr, bI_t, b1, pm_ri_ok, if_pos hp, if_neg (show ¬ a = 0 from c0)]
end BEST
