/-! the reference's search -/
theorem nI_or (a b : Nat) : nI a ||| nI b = nI (a ||| b) := by
  apply Int32.toBitVec_inj.1
  show BitVec.ofNat 32 a ||| BitVec.ofNat 32 b = BitVec.ofNat 32 (a ||| b)
  apply BitVec.eq_of_getLsbD_eq
  intro i hi
  simp [hi]
theorem nI_put {b s : Nat} : nI (2 ^ (s + 1) * b) ||| nI (2 ^ s) = nI (2 ^ (s + 1) * b + 2 ^ s) := by
  have h : 2 ^ s < 2 ^ (s + 1) := Nat.pow_lt_pow_right (by decide) (by omega)
  rw [nI_or, Nat.mul_comm, ← Nat.shiftLeft_eq, Nat.shiftLeft_add_eq_or_of_lt h]
def RBm (f : Nat → Int32) (b : Nat → Nat → Nat) (n : Nat) : Prop := ∀ p a, p < n → (a < n ∨ a = 24) → f (25 * p + a) = nI (min 1000 (b p a))
def mlB (m kd wr w : Nat → Int32) (s a : Nat) : Bool := decide (¬ m s = nI 1 ∧ ¬ kd s = nI 1 ∧ a < 24 ∧ ¬ nI 500 * wr s < w a)
def mhB (m kd wr w : Nat → Int32) (s : Nat) : Bool := decide (¬ m s = nI 2 ∧ canS kd wr w s = true)
theorem cap_step {K B O L X Y : Nat} (h1 : min K O = min K X) (h2 : min K L = min K Y) : min K (min K B + min O L) = min K (B + min X Y) := by
  rw [Nat.add_comm, cap_add]
  have e : min K (min O L) = min K (min X Y) := by
    rw [← Nat.min_self K, Nat.min_assoc, ← Nat.min_assoc K O L, h1, Nat.min_assoc K X L, ← Nat.min_assoc K K, Nat.min_self, Nat.min_left_comm K X L, h2, Nat.min_left_comm X K Y]
  rw [Nat.add_comm (min O L) B, ← cap_add K B (min O L), e, cap_add]
section FEW
variable {sl : Nat} {xs : Nat → Int32}
theorem m_lack {d : Nat} {g : pmH} {n s a : Nat} {m kd wr : Nat → Int32} (hn : n ≤ 24) (hs : s < n) (ha : a ≤ 24) (e64 : g 64 = m) (e8 : g 43 = kd) (e12 : g 47 = wr) : pm_cf (pm_Ev sl xs) (d + 2) 117 [.ref 40, .int (nI s), .int (nI a)] (SH, g) = some (some (.int (bI (mlB m kd wr (g 61) s a))), (SH, g)) := by
  have ix : ∀ (t : Nat → Option pmR), pm_ix none (nI s) 24 t = t s := fun t => pm_ix_nI (by omega) (by decide)
  rw [qX8_mayLack_0, ix, ix, e64, e8]
  unfold mlB
  by_cases c1 : m s = nI 1
  · rw [if_pos c1, decide_eq_false (fun z => z.1 c1)]; rfl
  · rw [if_neg c1]
    by_cases c2 : kd s = nI 1
    · rw [if_pos c2, decide_eq_false (fun z => z.2.1 c2)]; rfl
    · rw [if_neg c2]
      by_cases c3 : 24 ≤ a
      · rw [if_pos (nI_le c3 (by omega)), decide_eq_false (fun z => by have := z.2.2.1; omega)]; rfl
      · rw [if_neg (nI_ge (by omega) (by omega)), pm_ix_nI (by omega) (by decide), qX8_bears_0, ix, pm_ri_ok, e12]
        by_cases c4 : nI 500 * wr s < g 61 a
        · rw [if_pos c4, decide_eq_false (fun z => z.2.2.2 c4)]; rfl
        · rw [if_neg c4, decide_eq_true ⟨c1, c2, by omega, c4⟩]; rfl
theorem m_have {d : Nat} {g : pmH} {n s : Nat} {m kd wr w : Nat → Int32} (hn : n ≤ 24) (hs : s < n) (e64 : g 64 = m) (e8 : g 43 = kd) (e12 : g 47 = wr) (e61 : g 61 s = w s) : pm_cf (pm_Ev sl xs) (d + 2) 116 [.ref 40, .int (nI s)] (SH, g) = some (some (.int (bI (mhB m kd wr w s))), (SH, g)) := by
  have ix : ∀ (t : Nat → Option pmR), pm_ix none (nI s) 24 t = t s := fun t => pm_ix_nI (by omega) (by decide)
  rw [qX8_mayHave_0, ix, ix, e64]
  unfold mhB
  by_cases c1 : m s = nI 2
  · rw [if_pos c1, decide_eq_false (fun z => z.1 c1)]; rfl
  · rw [if_neg c1, qX8_bears_0, ix, pm_ri_ok, e12, e61]
    by_cases c2 : nI 500 * wr s < w s
    · rw [if_pos c2, decide_eq_false (fun z => canS_f (Or.inl c2) z.2)]; rfl
    · rw [if_neg c2, ix, e8]
      by_cases c3 : kd s = nI 1
      · rw [if_pos c3, ix, e61]
        by_cases c4 : nI 500 < w s
        · rw [if_pos c4, decide_eq_false (fun z => canS_f (Or.inr ⟨c3, (i_lt _ _).mp c4⟩) z.2)]; rfl
        · rw [if_neg c4, decide_eq_true ⟨c1, canS_t c2 (fun _ => Classical.byContradiction fun k => c4 ((i_lt _ _).mpr k))⟩]; rfl
      · rw [if_neg c3, decide_eq_true ⟨c1, canS_t c2 (fun z => absurd z c3)⟩]; rfl
def fwX (lk : Bool) (x y o : Int32) : Int32 := if x + (if (if lk = true then y else nI 1000) ≤ o then (if lk = true then y else nI 1000) else o) ≤ nI 1000 then x + (if (if lk = true then y else nI 1000) ≤ o then (if lk = true then y else nI 1000) else o) else nI 1000
theorem few_turn {d : Nat} {g : pmH} {n s a u : Nat} {f r m kd wr up : Nat → Int32} {o : Int32} {o4 o5 : Option Value} (hn : n ≤ 24) (hs : s < n) (ha : a < 25) (hu : u < s) (e9 : g 44 = up) (eu : up s = nI u) (e64 : g 64 = m) (e8 : g 43 = kd) (e12 : g 47 = wr) : ∃ p4 p5, pm_Ev sl xs (d + 2) 118 90 [some (.ref 40), some (.int (nI s)), some (.int o), some (.int (nI a)), o4, o5] [] (SH, pP g 63 f 39 r) = pm_Ev sl xs (d + 2) 118 90 [some (.ref 40), some (.int (nI s)), some (.int o), some (.int (nI (a + 1))), p4, p5] [] (SH, pP g 63 (upd f (25 * u + a) (fwX (mlB m kd wr (g 61) s a) (f (25 * u + a)) (f (25 * s + a)) o)) 39 r) := by
  have ix : ∀ (t : Nat → Option pmR), pm_ix none (nI s) 24 t = t s := fun t => pm_ix_nI (by omega) (by decide)
  have iu : ∀ (t : Nat → Option pmR), pm_ix none (nI 25 * nI u + nI a) 600 t = t (25 * u + a) := fun t => by
    rw [pk_mul, nI_add]; exact pm_ix_nI (by omega) (by decide)
  have is : ∀ (t : Nat → Option pmR), pm_ix none (nI 25 * nI s + nI a) 600 t = t (25 * s + a) := fun t => by
    rw [pk_mul, nI_add]; exact pm_ix_nI (by omega) (by decide)
  have ml := m_lack (sl := sl) (xs := xs) (d := d) (g := pP g 63 f 39 r) (a := a) (m := m) (kd := kd) (wr := wr) hn hs (by omega) (by rw [pP_ne (by decide) (by decide)]; exact e64) (by rw [pP_ne (by decide) (by decide)]; exact e8) (by rw [pP_ne (by decide) (by decide)]; exact e12)
  rw [pP_ne (k := 61) (by decide) (by decide)] at ml
  rw [qX8_few_90, if_neg (nI_ge (by omega) (by omega)), ml, pm_ri_ok, bI_if, pP_ne (k := 44) (by decide) (by decide), e9, pP_a (by decide), nI_add]
  unfold fwX
  cases hm : mlB m kd wr (g 61) s a with
  | true =>
    rw [if_pos rfl, if_pos rfl, is, ix, eu, iu]
    by_cases c1 : f (25 * s + a) ≤ o
    · rw [if_pos c1, if_pos c1, ix, eu, iu]
      by_cases c2 : f (25 * u + a) + f (25 * s + a) ≤ nI 1000
      · rw [if_pos c2, if_pos c2, pP_ua (by decide)]; exact ⟨_, _, rfl⟩
      · rw [if_neg c2, if_neg c2, iu, pP_ua (by decide)]; exact ⟨_, _, rfl⟩
    · rw [if_neg c1, if_neg c1, ix, eu, iu]
      by_cases c2 : f (25 * u + a) + o ≤ nI 1000
      · rw [if_pos c2, if_pos c2, pP_ua (by decide)]; exact ⟨_, _, rfl⟩
      · rw [if_neg c2, if_neg c2, iu, pP_ua (by decide)]; exact ⟨_, _, rfl⟩
  | false =>
    rw [if_neg (show ¬ false = true by decide), if_neg (show ¬ false = true by decide), ix, eu, iu]
    by_cases c1 : nI 1000 ≤ o
    · rw [if_pos c1, if_pos c1, ix, eu, iu]
      by_cases c2 : f (25 * u + a) + nI 1000 ≤ nI 1000
      · rw [if_pos c2, if_pos c2, pP_ua (by decide)]; exact ⟨_, _, rfl⟩
      · rw [if_neg c2, if_neg c2, iu, pP_ua (by decide)]; exact ⟨_, _, rfl⟩
    · rw [if_neg c1, if_neg c1, ix, eu, iu]
      by_cases c2 : f (25 * u + a) + o ≤ nI 1000
      · rw [if_pos c2, if_pos c2, pP_ua (by decide)]; exact ⟨_, _, rfl⟩
      · rw [if_neg c2, if_neg c2, iu, pP_ua (by decide)]; exact ⟨_, _, rfl⟩
theorem fwX_nI {lk : Bool} {x y o : Nat} (hx : x ≤ 1000) (hy : y ≤ 1000) (ho : o ≤ 1001) : fwX lk (nI x) (nI y) (nI o) = nI (min 1000 (x + min o (if lk = true then y else 1000))) := by
  have e : (if lk = true then nI y else nI 1000) = nI (if lk = true then y else 1000) := by cases lk <;> rfl
  have hz : (if lk = true then y else 1000) ≤ 1000 := by
    cases lk
    · exact Nat.le_refl _
    · exact hy
  unfold fwX
  rw [e]
  generalize (if lk = true then y else 1000) = z at hz ⊢
  have e2 : (if nI z ≤ nI o then nI z else nI o) = nI (min o z) := by
    by_cases c : z ≤ o
    · rw [if_pos (nI_le c (by omega)), Nat.min_eq_right c]
    · rw [if_neg (nI_ge (by omega) (by omega)), Nat.min_eq_left (by omega)]
  rw [e2, nI_add]
  by_cases c : x + min o z ≤ 1000
  · rw [if_pos (nI_le c (by omega)), Nat.min_eq_right c]
  · rw [if_neg (nI_ge (by omega) (by omega)), Nat.min_eq_left (by omega)]
theorem few90 {d : Nat} {g : pmH} {n s u O : Nat} {b : Nat → Nat → Nat} {r m kd wr w up : Nat → Int32} (hn : n ≤ 24) (hs : s < n) (hu : u < s) (e9 : g 44 = up) (eu : up s = nI u) (eu2 : upI up s = u) (e64 : g 64 = m) (e8 : g 43 = kd) (e12 : g 47 = wr) (e61 : ∀ j, j < n → g 61 j = w j) (hO : O ≤ 1001) (hO2 : min 1000 O = min 1000 (hvR (canS kd wr w) m s + b s s)) : ∀ (k a : Nat) (f : Nat → Int32) (o4 o5 : Option Value), a + k = 25 → RBm f (mixB b (bPut up (hvR (canS kd wr w) m) (lcR (lackS kd wr w) m) b s) a) n →
    ∃ f2 p3 p4 p5, pm_Ev sl xs (d + 2) 118 90 [some (.ref 40), some (.int (nI s)), some (.int (nI O)), some (.int (nI a)), o4, o5] [] (SH, pP g 63 f 39 r) = pm_Ev sl xs (d + 2) 118 34 [some (.ref 40), some (.int (nI s - nI 1)), some (.int (nI O)), p3, p4, p5] [] (SH, pP g 63 f2 39 r) ∧ RBm f2 (bPut up (hvR (canS kd wr w) m) (lcR (lackS kd wr w) m) b s) n
  | 0, a, f, o4, o5, hk, hf => by
    refine ⟨f, some (.int (nI a)), o4, o5, ?_, fun p c hp hc => ?_⟩
    · rw [qX8_few_90, if_pos (nI_le (by omega) (by omega)), m1]
    · rw [hf p c hp hc]
      unfold mixB
      rw [if_pos (by omega)]
  | k + 1, a, f, o4, o5, hk, hf => by
    obtain ⟨p4, p5, t1⟩ := few_turn (sl := sl) (xs := xs) (d := d) (g := g) (f := f) (r := r) (o := nI O) (o4 := o4) (o5 := o5) hn hs (show a < 25 by omega) hu e9 eu e64 e8 e12
    rw [t1]
    refine few90 hn hs hu e9 eu eu2 e64 e8 e12 e61 hO hO2 k (a + 1) _ _ _ (by omega) (fun p c hp hc => ?_)
    by_cases e : p = u ∧ c = a
    · obtain ⟨rfl, rfl⟩ := e
      have fs : f (25 * s + c) = nI (min 1000 (b s c)) := by
        rw [hf s c hs hc]; unfold mixB; rw [if_neg (Nat.lt_irrefl _)]
      have fu : f (25 * p + c) = nI (min 1000 (b p c)) := by
        rw [hf p c hp hc]; unfold mixB; rw [if_neg (Nat.lt_irrefl _)]
      have hml : mlB m kd wr (g 61) s c = true ↔ (¬ m s = nI 1 ∧ c < 24 ∧ lackS kd wr w s c = true) := by
        unfold mlB lackS
        simp only [decide_eq_true_eq]
        constructor
        · intro ⟨k1, k2, k3, k4⟩
          rw [e61 c (by omega)] at k4
          exact ⟨k1, k3, k2, Classical.byContradiction fun z => k4 ((i_lt _ _).mpr z)⟩
        · intro ⟨k1, k3, k2, k4⟩
          rw [e61 c (by omega)]
          exact ⟨k1, k2, k3, fun z => (i_lt _ _).mp z k4⟩
      rw [upd_s, fu, fs, fwX_nI (by omega) (by omega) hO]
      unfold mixB
      rw [if_pos (Nat.lt_succ_self _)]
      unfold bPut
      rw [if_pos eu2.symm]
      congr 1
      refine cap_step hO2 ?_
      unfold lcR
      by_cases z : ¬ m s = nI 1 ∧ c < 24 ∧ lackS kd wr w s c = true
      · rw [if_pos z, if_pos (hml.mpr z), Nat.zero_add, ← Nat.min_assoc, Nat.min_self]
      · rw [if_neg z, if_neg (fun k => z (hml.mp k))]
        omega
    · have hne : 25 * p + c ≠ 25 * u + a := by
        have : c ≤ 24 := by omega
        omega
      rw [upd_n hne, hf p c hp hc]
      unfold mixB
      by_cases e2 : c = a
      · subst e2
        rw [if_neg (Nat.lt_irrefl _), if_pos (Nat.lt_succ_self _)]
        unfold bPut
        rw [if_neg (fun z => e ⟨by omega, rfl⟩)]
      · by_cases e3 : c < a
        · rw [if_pos e3, if_pos (by omega)]
        · rw [if_neg e3, if_neg (by omega)]
theorem few34 {d : Nat} {g : pmH} {n : Nat} {m kd wr w up : Nat → Int32} (hn : n ≤ 24) (hU : UPok up n) (e9 : g 44 = up) (e64 : g 64 = m) (e8 : g 43 = kd) (e12 : g 47 = wr) (e61 : ∀ j, j < n → g 61 j = w j) : ∀ (i A : Nat) (b : Nat → Nat → Nat) (t : Nat) (f r : Nat → Int32) (o2 o3 o4 o5 : Option Value), i ≤ n → RBm f b n → r 31 = nI A → min 1000 A = min 1000 t → A ≤ 1001 * (24 - i) →
    ∃ f2 r2, pm_Ev sl xs (d + 2) 118 34 [some (.ref 40), some (.int (nI i - nI 1)), o2, o3, o4, o5] [] (SH, pP g 63 f 39 r) = some (some (.int (nI (min 1000 (dpB up (hvR (canS kd wr w) m) (lcR (lackS kd wr w) m) i b t)))), (SH, pP g 63 f2 39 r2)) ∧ ∀ k, k ≠ 31 → r2 k = r k
  | 0, A, b, t, f, r, o2, o3, o4, o5, _, hf, hr, hA, hA2 => by
    refine ⟨f, r, ?_, fun _ _ => rfl⟩
    rw [qX8_few_34, if_pos (by decide), pP_b, hr, dpB, ← hA]
    by_cases c : A ≤ 1000
    · rw [if_pos (nI_le c (by omega)), Nat.min_eq_right c]
    · rw [if_neg (nI_ge (by omega) (by omega)), Nat.min_eq_left (by omega)]
  | s + 1, A, b, t, f, r, o2, o3, o4, o5, hi, hf, hr, hA, hA2 => by
    have ix : ∀ (t : Nat → Option pmR), pm_ix none (nI s) 24 t = t s := fun t => pm_ix_nI (by omega) (by decide)
    have is : ∀ (t : Nat → Option pmR), pm_ix none (nI 25 * nI s + nI s) 600 t = t (25 * s + s) := fun t => by
      rw [pk_mul, nI_add]; exact pm_ix_nI (by omega) (by decide)
    have mh := m_have (sl := sl) (xs := xs) (d := d) (g := pP g 63 f 39 r) (s := s) (w := w) (m := m) (kd := kd) (wr := wr) hn (by omega) (by rw [pP_ne (by decide) (by decide)]; exact e64) (by rw [pP_ne (by decide) (by decide)]; exact e8) (by rw [pP_ne (by decide) (by decide)]; exact e12) (by rw [pP_ne (by decide) (by decide)]; exact e61 s (by omega))
    have fss : f (25 * s + s) = nI (min 1000 (b s s)) := hf s s (by omega) (Or.inl (by omega))
    obtain ⟨O, hO⟩ : ∃ O, O = (if mhB m kd wr w s = true then 1 + min 1000 (b s s) else 1000) := ⟨_, rfl⟩
    have hO1 : O ≤ 1001 := by
      rw [hO]
      cases mhB m kd wr w s
      · exact (by decide : 1000 ≤ 1001)
      · show 1 + min 1000 (b s s) ≤ 1001
        omega
    have hO2 : min 1000 O = min 1000 (hvR (canS kd wr w) m s + b s s) := by
      rw [hO]
      unfold hvR
      cases z : mhB m kd wr w s with
      | true =>
        rw [if_pos rfl, if_pos (of_decide_eq_true z), cap_add]
      | false =>
        rw [if_neg (by decide), if_neg (of_decide_eq_false z)]
        omega
    -- both ways on
    have rt : ∀ (f r : Nat → Int32) (o2 o3 o4 o5 : Option Value), up s < 0 → RBm f b n → r 31 = nI A → ∃ f2 r2, pm_Ev sl xs (d + 2) 118 34 [some (.ref 40), some (.int (nI s - nI 1)), o2, o3, o4, o5] [] (SH, pP g 63 f 39 (upd r 31 (nI A + nI O))) = some (some (.int (nI (min 1000 (dpB up (hvR (canS kd wr w) m) (lcR (lackS kd wr w) m) (s + 1) b t)))), (SH, pP g 63 f2 39 r2)) ∧ ∀ k, k ≠ 31 → r2 k = r k := fun f r o2 o3 o4 o5 hu hf hr => by
      obtain ⟨f2, r2, k1, k2⟩ := few34 (d := d) hn hU e9 e64 e8 e12 e61 s (A + O) b (t + (hvR (canS kd wr w) m s + b s s)) f (upd r 31 (nI A + nI O)) o2 o3 o4 o5 (by omega) hf (by rw [upd_s, nI_add]) (by
        rw [← cap_add 1000 A O, hO2, cap_add, Nat.add_comm A, ← cap_add 1000 _ A, hA, cap_add, Nat.add_comm]) (by omega)
      refine ⟨f2, r2, ?_, fun k hk => by rw [k2 k hk, upd_n hk]⟩
      rw [k1, dpB, if_pos hu]
    have nr : ∀ (o4 o5 : Option Value), ¬ up s < 0 → ∃ f2 r2, pm_Ev sl xs (d + 2) 118 90 [some (.ref 40), some (.int (nI s)), some (.int (nI O)), some (.int (nI 0)), o4, o5] [] (SH, pP g 63 f 39 r) = some (some (.int (nI (min 1000 (dpB up (hvR (canS kd wr w) m) (lcR (lackS kd wr w) m) (s + 1) b t)))), (SH, pP g 63 f2 39 r2)) ∧ ∀ k, k ≠ 31 → r2 k = r k := fun o4 o5 hu => by
      obtain ⟨h1, h2⟩ := hU.lt hn (show s < n by omega) hu
      obtain ⟨f1, p3, p4, p5, j1, j2⟩ := few90 (sl := sl) (xs := xs) (d := d) (g := g) (r := r) (b := b) (w := w) hn (show s < n by omega) h1 e9 h2 rfl e64 e8 e12 e61 hO1 hO2 25 0 f o4 o5 (by omega) (fun p c hp hc => by rw [hf p c hp hc]; unfold mixB; rw [if_neg (Nat.not_lt_zero _)])
      obtain ⟨f2, r2, k1, k2⟩ := few34 (d := d) hn hU e9 e64 e8 e12 e61 s A _ t f1 r (some (.int (nI O))) p3 p4 p5 (by omega) j2 hr hA (by omega)
      refine ⟨f2, r2, ?_, k2⟩
      rw [j1, k1, dpB, if_neg hu]
    rw [pk_sub (by omega), Nat.add_sub_cancel, qX8_few_34, if_neg (nI_pos (by omega)), mh, pm_ri_ok, bI_if, pP_ne (k := 44) (by decide) (by decide), e9, pP_a (by decide), pP_b, m1]
    cases z : mhB m kd wr w s with
    | true =>
      have hOv : nI 1 + f (25 * s + s) = nI O := by rw [fss, nI_add, hO, z, if_pos rfl]
      rw [if_pos rfl, is, ix, hOv]
      by_cases hu : up s < 0
      · rw [if_neg (fun z => (ge0 _).mp z hu), pP_ub, hr]
        exact rt f r _ _ _ _ hu hf hr
      · rw [if_pos ((ge0 _).mpr hu)]
        exact nr _ _ hu
    | false =>
      have hOv : nI 1000 = nI O := by rw [hO, z, if_neg (by decide)]
      rw [if_neg (by decide), ix, hOv]
      by_cases hu : up s < 0
      · rw [if_neg (fun z => (ge0 _).mp z hu), pP_ub, hr]
        exact rt f r _ _ _ _ hu hf hr
      · rw [if_pos ((ge0 _).mpr hu)]
        exact nr _ _ hu
theorem few2 {d : Nat} {g : pmH} {o2 o3 o4 o5 : Option Value} : ∀ (k i : Nat) (f : Nat → Int32), i + k = 600 → (∀ j, j < i → f j = nI 0) → ∃ f2, pm_Ev sl xs (d + 1) 118 2 [some (.ref 40), some (.int (nI i)), o2, o3, o4, o5] [] (SH, pm_pt g 63 f) = pm_Ev sl xs (d + 1) 118 34 [some (.ref 40), some (.int (g 39 1 - nI 1)), o2, o3, o4, o5] [] (SH, pm_up (pm_pt g 63 f2) 39 31 (nI 0)) ∧ ∀ j, j < 600 → f2 j = nI 0
  | 0, i, f, hk, hf => by
    refine ⟨f, ?_, fun j hj => hf j (by omega)⟩
    rw [qX8_few_2, if_pos (nI_le (by omega) (by omega)), pt_ne (a := 39) (by decide)]
  | k + 1, i, f, hk, hf => by
    rw [qX8_few_2, if_neg (nI_ge (by omega) (by omega)), pm_ix_nI (by omega) (by decide), pt_up, nI_add]
    refine few2 k (i + 1) _ (by omega) (fun j hj => ?_)
    by_cases e : j = i
    · subst e; rw [upd_s]
    · rw [upd_n e]; exact hf j (by omega)
theorem m_few {d : Nat} {g : pmH} {n : Nat} {kd wr w up : Nat → Int32} (hn : n ≤ 24) (hU : UPok up n) (n39 : g 39 1 = nI n) (e9 : g 44 = up) (e8 : g 43 = kd) (e12 : g 47 = wr) (e61 : ∀ j, j < n → g 61 j = w j) : ∃ g2, pm_cf (pm_Ev sl xs) (d + 3) 118 [.ref 40] (SH, g) = some (some (.int (nI (fewV up (canS kd wr w) (lackS kd wr w) n (g 64)))), (SH, g2)) ∧ (∀ k, k ≠ 63 → k ≠ 39 → g2 k = g k) ∧ ∀ k, k ≠ 31 → g2 39 k = g 39 k := by
  obtain ⟨f, a1, a2⟩ := few2 (sl := sl) (xs := xs) (d := d + 1) (g := g) (o2 := none) (o3 := none) (o4 := none) (o5 := none) 600 0 (g 63) (by omega) (fun j hj => absurd hj (Nat.not_lt_zero _))
  rw [pt_self] at a1
  have e0 : pm_up (pm_pt g 63 f) 39 31 (nI 0) = pP g 63 f 39 (upd (g 39) 31 (nI 0)) := by
    funext k
    unfold pP pm_up pm_pt
    by_cases h1 : k = 39
    · subst h1; simp
    · simp [h1]
  obtain ⟨f2, r2, k1, k2⟩ := few34 (sl := sl) (xs := xs) (d := d) (g := g) (w := w) hn hU e9 rfl e8 e12 e61 n 0 (fun _ _ => 0) 0 f (upd (g 39) 31 (nI 0)) none none none none (Nat.le_refl _) (fun p a hp ha => by
    show f (25 * p + a) = nI 0
    exact a2 _ (by omega)) (by rw [upd_s]) rfl (by omega)
  refine ⟨pP g 63 f2 39 r2, ?_, fun k h1 h2 => pP_ne h1 h2, fun k hk => ?_⟩
  · rw [qX8_few_0, a1, e0, n39, k1]
    rfl
  · rw [pP_b, k2 k hk, upd_n hk]
end FEW
