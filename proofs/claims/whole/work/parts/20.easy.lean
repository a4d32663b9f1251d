/-! small contracts; the calls that only look at numbers and put them -/
def bI (b : Bool) : Int32 := if b = true then nI 1 else nI 0
theorem bI_if {α : Type} (b : Bool) (x y : α) : (if bI b = 0 then x else y) = if b = true then y else x := by cases b <;> rfl
theorem bI_01 (b : Bool) : bI b = 0 ∨ bI b = 1 := by cases b <;> first | exact Or.inl rfl | exact Or.inr rfl
def inR (a lo hi : Int32) : Bool := decide (¬ a < lo) && decide (¬ hi < a)
theorem inR_nat {a : Int32} {lo hi : Nat} (hb : hi < 2 ^ 31) (hl : lo ≤ hi) (h : inR a (nI lo) (nI hi) = true) : ∃ j, lo ≤ j ∧ j ≤ hi ∧ a = nI j := by
  unfold inR at h
  simp only [Bool.and_eq_true, decide_eq_true_eq, Int32.lt_iff_toInt_lt] at h
  rw [nI_toInt (by omega), nI_toInt hb] at h
  refine ⟨a.toInt.toNat, by omega, by omega, ?_⟩
  rw [← Int32.toInt_inj, nI_toInt (by omega)]
  omega
theorem inR_of {j lo hi : Nat} (h1 : lo ≤ j) (h2 : j ≤ hi) (hb : hi < 2 ^ 31) : inR (nI j) (nI lo) (nI hi) = true := by
  unfold inR
  simp only [Bool.and_eq_true, decide_eq_true_eq, Int32.lt_iff_toInt_lt]
  rw [nI_toInt (by omega), nI_toInt (by omega), nI_toInt hb]
  omega
def inS (a : Int32) (n : Nat) : Bool := decide (¬ a < 0) && decide (¬ nI n ≤ a)
theorem inS_nat {a : Int32} {n : Nat} (hb : n < 2 ^ 31) (h : inS a n = true) : ∃ j, j < n ∧ a = nI j := by
  unfold inS at h
  simp only [Bool.and_eq_true, decide_eq_true_eq, Int32.lt_iff_toInt_lt, Int32.le_iff_toInt_le] at h
  rw [nI_toInt hb, Int32.toInt_zero] at h
  refine ⟨a.toInt.toNat, by omega, ?_⟩
  rw [← Int32.toInt_inj, nI_toInt (by omega)]
  omega
theorem inS_of {j n : Nat} (h : j < n) (hb : n < 2 ^ 31) : inS (nI j) n = true := by
  unfold inS
  simp only [Bool.and_eq_true, decide_eq_true_eq, Int32.lt_iff_toInt_lt, Int32.le_iff_toInt_le]
  rw [nI_toInt hb, nI_toInt (by omega), Int32.toInt_zero]
  omega
theorem inR_S {a : Int32} {n : Nat} (hn : n < 2 ^ 30) : inR a (nI 0) (nI n - nI 1) = inS a n := by
  have h1 : (nI n - nI 1).toInt = (n : Int) - 1 := pk_sub_toInt hn (by decide)
  unfold inR inS
  rw [Bool.eq_iff_iff]
  simp only [Bool.and_eq_true, decide_eq_true_eq, Int32.lt_iff_toInt_lt, Int32.le_iff_toInt_le]
  rw [h1, nI_toInt (by omega), nI_toInt (by omega), Int32.toInt_zero]
  omega
section EASY
variable {sl : Nat} {xs : Nat → Int32} {d : Nat} {h : pmH}
theorem c_within {a lo hi : Int32} : pm_cf (pm_Ev sl xs) (d + 1) 86 [.int a, .int lo, .int hi] (SH, h) = some (some (.int (bI (inR a lo hi))), (SH, h)) := by
  rw [qX7_within_0]; unfold inR bI
  by_cases h1 : a < lo
  · simp [h1]
  · by_cases h2 : hi < a <;> simp [h1, h2]
theorem c_in {a lo hi : Int32} : pm_cf (pm_Ev sl xs) (d + 1) 95 [.int a, .int lo, .int hi] (SH, h) = some (some (.int (bI (inR a lo hi))), (SH, h)) := by
  rw [qX8_in_0]; unfold inR bI
  by_cases h1 : a < lo
  · simp [h1]
  · by_cases h2 : hi < a <;> simp [h1, h2]
theorem c_has {a : Int32} {n : Nat} (hn : h 7 0 = nI n) : pm_cf (pm_Ev sl xs) (d + 1) 40 [.ref 8, .int a] (SH, h) = some (some (.int (bI (inS a n))), (SH, h)) := by
  rw [qX5_has_0, hn]; unfold inS bI
  by_cases h1 : a < 0
  · simp [h1]
  · by_cases h2 : nI n ≤ a <;> simp [h1, h2]
theorem c_isS {a : Int32} {n : Nat} (hn : h 39 1 = nI n) (hb : n ≤ 24) : pm_cf (pm_Ev sl xs) (d + 2) 97 [.ref 40, .int a] (SH, h) = some (some (.int (bI (inS a n))), (SH, h)) := by
  rw [qX8_isString_0, hn, c_in, pm_ri_ok, inR_S (by omega), if_pos (bI_01 _)]
theorem c_find {a : Int32} {k : Nat} (hk : 1 ≤ k ∧ k ≤ 5) (ha : -1000000000 - a = nI k) : pm_cf (pm_Ev sl xs) (d + 2) 85 [.ref 1, .int a] (SH, h) = some (some (.int a), (SH, pm_up h 1 k (h 1 k + nI 1))) := by
  rw [qX7_finding_0, ha, c_within, pm_ri_ok, bI_if, if_pos (inR_of hk.1 hk.2 (by decide)), pm_ix_nI (by omega) (by decide), pm_ix_nI (by omega) (by decide)]
theorem c_finds {k : Nat} (hk : k ≤ 5) : pm_cf (pm_Ev sl xs) (d + 1) 96 [.ref 40, .int (nI k)] (SH, h) = some (some (.int (-1000000000 - nI k)), (SH, pm_up h 58 k (h 58 k + nI 1))) := by
  rw [qX8_finds_0, pm_ix_nI (by omega) (by decide), pm_ix_nI (by omega) (by decide)]
end EASY
theorem f_1 : (-1000000000 : Int32) - (-1000000001) = nI 1 := by decide
theorem f_2 : (-1000000000 : Int32) - (-1000000002) = nI 2 := by decide
theorem f_3 : (-1000000000 : Int32) - (-1000000003) = nI 3 := by decide
theorem f_4 : (-1000000000 : Int32) - (-1000000004) = nI 4 := by decide
theorem f_5 : (-1000000000 : Int32) - (-1000000005) = nI 5 := by decide
theorem g_1 : (-1000000000 : Int32) - nI 1 = -1000000001 := by decide
theorem g_2 : (-1000000000 : Int32) - nI 2 = -1000000002 := by decide
theorem g_3 : (-1000000000 : Int32) - nI 3 = -1000000003 := by decide
theorem g_4 : (-1000000000 : Int32) - nI 4 = -1000000004 := by decide
theorem g_5 : (-1000000000 : Int32) - nI 5 = -1000000005 := by decide
/-! the invariant's parts, kept where their cells are -/
def VA (h : pmH) (n m : Nat) : Prop := VS h n ∧ V0 h n ∧ VC h m ∧ VL h n m ∧ VP h n ∧ VH h n m
def relB : List Nat := [4, 6, 8, 9, 10, 11, 12, 13, 14, 15, 16, 19, 30]
theorem InvN.of {h : pmH} {n m q : Nat} (hb : n ≤ 24 ∧ m ≤ 12 ∧ q ≤ 24) (hE : EQ h) (hS : SC h n m q) (hA : VA h n m) (hN : VN h) (hB : VB h) : InvN h n m q :=
  ⟨hb, hE, hS, hA.1, hA.2.1, hA.2.2.1, hA.2.2.2.1, hA.2.2.2.2.1, hA.2.2.2.2.2, hN, hB⟩
theorem InvN.to {h : pmH} {n m q : Nat} (hi : InvN h n m q) : (n ≤ 24 ∧ m ≤ 12 ∧ q ≤ 24) ∧ EQ h ∧ SC h n m q ∧ VA h n m ∧ VN h ∧ VB h := by
  obtain ⟨hb, hE, hS, h1, h2, h3, h4, h5, h6, hN, hB⟩ := hi
  exact ⟨hb, hE, hS, ⟨h1, h2, h3, h4, h5, h6⟩, hN, hB⟩
theorem VA.frame {h h2 : pmH} {n m : Nat} (hf1 : ∀ k ∈ relB, h2 k = h k) (hA : VA h n m) : VA h2 n m := by
  obtain ⟨hVS, hV0, hVC, hVL, hVP, hVH⟩ := hA
  have e4 := hf1 4 (by decide); have e6 := hf1 6 (by decide)
  have e8 := hf1 8 (by decide); have e9 := hf1 9 (by decide); have e10 := hf1 10 (by decide); have e11 := hf1 11 (by decide)
  have e12 := hf1 12 (by decide); have e13 := hf1 13 (by decide); have e14 := hf1 14 (by decide); have e15 := hf1 15 (by decide)
  have e16 := hf1 16 (by decide); have e19 := hf1 19 (by decide); have e30 := hf1 30 (by decide)
  refine ⟨?_, ?_, ?_, ?_, ?_, ?_⟩
  · unfold VS; rw [e8, e9, e10, e11, e12, e13, e14, e15, e16]; exact hVS
  · unfold V0; rw [e15, e16]; exact hV0
  · unfold VC; rw [e4]; exact hVC
  · unfold VL; rw [e13, e19]; exact hVL
  · unfold VP; rw [e30]; exact hVP
  · intro c hc; rw [e6, cntS_cg e13 e19]; exact hVH c hc
theorem VA.up {h : pmH} {n m k j : Nat} {x : Int32} (hA : VA h n m) (hk : k ∉ relB) : VA (pm_up h k j x) n m :=
  hA.frame (fun k2 h2 => pm_up_ne (fun z => hk (by rw [← z]; exact h2)))
/-- fields of the objects aren't in the rows -/
def objs : List Nat := [2, 7, 20, 28, 35, 37, 39]
theorem SC.up {h : pmH} {n m q k j : Nat} {x : Int32} (hS : SC h n m q) (hk : k ∉ objs) : SC (pm_up h k j x) n m q := by
  have e : ∀ a ∈ objs, pm_up h k j x a = h a := fun a ha => pm_up_ne (fun z => hk (by rw [← z]; exact ha))
  unfold SC
  rw [e 7 (by decide), e 39 (by decide), e 2 (by decide), e 37 (by decide), e 20 (by decide), e 28 (by decide), e 35 (by decide)]
  exact hS
theorem VN.up {h : pmH} {k j : Nat} {x : Int32} (hS : VN h) (hk : k ≠ 28) : VN (pm_up h k j x) := by
  unfold VN; rw [pm_up_ne (Ne.symm hk)]; exact hS
theorem VB.up {h : pmH} {k j : Nat} {x : Int32} (hS : VB h) (hk : k ≠ 36 ∧ k ≠ 35) : VB (pm_up h k j x) := by
  unfold VB; rw [pm_up_ne (Ne.symm hk.1), pm_up_ne (Ne.symm hk.2)]; exact hS
/-- a pair of rows of which nothing more is asked -/
theorem InvN.pair {h : pmH} {n m q k k2 j : Nat} {x : Int32} (hi : InvN h n m q) (hp : (k, k2) ∈ prs) (hk : k ∉ relB) (hk3 : k ≠ 36) : InvN (pm_up (pm_up h k j x) k2 j x) n m q := by
  have key : ∀ p ∈ prs, p.1 ∉ objs ∧ p.2 ∉ objs ∧ p.2 ∉ relB ∧ p.1 ≠ 28 ∧ p.2 ≠ 28 ∧ p.1 ≠ 35 ∧ p.2 ≠ 36 ∧ p.2 ≠ 35 := by decide
  obtain ⟨k1, k4, k5, k6, k7, k8, k9, k10⟩ := key _ hp
  obtain ⟨hb, hE, hS, hA, hN, hB⟩ := hi.to
  exact InvN.of hb (hE.up hp) ((hS.up k1).up k4) ((hA.up hk).up k5) ((hN.up k6).up k7) ((hB.up ⟨hk3, k8⟩).up ⟨k9, k10⟩)
/-- a finding is counted on both sides -/
theorem InvN.fnd {h : pmH} {n m q : Nat} (hi : InvN h n m q) (k : Nat) : InvN (pm_up (pm_up h 1 k (h 1 k + nI 1)) 58 k ((pm_up h 1 k (h 1 k + nI 1)) 58 k + nI 1)) n m q := by
  have e : h 58 = h 1 := (hi.2.1 (1, 58) (by decide)).symm
  rw [pm_up_ne (a := 58) (by decide), e]
  exact hi.pair (by decide) (by decide) (by decide)
def Step (sl : Nat) (xs : Nat → Int32) (y1 y2 : Nat) (as : List Value) : Prop := ∀ (d : Nat) (h : pmH), Inv h → ∃ (r : Int32) (h1 h2 : pmH), pm_cf (pm_Ev sl xs) (d + 40) y1 (.ref 1 :: as) (SH, h) = some (some (.int r), (SH, h1)) ∧ pm_cf (pm_Ev sl xs) (d + 40) y2 (.ref 40 :: as) (SH, h1) = some (some (.int r), (SH, h2)) ∧ Inv h2
theorem step_most {sl : Nat} {xs : Nat → Int32} {a : Int32} : Step sl xs 61 114 [.int a] := by
  intro d h ⟨n, m, q, hi⟩
  cases hr : inR a (nI 0) 100000 with
  | false =>
    refine ⟨-1000000001, pm_up h 1 1 (h 1 1 + nI 1), _, ?_, ?_, n, m, q, hi.fnd 1⟩
    · rw [qX7_most_0, c_within, pm_ri_ok, hr, bI_if, if_neg (by decide), c_find (k := 1) (by decide) f_1, pm_ri_ok]
    · rw [qX8_most_0, c_in, pm_ri_ok, hr, bI_if, if_neg (by decide), c_finds (by decide), pm_ri_ok, g_1]
  | true =>
    have e : h 20 1 = h 39 2 := hi.2.2.1.2.2.2.1
    refine ⟨h 20 1, pm_up h 20 1 a, pm_up (pm_up h 20 1 a) 39 2 a, ?_, ?_, n, m, q, ?_⟩
    · rw [qX7_most_0, c_within, pm_ri_ok, hr, bI_if, if_pos rfl]
    · rw [qX8_most_0, c_in, pm_ri_ok, hr, bI_if, if_pos rfl, pm_up_ne (a := 39) (by decide), e]
    · obtain ⟨hb, hE, hS, hA, hN, hB⟩ := hi.to
      refine InvN.of hb ((hE.other (by decide)).other (by decide)) ?_ ((hA.up (by decide)).up (by decide)) ((hN.up (by decide)).up (by decide)) ((hB.up (by decide)).up (by decide))
      unfold SC at hS ⊢
      simpa [pm_up, upd] using ⟨hS.1, hS.2.1, hS.2.2.1, hS.2.2.2.2⟩
