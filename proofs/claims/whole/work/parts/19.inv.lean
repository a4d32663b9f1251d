/-! the invariant between the component's cells and the reference's -/
def prs : List (Nat × Nat) := [(1, 58), (3, 40), (4, 41), (5, 42), (8, 43), (9, 44), (10, 45), (11, 46), (12, 47), (13, 48), (14, 49), (15, 50), (16, 53), (17, 51), (18, 52), (19, 54), (29, 55), (36, 56), (38, 57), (30, 59)]
/-- these rows are the same -/
def EQ (h : pmH) : Prop := ∀ p ∈ prs, h p.1 = h p.2
/-- numbers that stand in fields: strings, crates, waiting; most, crews, hours, part -/
def SC (h : pmH) (n m q : Nat) : Prop := (h 7 0 = nI n ∧ h 39 1 = nI n) ∧ (h 2 0 = nI m ∧ h 39 0 = nI m) ∧ (h 37 0 = nI q ∧ h 39 6 = nI q) ∧ h 20 1 = h 39 2 ∧ h 28 1 = h 39 3 ∧ h 28 2 = h 39 4 ∧ h 35 1 = h 39 5
def VS (h : pmH) (n : Nat) : Prop := ∀ j, j < n → (∃ k, k ≤ 2 ∧ h 8 j = nI k) ∧ (h 9 j = -nI 1 ∨ ∃ u, u < j ∧ h 9 j = nI u) ∧ (∃ k, k ≤ 7 ∧ h 10 j = nI k) ∧ (∃ k, 1 ≤ k ∧ k ≤ 100 ∧ h 11 j = nI k) ∧ (∃ k, 1 ≤ k ∧ k ≤ 10 ∧ h 12 j = nI k) ∧ (∃ k, 1 ≤ k ∧ k ≤ 60 ∧ h 13 j = nI k) ∧ (∃ k, 1 ≤ k ∧ k ≤ 20 ∧ h 14 j = nI k) ∧ (∃ k, k ≤ 60000 ∧ h 15 j = nI k) ∧ (h 16 j = 0 ∨ h 16 j = 1)
def V0 (h : pmH) (n : Nat) : Prop := ∀ j, n ≤ j → h 15 j = 0 ∧ h 16 j = 0
def VC (h : pmH) (m : Nat) : Prop := ∀ j, j < m → ∃ k, k ≤ 1000 ∧ h 4 j = nI k
def VL (h : pmH) (n m : Nat) : Prop := ∀ s p, s < n → p < 60 → nI p < h 13 s → ∃ c, c < m ∧ h 19 (60 * s + p) = nI c
def VP (h : pmH) (n : Nat) : Prop := (∀ j, j < n → ∃ p, p < n ∧ h 30 j = nI p) ∧ ∀ i j, i < n → j < n → h 30 i = h 30 j → i = j
/-- how many of a string's first p lamps are of crate c -/
def cntP (h : pmH) (s c : Nat) : Nat → Nat
  | 0 => 0
  | p + 1 => cntP h s c p + (if nI p < h 13 s then (if h 19 (60 * s + p) = nI c then 1 else 0) else 0)
def cntS (h : pmH) (c : Nat) : Nat → Nat
  | 0 => 0
  | s + 1 => cntS h c s + cntP h s c 60
def VH (h : pmH) (n _m : Nat) : Prop := ∀ c, c < 12 → h 6 c = nI (cntS h c n)
def VN (h : pmH) : Prop := (∃ k, 1 ≤ k ∧ k ≤ 3 ∧ h 28 1 = nI k) ∧ ∃ k, 1 ≤ k ∧ k ≤ 12 ∧ h 28 2 = nI k
def VB (h : pmH) : Prop := (∀ j, j < 8 → ∃ k, k ≤ 1000 ∧ h 36 j = nI k) ∧ ∃ k, k ≤ 100 ∧ h 35 1 = nI k
def InvN (h : pmH) (n m q : Nat) : Prop := (n ≤ 24 ∧ m ≤ 12 ∧ q ≤ 24) ∧ EQ h ∧ SC h n m q ∧ VS h n ∧ V0 h n ∧ VC h m ∧ VL h n m ∧ VP h n ∧ VH h n m ∧ VN h ∧ VB h
def Inv (h : pmH) : Prop := ∃ n m q, InvN h n m q
/-- the places that the invariant speaks of -/
def relA : List Nat := [1, 58, 3, 40, 4, 41, 5, 42, 8, 43, 9, 44, 10, 45, 11, 46, 12, 47, 13, 48, 14, 49, 15, 50, 16, 53, 17, 51, 18, 52, 19, 54, 29, 55, 36, 56, 38, 57, 30, 59, 6]
def relF : List (Nat × Nat) := [(7, 0), (39, 1), (2, 0), (39, 0), (37, 0), (39, 6), (20, 1), (39, 2), (28, 1), (39, 3), (28, 2), (39, 4), (35, 1), (39, 5)]
def FR (h h2 : pmH) : Prop := (∀ k ∈ relA, h2 k = h k) ∧ ∀ p ∈ relF, h2 p.1 p.2 = h p.1 p.2
theorem FR.rfl {h : pmH} : FR h h := ⟨fun _ _ => Eq.refl _, fun _ _ => Eq.refl _⟩
theorem FR.trans {a b c : pmH} (h1 : FR a b) (h2 : FR b c) : FR a c := ⟨fun k hk => (h2.1 k hk).trans (h1.1 k hk), fun p hp => (h2.2 p hp).trans (h1.2 p hp)⟩
theorem prs_rel : ∀ p ∈ prs, p.1 ∈ relA ∧ p.2 ∈ relA := by decide
theorem cntP_cg {h h2 : pmH} {s c : Nat} (e13 : h2 13 = h 13) (e19 : h2 19 = h 19) : ∀ p, cntP h2 s c p = cntP h s c p
  | 0 => rfl
  | p + 1 => by rw [cntP, cntP, cntP_cg e13 e19 p, e13, e19]
theorem cntS_cg {h h2 : pmH} {c : Nat} (e13 : h2 13 = h 13) (e19 : h2 19 = h 19) : ∀ n, cntS h2 c n = cntS h c n
  | 0 => rfl
  | n + 1 => by rw [cntS, cntS, cntS_cg e13 e19 n, cntP_cg e13 e19]
theorem InvN.frame {h h2 : pmH} {n m q : Nat} (hf : FR h h2) (hi : InvN h n m q) : InvN h2 n m q := by
  obtain ⟨hf1, hf2⟩ := hf
  obtain ⟨hb, hE, hS, hVS, hV0, hVC, hVL, hVP, hVH, hVN, hVB⟩ := hi
  have e4 := hf1 4 (by decide); have e6 := hf1 6 (by decide)
  have e8 := hf1 8 (by decide); have e9 := hf1 9 (by decide); have e10 := hf1 10 (by decide); have e11 := hf1 11 (by decide)
  have e12 := hf1 12 (by decide); have e13 := hf1 13 (by decide); have e14 := hf1 14 (by decide); have e15 := hf1 15 (by decide)
  have e16 := hf1 16 (by decide); have e19 := hf1 19 (by decide); have e30 := hf1 30 (by decide); have e36 := hf1 36 (by decide)
  have g1 := hf2 (7, 0) (by decide); have g2 := hf2 (39, 1) (by decide); have g3 := hf2 (2, 0) (by decide); have g4 := hf2 (39, 0) (by decide)
  have g5 := hf2 (37, 0) (by decide); have g6 := hf2 (39, 6) (by decide); have g7 := hf2 (20, 1) (by decide); have g8 := hf2 (39, 2) (by decide)
  have g9 := hf2 (28, 1) (by decide); have g10 := hf2 (39, 3) (by decide); have g11 := hf2 (28, 2) (by decide); have g12 := hf2 (39, 4) (by decide)
  have g13 := hf2 (35, 1) (by decide); have g14 := hf2 (39, 5) (by decide)
  dsimp only at g1 g2 g3 g4 g5 g6 g7 g8 g9 g10 g11 g12 g13 g14
  refine ⟨hb, fun p hp => ?_, ?_, ?_, ?_, ?_, ?_, ?_, ?_, ?_, ?_⟩
  · rw [hf1 _ (prs_rel p hp).1, hf1 _ (prs_rel p hp).2]; exact hE p hp
  · unfold SC; rw [g1, g2, g3, g4, g5, g6, g7, g8, g9, g10, g11, g12, g13, g14]; exact hS
  · unfold VS; rw [e8, e9, e10, e11, e12, e13, e14, e15, e16]; exact hVS
  · unfold V0; rw [e15, e16]; exact hV0
  · unfold VC; rw [e4]; exact hVC
  · unfold VL; rw [e13, e19]; exact hVL
  · unfold VP; rw [e30]; exact hVP
  · intro c hc; rw [e6, cntS_cg e13 e19]; exact hVH c hc
  · unfold VN; rw [g9, g11]; exact hVN
  · unfold VB; rw [e36, g13]; exact hVB
theorem Inv.frame {h h2 : pmH} (hf : FR h h2) (hi : Inv h) : Inv h2 := by
  obtain ⟨n, m, q, hi⟩ := hi
  exact ⟨n, m, q, hi.frame hf⟩
/-- the same is put into both of a pair -/
theorem EQ.up {h : pmH} (hE : EQ h) {k k2 j : Nat} {x : Int32} (hp : (k, k2) ∈ prs) : EQ (pm_up (pm_up h k j x) k2 j x) := by
  have key : ∀ p ∈ prs, ∀ p2 ∈ prs, (p.1 = p2.1 ↔ p.2 = p2.2) ∧ p.1 ≠ p2.2 ∧ p.2 ≠ p2.1 := by decide
  intro p hq
  obtain ⟨h1, h2, h3⟩ := key p hq (k, k2) hp
  obtain ⟨-, h4, h5⟩ := key (k, k2) hp (k, k2) hp
  dsimp only at h1 h2 h3 h4 h5
  have e := hE p hq
  by_cases h6 : p.1 = k
  · have h7 := h1.mp h6
    rw [h6, h7] at e ⊢
    rw [pm_up_ne h4, pm_up_same, pm_up_same, pm_up_ne (Ne.symm h4), e]
  · have h7 : p.2 ≠ k2 := fun z => h6 (h1.mpr z)
    rw [pm_up_ne h2, pm_up_ne h6, pm_up_ne h7, pm_up_ne h3]
    exact e
theorem EQ.other {h : pmH} (hE : EQ h) {k j : Nat} {x : Int32} (hk : k ∉ relA) : EQ (pm_up h k j x) := by
  intro p hp
  obtain ⟨h1, h2⟩ := prs_rel p hp
  rw [pm_up_ne (fun z => hk (by rw [← z]; exact h1)), pm_up_ne (fun z => hk (by rw [← z]; exact h2))]
  exact hE p hp
