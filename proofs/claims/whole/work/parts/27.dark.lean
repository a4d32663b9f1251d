/-! which are dark: the component's row, the reference's walk up -/
def pm_pt (h : pmH) (k : Nat) (f : Nat → Int32) : pmH := fun a => if a = k then f else h a
theorem pt_same (h : pmH) (k : Nat) (f : Nat → Int32) : pm_pt h k f k = f := if_pos rfl
theorem pt_ne {h : pmH} {k a : Nat} {f : Nat → Int32} (ha : a ≠ k) : pm_pt h k f a = h a := if_neg ha
theorem pt_up (h : pmH) (k j : Nat) (f : Nat → Int32) (x : Int32) : pm_up (pm_pt h k f) k j x = pm_pt h k (upd f j x) := by
  funext a
  unfold pm_up pm_pt
  by_cases e : a = k
  · simp [e]
  · simp [e]
theorem pt_self (h : pmH) (k : Nat) : pm_pt h k (h k) = h := by
  funext a
  unfold pm_pt
  by_cases e : a = k
  · rw [if_pos e, e]
  · rw [if_neg e]
def UPok (up : Nat → Int32) (n : Nat) : Prop := ∀ j, j < n → up j = -nI 1 ∨ ∃ u, u < j ∧ up j = nI u
theorem VS.up {h : pmH} {n : Nat} (hV : VS h n) : UPok (h 9) n := fun j hj => (hV j hj).2.1
theorem neg1 : -nI 1 < 0 := by decide
def dkV (up dead : Nat → Int32) : Nat → Nat → Int32
  | 0, _ => nI 0
  | f + 1, s => if dead s = 0 then (if up s < 0 then nI 0 else dkV up dead f (up s).toNatClampNeg) else nI 1
def dk (up dead : Nat → Int32) (s : Nat) : Int32 := dkV up dead (s + 1) s
theorem dkV_fuel {up dead : Nat → Int32} {n : Nat} (hn : n ≤ 24) (hU : UPok up n) : ∀ (b s f : Nat), s < b → s < n → s < f → dkV up dead f s = dk up dead s
  | 0, s, f, h1, _, _ => absurd h1 (Nat.not_lt_zero _)
  | b + 1, s, f, h1, h2, h3 => by
    obtain ⟨g, rfl⟩ : ∃ g, f = g + 1 := ⟨f - 1, by omega⟩
    unfold dk
    rw [dkV, dkV]
    rcases hU s h2 with hu | ⟨u, hu1, hu2⟩
    · rw [hu, if_pos neg1, if_pos neg1]
    · have e1 := dkV_fuel (dead := dead) hn hU b u g (by omega) (by omega) (by omega)
      have e2 := dkV_fuel (dead := dead) hn hU b u s (by omega) (by omega) (by omega)
      rw [hu2, nI_clamp (by omega), e1, e2]
theorem dk_eq {up dead : Nat → Int32} {n s : Nat} (hn : n ≤ 24) (hU : UPok up n) (hs : s < n) : dk up dead s = if dead s = 0 then (if up s < 0 then nI 0 else dk up dead (up s).toNatClampNeg) else nI 1 := by
  unfold dk
  rw [dkV]
  rcases hU s hs with hu | ⟨u, hu1, hu2⟩
  · rw [hu, if_pos neg1, if_pos neg1]
  · rw [hu2, nI_clamp (by omega), dkV_fuel hn hU (u + 1) u s (by omega) (by omega) (by omega)]
    rfl
theorem dk_01 {up dead : Nat → Int32} : ∀ (f s : Nat), dkV up dead f s = nI 0 ∨ dkV up dead f s = nI 1
  | 0, _ => Or.inl rfl
  | f + 1, s => by
    rw [dkV]
    by_cases h1 : dead s = 0
    · rw [if_pos h1]
      by_cases h2 : up s < 0
      · rw [if_pos h2]; exact Or.inl rfl
      · rw [if_neg h2]; exact dk_01 f _
    · rw [if_neg h1]; exact Or.inr rfl
section DARK
variable {sl : Nat} {xs : Nat → Int32}
theorem dark_c {d : Nat} {h : pmH} {n : Nat} (hn : n ≤ 24) (n7 : h 7 0 = nI n) (hU : UPok (h 9) n) : ∀ (m i : Nat) (f : Nat → Int32) (o2 : Option Value), i + m = n → (∀ j, j < i → f j = dk (h 9) (h 16) j) →
    ∃ f2, pm_Ev sl xs d 6 2 [some (.ref 21), some (.int (nI i)), o2] [] (SH, pm_pt h 21 f) = some (none, (SH, pm_pt h 21 f2)) ∧ ∀ j, j < n → f2 j = dk (h 9) (h 16) j
  | 0, i, f, o2, hi, hf => by
    refine ⟨f, ?_, fun j hj => hf j (by omega)⟩
    rw [qX1_surveyDark_2, pt_ne (by decide), n7, if_pos (nI_le (by omega) (by omega))]
  | m + 1, i, f, o2, hi, hf => by
    have key : ∀ (o : Option Value), ∃ f2, pm_Ev sl xs d 6 2 [some (.ref 21), some (.int (nI (i + 1))), o] [] (SH, pm_pt h 21 (upd f i (dk (h 9) (h 16) i))) = some (none, (SH, pm_pt h 21 f2)) ∧ ∀ j, j < n → f2 j = dk (h 9) (h 16) j := fun o => by
      refine dark_c hn n7 hU m (i + 1) (upd f i (dk (h 9) (h 16) i)) o (by omega) (fun j hj => ?_)
      unfold upd
      by_cases e : j = i
      · rw [if_pos e, e]
      · rw [if_neg e]; exact hf j (by omega)
    have hdk := dk_eq (dead := h 16) hn hU (show i < n by omega)
    have ix : ∀ (g : Nat → Option pmR), pm_ix none (nI i) 24 g = g i := fun g => pm_ix_nI (by omega) (by decide)
    have e9 : (pm_pt h 21 f) 9 = h 9 := pt_ne (by decide)
    have e16 : (pm_pt h 21 f) 16 = h 16 := pt_ne (by decide)
    have e21 : (pm_pt h 21 f) 21 = f := pt_same _ _ _
    rw [qX1_surveyDark_2, pt_ne (by decide), n7, if_neg (nI_ge (by omega) (by omega)), ix, ix, e9, e16, nI_add]
    by_cases hd : h 16 i = 0
    · rw [if_pos hd] at hdk ⊢
      rcases hU i (by omega) with hu | ⟨u, hu1, hu2⟩
      · rw [hu, if_pos neg1] at hdk
        rw [hu, if_pos neg1, ix, pt_up, ← hdk]
        exact key _
      · have hnn : ¬ nI u < 0 := nI_pos (by omega)
        rw [hu2, if_neg hnn, nI_clamp (by omega)] at hdk
        rw [hu2, if_neg hnn, pm_ix_nI (by omega) (by decide), e21, hf u (by omega), ← hdk]
        rcases dk_01 (up := h 9) (dead := h 16) (i + 1) i with h0 | h1
        · have h0 : dk (h 9) (h 16) i = nI 0 := h0
          rw [if_pos (show dk (h 9) (h 16) i = 0 from h0), ix, pt_up, ← h0]
          exact key _
        · have h1 : dk (h 9) (h 16) i = nI 1 := h1
          rw [if_neg (by rw [h1]; exact z10), ix, pt_up, ← h1]
          exact key _
    · rw [if_neg hd] at hdk ⊢
      rw [ix, pt_up, ← hdk]
      exact key _
theorem c_dark {d : Nat} {h : pmH} {n : Nat} (hn : n ≤ 24) (n7 : h 7 0 = nI n) (hU : UPok (h 9) n) : ∃ f2, pm_cf (pm_Ev sl xs) (d + 1) 6 [.ref 21] (SH, h) = some (none, (SH, pm_pt h 21 f2)) ∧ ∀ j, j < n → f2 j = dk (h 9) (h 16) j := by
  obtain ⟨f2, h1, h2⟩ := dark_c (sl := sl) (xs := xs) (d := d) hn n7 hU n 0 (h 21) none (by omega) (fun j hj => absurd hj (Nat.not_lt_zero _))
  rw [pt_self] at h1
  exact ⟨f2, by rw [qX1_surveyDark_0]; exact h1, h2⟩
/-- the reference walks up -/
theorem dark_m {d : Nat} {h : pmH} {n : Nat} {up dead : Nat → Int32} (hn : n ≤ 24) (hU : UPok up n) (e9 : h 44 = up) (e16 : h 53 = dead) (b1 : Int32) : ∀ (b s : Nat), s < b → s < n → pm_Ev sl xs d 106 2 [some (.ref 40), some (.int b1), some (.int (nI s))] [] (SH, h) = some (some (.int (dk up dead s)), (SH, h))
  | 0, s, h1, _ => absurd h1 (Nat.not_lt_zero _)
  | b + 1, s, h1, h2 => by
    have hdk := dk_eq (dead := dead) hn hU h2
    have hnn : ¬ nI s < 0 := nI_pos (by omega)
    rw [qX8_isDark_2, if_neg hnn, pm_ix_nI (by omega) (by decide), e16]
    by_cases hd : dead s = 0
    · rw [if_pos hd] at hdk ⊢
      rw [pm_ix_nI (by omega) (by decide), e9]
      rcases hU s h2 with hu | ⟨u, hu1, hu2⟩
      · rw [hu, if_pos neg1] at hdk
        rw [hu, qX8_isDark_2, if_pos neg1, if_pos neg1, hdk]
      · have hn2 : ¬ nI u < 0 := nI_pos (by omega)
        rw [hu2, if_neg hn2, nI_clamp (by omega)] at hdk
        rw [hu2, hdk]
        exact dark_m hn hU e9 e16 b1 b u (by omega) (by omega)
    · rw [if_neg hd] at hdk ⊢
      rw [if_neg hnn, hdk]
theorem c_isDark {d : Nat} {h : pmH} {n s : Nat} {up dead : Nat → Int32} (hn : n ≤ 24) (hU : UPok up n) (e9 : h 44 = up) (e16 : h 53 = dead) (hs : s < n) : pm_cf (pm_Ev sl xs) (d + 1) 106 [.ref 40, .int (nI s)] (SH, h) = some (some (.int (dk up dead s)), (SH, h)) := by
  rw [qX8_isDark_0]
  exact dark_m hn hU e9 e16 (nI s) (s + 1) s (by omega) hs
end DARK
