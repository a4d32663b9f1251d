/-! how far it falls, what guards: both sides -/
/-- a string's own fall, with what it carries at the worst -/
def ownF (h : pmH) (w : Nat → Int32) (j : Nat) : Int32 := h 11 j * w j / (nI 10 * h 12 j)
def flV (h : pmH) (w : Nat → Int32) : Nat → Int32 := tr (h 9) (ownF h w) (fun s v => v + ownF h w s)
def gdV (h : pmH) : Nat → Int32 := tr (h 9) (fun s => if h 15 s ≤ 0 then nI 0 else h 15 s) (fun s v => if h 15 s ≤ 0 then v else h 15 s)
theorem VS.w10 {h : pmH} {n j : Nat} (hV : VS h n) (hj : j < n) : ∃ k, 1 < k ∧ k ≤ 100 ∧ nI 10 * h 12 j = nI k := by
  obtain ⟨-, -, -, -, ⟨a, a1, a2, a3⟩, -, -, -, -⟩ := hV j hj
  exact ⟨10 * a, by omega, by omega, by rw [a3, pk_mul]⟩
section FALLS
variable {sl : Nat} {xs : Nat → Int32}
theorem fall_m {d : Nat} {g h : pmH} {n : Nat} {w : Nat → Int32} (hn : n ≤ 24) (hV : VS h n) (n39 : g 39 1 = nI n) (e9 : g 44 = h 9) (e11 : g 46 = h 11) (e12 : g 47 = h 12) (e61 : g 61 = w) : ∀ (m i : Nat) (f : Nat → Int32), i + m = n → (∀ j, j < i → f j = flV h w j) →
    ∃ f2, pm_Ev sl xs (d + 1) 110 145 [some (.ref 40), some (.int (nI i))] [] (SH, pm_pt g 62 f) = some (none, (SH, pm_pt g 62 f2)) ∧ ∀ j, j < n → f2 j = flV h w j
  | 0, i, f, hi, hf => by
    refine ⟨f, ?_, fun j hj => hf j (by omega)⟩
    rw [qX8_flow_145, pt_ne (by decide), n39, if_pos (nI_le (by omega) (by omega))]
  | m + 1, i, f, hi, hf => by
    have hU := hV.up
    have ix : ∀ (t : Nat → Option pmR), pm_ix none (nI i) 24 t = t i := fun t => pm_ix_nI (by omega) (by decide)
    have key := fall_m (d := d) hn hV n39 e9 e11 e12 e61 m (i + 1) (upd f i (flV h w i)) (by omega) (fun j hj => by
      by_cases e : j = i
      · subst e; rw [upd_s]
      · rw [upd_n e]; exact hf j (by omega))
    obtain ⟨k, k1, k2, k3⟩ := hV.w10 (show i < n by omega)
    have hnz : ¬ nI 10 * h 12 i = 0 := by rw [k3]; exact nI_ne0 (by omega) (by omega)
    have hfl : flV h w i = if h 9 i < 0 then ownF h w i else flV h w (upI (h 9) i) + ownF h w i := tr_eq hn hU (show i < n by omega)
    rw [qX8_flow_145, pt_ne (a := 39) (by decide), n39, if_neg (nI_ge (by omega) (by omega)), ix, pt_ne (a := 44) (by decide), e9, nI_add]
    by_cases hu : h 9 i < 0
    · rw [if_pos hu] at hfl
      rw [if_neg (fun z => (ge0 _).mp z hu), ix, ix, ix, pt_ne (a := 47) (by decide), e12, if_neg hnz, ix, pt_ne (a := 46) (by decide), pt_ne (a := 61) (by decide), e11, e61, pt_up]
      rw [hfl] at key
      have e0 : nI 0 + h 11 i * w i / (nI 10 * h 12 i) = ownF h w i := by rw [z00, Int32.zero_add]; rfl
      rw [e0]
      exact key
    · obtain ⟨h1, h2⟩ := hU.lt hn (show i < n by omega) hu
      have iu : ∀ (t : Nat → Option pmR), pm_ix none (h 9 i) 24 t = t (upI (h 9) i) := fun t => by rw [h2]; exact pm_ix_nI (by omega) (by decide)
      rw [if_neg hu] at hfl
      rw [if_pos ((ge0 _).mpr hu), ix, iu, ix, ix, ix, pt_ne (a := 47) (by decide), e12, if_neg hnz, ix, pt_ne (a := 46) (by decide), pt_ne (a := 61) (by decide), e11, e61, pt_up, pt_same, hf _ (by omega)]
      rw [hfl] at key
      exact key
theorem falls_c {d : Nat} {g h : pmH} {n : Nat} {w : Nat → Int32} (hn : n ≤ 24) (hV : VS h n) (n7 : g 7 0 = nI n) (e9 : g 9 = h 9) (e11 : g 11 = h 11) (e12 : g 12 = h 12) (e15 : g 15 = h 15) (e23 : g 23 = w) : ∀ (m i : Nat) (f q : Nat → Int32) (o2 o3 o4 : Option Value), i + m = n → (∀ j, j < i → f j = flV h w j) → (∀ j, j < i → q j = gdV h j) →
    ∃ f2 q2, pm_Ev sl xs (d + 1) 8 2 [some (.ref 21), some (.int (nI i)), o2, o3, o4] [] (SH, pP g 24 f 25 q) = some (none, (SH, pP g 24 f2 25 q2)) ∧ (∀ j, j < n → f2 j = flV h w j) ∧ ∀ j, j < n → q2 j = gdV h j
  | 0, i, f, q, o2, o3, o4, hi, hf, hq => by
    refine ⟨f, q, ?_, fun j hj => hf j (by omega), fun j hj => hq j (by omega)⟩
    rw [qX1_surveyFalls_2, pP_ne (by decide) (by decide), n7, if_pos (nI_le (by omega) (by omega))]
  | m + 1, i, f, q, o2, o3, o4, hi, hf, hq => by
    have hU := hV.up
    have ix : ∀ (t : Nat → Option pmR), pm_ix none (nI i) 24 t = t i := fun t => pm_ix_nI (by omega) (by decide)
    have key := fun (o2 o3 o4 : Option Value) => falls_c (d := d) hn hV n7 e9 e11 e12 e15 e23 m (i + 1) (upd f i (flV h w i)) (upd q i (gdV h i)) o2 o3 o4 (by omega) (fun j hj => by
      by_cases e : j = i
      · subst e; rw [upd_s]
      · rw [upd_n e]; exact hf j (by omega)) (fun j hj => by
      by_cases e : j = i
      · subst e; rw [upd_s]
      · rw [upd_n e]; exact hq j (by omega))
    obtain ⟨k, k1, k2, k3⟩ := hV.w10 (show i < n by omega)
    have hmx : (if nI 1 < nI 10 * h 12 i then nI 10 * h 12 i else nI 1) = nI 10 * h 12 i := by
      rw [k3, if_pos (nI_lt k1 (by omega))]
    have hnz : ¬ nI 10 * h 12 i = 0 := by rw [k3]; exact nI_ne0 (by omega) (by omega)
    have hfl : flV h w i = if h 9 i < 0 then ownF h w i else flV h w (upI (h 9) i) + ownF h w i := tr_eq hn hU (show i < n by omega)
    have hgd : gdV h i = if h 9 i < 0 then (if h 15 i ≤ 0 then nI 0 else h 15 i) else (if h 15 i ≤ 0 then gdV h (upI (h 9) i) else h 15 i) := tr_eq hn hU (show i < n by omega)
    have ne : ∀ (k : Nat), k ≠ 24 → k ≠ 25 → pP g 24 f 25 q k = g k := fun k h1 h2 => pP_ne h1 h2
    have a24 : pP g 24 f 25 q 24 = f := pP_a (by decide)
    have a25 : pP g 24 f 25 q 25 = q := pP_b
    have uu : ∀ (x y : Int32), pm_up (pm_up (pP g 24 f 25 q) 24 i x) 25 i y = pP g 24 (upd f i x) 25 (upd q i y) := fun x y => by rw [pP_ua (by decide), pP_ub]
    have how : h 11 i * w i / (nI 10 * h 12 i) = ownF h w i := rfl
    rw [qX1_surveyFalls_2, ne 7 (by decide) (by decide), n7, if_neg (nI_ge (by omega) (by omega)), ix, ix, ix, ix, ne 9 (by decide) (by decide), ne 11 (by decide) (by decide), ne 12 (by decide) (by decide), ne 15 (by decide) (by decide), ne 23 (by decide) (by decide), a24, a25, e9, e11, e12, e15, e23, hmx, if_neg hnz, nI_add, how]
    by_cases hu : h 9 i < 0
    · rw [if_pos hu] at hfl hgd
      rw [if_pos hu, ix, if_pos hu, ix]
      by_cases hz : h 15 i ≤ 0
      · rw [if_pos hz] at hgd
        rw [if_pos hz, ix, uu, ← hfl, ← hgd]
        exact key _ _ _
      · rw [if_neg hz] at hgd
        rw [if_neg hz, ix, ix, uu, ← hfl, ← hgd]
        exact key _ _ _
    · obtain ⟨h1, h2⟩ := hU.lt hn (show i < n by omega) hu
      have iu : ∀ (t : Nat → Option pmR), pm_ix none (h 9 i) 24 t = t (upI (h 9) i) := fun t => by rw [h2]; exact pm_ix_nI (by omega) (by decide)
      rw [if_neg hu] at hfl hgd
      rw [if_neg hu, iu, ix, if_neg hu, iu, ix, hf _ h1, hq _ h1, ← hfl]
      by_cases hz : h 15 i ≤ 0
      · rw [if_pos hz] at hgd
        rw [if_pos hz, ix, uu, ← hgd]
        exact key _ _ _
      · rw [if_neg hz] at hgd
        rw [if_neg hz, ix, ix, uu, ← hgd]
        exact key _ _ _
end FALLS
