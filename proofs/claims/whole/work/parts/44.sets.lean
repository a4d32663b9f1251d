/-! sets of fuses, and the sums that find the least -/
def sm (f : Nat → Nat) : Nat → Nat
  | 0 => 0
  | i + 1 => sm f i + f i
theorem sm_cg {f g : Nat → Nat} : ∀ i, (∀ p, p < i → f p = g p) → sm f i = sm g i
  | 0, _ => rfl
  | i + 1, h => by rw [sm, sm, sm_cg i (fun p hp => h p (by omega)), h i (by omega)]
theorem sm_add (f g : Nat → Nat) : ∀ i, sm (fun p => f p + g p) i = sm f i + sm g i
  | 0 => rfl
  | i + 1 => by rw [sm, sm, sm, sm_add f g i]; omega
theorem sm_z {u x : Nat} : ∀ i, i ≤ u → sm (fun p => if p = u then x else 0) i = 0
  | 0, _ => rfl
  | i + 1, h => by rw [sm, sm_z i (by omega), if_neg (by omega)]
theorem sm_one {u x : Nat} : ∀ i, u < i → sm (fun p => if p = u then x else 0) i = x
  | 0, h => absurd h (Nat.not_lt_zero _)
  | i + 1, h => by
    rw [sm]
    by_cases e : i = u
    · rw [if_pos e, sm_z i (by omega), Nat.zero_add]
    · rw [if_neg e, sm_one i (by omega), Nat.add_zero]
theorem sm_ge {f : Nat → Nat} {p : Nat} : ∀ i, p < i → f p ≤ sm f i
  | 0, h => absurd h (Nat.not_lt_zero _)
  | i + 1, h => by
    rw [sm]
    by_cases e : p = i
    · subst e; omega
    · have := sm_ge (f := f) i (show p < i by omega)
      omega
theorem sm_le {f : Nat → Nat} {c : Nat} (h : ∀ p, f p ≤ c) : ∀ i, sm f i ≤ c * i
  | 0 => Nat.zero_le _
  | i + 1 => by
    rw [sm, Nat.mul_add, Nat.mul_one]
    have := sm_le h i
    have := h i
    omega
/-! the nearest at or above; 24 if there is none -/
def gdF (up : Nat → Int32) (S : Nat → Bool) : Nat → Nat → Nat
  | 0, _ => 24
  | f + 1, s => if S s = true then s else if up s < 0 then 24 else gdF up S f (upI up s)
def gdS (up : Nat → Int32) (S : Nat → Bool) (s : Nat) : Nat := gdF up S (s + 1) s
section SETS
variable {up : Nat → Int32} {n : Nat}
theorem gdF_fuel {S : Nat → Bool} (hn : n ≤ 24) (hU : UPok up n) : ∀ (c s f : Nat), s < c → s < n → s < f → gdF up S f s = gdS up S s
  | 0, s, f, h1, _, _ => absurd h1 (Nat.not_lt_zero _)
  | c + 1, s, f, h1, h2, h3 => by
    obtain ⟨g, rfl⟩ : ∃ g, f = g + 1 := ⟨f - 1, by omega⟩
    unfold gdS
    rw [gdF, gdF]
    by_cases hu : up s < 0
    · rw [if_pos hu, if_pos hu]
    · obtain ⟨h4, -⟩ := hU.lt hn h2 hu
      rw [if_neg hu, if_neg hu, gdF_fuel hn hU c (upI up s) g (by omega) (by omega) (by omega), gdF_fuel hn hU c (upI up s) s (by omega) (by omega) h4]
theorem gdS_eq {S : Nat → Bool} {s : Nat} (hn : n ≤ 24) (hU : UPok up n) (hs : s < n) : gdS up S s = if S s = true then s else if up s < 0 then 24 else gdS up S (upI up s) := by
  conv => lhs; unfold gdS
  rw [gdF]
  by_cases hu : up s < 0
  · rw [if_pos hu, if_pos hu]
  · obtain ⟨h4, -⟩ := hU.lt hn hs hu
    rw [if_neg hu, if_neg hu, gdF_fuel hn hU (upI up s + 1) (upI up s) s (by omega) (by omega) h4]
theorem gdS_cg {S T : Nat → Bool} (hn : n ≤ 24) (hU : UPok up n) : ∀ (c s : Nat), s < c → s < n → (∀ p, p ≤ s → S p = T p) → gdS up S s = gdS up T s
  | 0, s, h1, _, _ => absurd h1 (Nat.not_lt_zero _)
  | c + 1, s, h1, h2, h => by
    rw [gdS_eq hn hU h2, gdS_eq hn hU h2, h s (Nat.le_refl _)]
    by_cases hu : up s < 0
    · rw [if_pos hu, if_pos hu]
    · obtain ⟨h4, -⟩ := hU.lt hn h2 hu
      rw [if_neg hu, if_neg hu, gdS_cg hn hU c (upI up s) (by omega) (by omega) (fun p hp => h p (by omega))]
/-- what s costs in a set -/
def fzc (up : Nat → Int32) (hv : Nat → Nat) (lc : Nat → Nat → Nat) (K : Nat) (S : Nat → Bool) (s : Nat) : Nat := if S s = true then hv s else if up s < 0 then K else lc s (gdS up S (upI up s))
theorem fzc_cg {hv : Nat → Nat} {lc : Nat → Nat → Nat} {K : Nat} {S T : Nat → Bool} {s : Nat} (hn : n ≤ 24) (hU : UPok up n) (hs : s < n) (h : ∀ p, p ≤ s → S p = T p) : fzc up hv lc K S s = fzc up hv lc K T s := by
  unfold fzc
  rw [h s (Nat.le_refl _)]
  by_cases hu : up s < 0
  · rw [if_pos hu, if_pos hu]
  · obtain ⟨h4, -⟩ := hU.lt hn hs hu
    rw [if_neg hu, if_neg hu, gdS_cg hn hU (upI up s + 1) (upI up s) (by omega) (by omega) (fun p hp => h p (by omega))]
def fzG (up : Nat → Int32) (hv : Nat → Nat) (lc : Nat → Nat → Nat) (K i : Nat) (b : Nat → Nat → Nat) (t : Nat) (S : Nat → Bool) : Nat := t + sm (fun p => fzc up hv lc K S p + b p (gdS up S p)) i
theorem fzG_cg {hv : Nat → Nat} {lc : Nat → Nat → Nat} {K i t : Nat} {b : Nat → Nat → Nat} {S T : Nat → Bool} (hn : n ≤ 24) (hU : UPok up n) (hi : i ≤ n) (h : ∀ p, p < i → S p = T p) : fzG up hv lc K i b t S = fzG up hv lc K i b t T := by
  unfold fzG
  rw [sm_cg i (fun p hp => ?_)]
  rw [fzc_cg (T := T) hn hU (by omega) (fun r hr => h r (by omega)), gdS_cg (T := T) hn hU (p + 1) p (by omega) (by omega) (fun r hr => h r (by omega))]
def bPut (up : Nat → Int32) (hv : Nat → Nat) (lc : Nat → Nat → Nat) (b : Nat → Nat → Nat) (s : Nat) : Nat → Nat → Nat := fun p a => if p = upI up s then b p a + min (hv s + b s s) (lc s a + b s a) else b p a
def dpB (up : Nat → Int32) (hv : Nat → Nat) (lc : Nat → Nat → Nat) : Nat → (Nat → Nat → Nat) → Nat → Nat
  | 0, _, t => t
  | s + 1, b, t => if up s < 0 then dpB up hv lc s b (t + (hv s + b s s)) else dpB up hv lc s (bPut up hv lc b s) t
theorem fzG_put {hv : Nat → Nat} {lc : Nat → Nat → Nat} {K s t : Nat} {b : Nat → Nat → Nat} {S : Nat → Bool} (hn : n ≤ 24) (hU : UPok up n) (hs : s < n) (hu : ¬ up s < 0) : fzG up hv lc K s (bPut up hv lc b s) t S = fzG up hv lc K s b t S + min (hv s + b s s) (lc s (gdS up S (upI up s)) + b s (gdS up S (upI up s))) := by
  obtain ⟨h4, -⟩ := hU.lt hn hs hu
  unfold fzG
  rw [sm_cg (g := fun p => (fzc up hv lc K S p + b p (gdS up S p)) + (if p = upI up s then min (hv s + b s s) (lc s (gdS up S (upI up s)) + b s (gdS up S (upI up s))) else 0)) s (fun p hp => ?_), sm_add, sm_one s h4, Nat.add_assoc]
  unfold bPut
  by_cases e : p = upI up s
  · rw [if_pos e, if_pos e, e, Nat.add_assoc]
  · rw [if_neg e, if_neg e, Nat.add_zero]
theorem dp_le {hv : Nat → Nat} {lc : Nat → Nat → Nat} {K : Nat} {S : Nat → Bool} (hn : n ≤ 24) (hU : UPok up n) : ∀ (i : Nat) (b : Nat → Nat → Nat) (t : Nat), i ≤ n → min K (dpB up hv lc i b t) ≤ min K (fzG up hv lc K i b t S)
  | 0, b, t, _ => by
    unfold fzG
    rw [dpB, sm, Nat.add_zero]
    exact Nat.le_refl _
  | s + 1, b, t, hi => by
    have hG : fzG up hv lc K (s + 1) b t S = fzG up hv lc K s b t S + (fzc up hv lc K S s + b s (gdS up S s)) := by
      unfold fzG; rw [sm, Nat.add_assoc]
    have hg := gdS_eq (S := S) hn hU (show s < n by omega)
    rw [dpB, hG]
    by_cases hu : up s < 0
    · rw [if_pos hu]
      have ih := dp_le (hv := hv) (lc := lc) (K := K) (S := S) hn hU s b (t + (hv s + b s s)) (by omega)
      have e : fzG up hv lc K s b (t + (hv s + b s s)) S = fzG up hv lc K s b t S + (hv s + b s s) := by unfold fzG; omega
      rw [e] at ih
      unfold fzc
      by_cases hS : S s = true
      · rw [if_pos hS] at hg ⊢
        rw [hg]; exact ih
      · rw [if_neg hS, if_pos hu]
        omega
    · rw [if_neg hu]
      have ih := dp_le (hv := hv) (lc := lc) (K := K) (S := S) hn hU s (bPut up hv lc b s) t (by omega)
      rw [fzG_put hn hU (by omega) hu] at ih
      unfold fzc
      by_cases hS : S s = true
      · rw [if_pos hS] at hg ⊢
        rw [hg]; omega
      · rw [if_neg hS, if_neg hu] at hg ⊢
        rw [hg]; omega
theorem dp_at {hv : Nat → Nat} {lc : Nat → Nat → Nat} {K : Nat} (hn : n ≤ 24) (hU : UPok up n) : ∀ (i : Nat) (b : Nat → Nat → Nat) (t : Nat), i ≤ n → ∃ S : Nat → Bool, (∀ p, i ≤ p → S p = false) ∧ fzG up hv lc K i b t S = dpB up hv lc i b t
  | 0, b, t, _ => ⟨fun _ => false, fun _ _ => rfl, by unfold fzG; rw [dpB, sm, Nat.add_zero]⟩
  | s + 1, b, t, hi => by
    have hG : ∀ S, fzG up hv lc K (s + 1) b t S = fzG up hv lc K s b t S + (fzc up hv lc K S s + b s (gdS up S s)) := fun S => by
      unfold fzG; rw [sm, Nat.add_assoc]
    rw [dpB]
    by_cases hu : up s < 0
    · rw [if_pos hu]
      obtain ⟨S, s1, s2⟩ := dp_at (hv := hv) (lc := lc) (K := K) hn hU s b (t + (hv s + b s s)) (by omega)
      have e : fzG up hv lc K s b (t + (hv s + b s s)) S = fzG up hv lc K s b t S + (hv s + b s s) := by unfold fzG; omega
      refine ⟨fun p => if p = s then true else S p, fun p hp => (if_neg (show ¬ p = s by omega)).trans (s1 p (by omega)), ?_⟩
      have hg := gdS_eq (S := fun p => if p = s then true else S p) hn hU (show s < n by omega)
      rw [if_pos (if_pos rfl)] at hg
      rw [hG, hg, fzG_cg (T := S) hn hU (by omega) (fun p hp => if_neg (by omega)), ← s2, e]
      unfold fzc
      rw [if_pos (if_pos rfl)]
    · rw [if_neg hu]
      obtain ⟨h4, -⟩ := hU.lt hn (show s < n by omega) hu
      obtain ⟨S, s1, s2⟩ := dp_at (hv := hv) (lc := lc) (K := K) hn hU s (bPut up hv lc b s) t (by omega)
      rw [fzG_put hn hU (by omega) hu] at s2
      rcases Nat.le_total (hv s + b s s) (lc s (gdS up S (upI up s)) + b s (gdS up S (upI up s))) with c | c
      · refine ⟨fun p => if p = s then true else S p, fun p hp => (if_neg (show ¬ p = s by omega)).trans (s1 p (by omega)), ?_⟩
        have hg := gdS_eq (S := fun p => if p = s then true else S p) hn hU (show s < n by omega)
        rw [if_pos (if_pos rfl)] at hg
        rw [hG, hg, fzG_cg (T := S) hn hU (by omega) (fun p hp => if_neg (by omega)), ← s2, Nat.min_eq_left c]
        unfold fzc
        rw [if_pos (if_pos rfl)]
      · refine ⟨fun p => if p = s then false else S p, fun p hp => (if_neg (show ¬ p = s by omega)).trans (s1 p (by omega)), ?_⟩
        have hno : ¬ (if s = s then false else S s) = true := by rw [if_pos rfl]; decide
        have hg := gdS_eq (S := fun p => if p = s then false else S p) hn hU (show s < n by omega)
        have hgu : gdS up (fun p => if p = s then false else S p) (upI up s) = gdS up S (upI up s) := gdS_cg hn hU (upI up s + 1) (upI up s) (by omega) (by omega) (fun p hp => if_neg (by omega))
        rw [if_neg hno, if_neg hu, hgu] at hg
        rw [hG, hg, fzG_cg (T := S) hn hU (by omega) (fun p hp => if_neg (by omega)), ← s2, Nat.min_eq_right c]
        unfold fzc
        rw [if_neg hno, if_neg hu, hgu]
/-- all that a set costs -/
def fzS (up : Nat → Int32) (hv : Nat → Nat) (lc : Nat → Nat → Nat) (K n : Nat) (S : Nat → Bool) : Nat := sm (fzc up hv lc K S) n
def dpN (up : Nat → Int32) (hv : Nat → Nat) (lc : Nat → Nat → Nat) (n : Nat) : Nat := dpB up hv lc n (fun _ _ => 0) 0
theorem fzG_0 {hv : Nat → Nat} {lc : Nat → Nat → Nat} {K : Nat} {S : Nat → Bool} : fzG up hv lc K n (fun _ _ => 0) 0 S = fzS up hv lc K n S := by
  unfold fzG fzS
  rw [Nat.zero_add]
  exact sm_cg n (fun p _ => Nat.add_zero _)
theorem dpN_le {hv : Nat → Nat} {lc : Nat → Nat → Nat} {K : Nat} (hn : n ≤ 24) (hU : UPok up n) (S : Nat → Bool) : min K (dpN up hv lc n) ≤ min K (fzS up hv lc K n S) := by
  rw [← fzG_0]; exact dp_le hn hU n _ _ (Nat.le_refl _)
theorem dpN_at {hv : Nat → Nat} {lc : Nat → Nat → Nat} {K : Nat} (hn : n ≤ 24) (hU : UPok up n) : ∃ S : Nat → Bool, (∀ p, n ≤ p → S p = false) ∧ fzS up hv lc K n S = dpN up hv lc n := by
  obtain ⟨S, s1, s2⟩ := dp_at (hv := hv) (lc := lc) (K := K) hn hU n (fun _ _ => 0) 0 (Nat.le_refl _)
  rw [fzG_0] at s2
  exact ⟨S, s1, s2⟩
/-! how many, and as bits -/
def cnS (S : Nat → Bool) (n : Nat) : Nat := sm (fun p => if S p = true then 1 else 0) n
def btS (S : Nat → Bool) (n : Nat) : Nat := sm (fun p => if S p = true then 2 ^ p else 0) n
theorem cnS_le (S : Nat → Bool) (n : Nat) : cnS S n ≤ n := by
  have := sm_le (f := fun p => if S p = true then 1 else 0) (c := 1) (fun p => by by_cases e : S p = true <;> simp [e]) n
  unfold cnS; omega
theorem btS_lt (S : Nat → Bool) : ∀ n, btS S n < 2 ^ n
  | 0 => Nat.zero_lt_one
  | n + 1 => by
    have := btS_lt S n
    unfold btS at this ⊢
    rw [sm, Nat.pow_succ]
    by_cases e : S n = true
    · rw [if_pos e]; omega
    · rw [if_neg e]; omega
theorem btS_cmp {S T : Nat → Bool} {s : Nat} (h1 : S s = false) (h2 : T s = true) : ∀ n, s < n → (∀ p, s < p → p < n → S p = T p) → btS S n < btS T n
  | 0, h, _ => absurd h (Nat.not_lt_zero _)
  | n + 1, h, he => by
    unfold btS
    rw [sm, sm]
    by_cases e : n = s
    · subst e
      have := btS_lt S n
      unfold btS at this
      rw [h1, h2, if_neg (by decide), if_pos rfl]
      omega
    · have ih := btS_cmp h1 h2 n (by omega) (fun p p1 p2 => he p p1 (by omega))
      unfold btS at ih
      rw [he n (by omega) (by omega)]
      omega
theorem btS_bit {S : Nat → Bool} {s : Nat} : ∀ n, s < n → btS S n / 2 ^ s % 2 = if S s = true then 1 else 0
  | 0, h => absurd h (Nat.not_lt_zero _)
  | n + 1, h => by
    have hl := btS_lt S n
    have hp : 0 < 2 ^ s := Nat.two_pow_pos s
    unfold btS at hl ⊢
    rw [sm]
    by_cases e : n = s
    · subst e
      by_cases c : S n = true
      · rw [if_pos c, if_pos c, Nat.add_div_right _ hp, Nat.div_eq_of_lt hl]
      · rw [if_neg c, if_neg c, Nat.add_zero, Nat.div_eq_of_lt hl]
    · have ih := btS_bit (S := S) n (show s < n by omega)
      unfold btS at ih
      by_cases c : S n = true
      · rw [if_pos c]
        obtain ⟨k, hk⟩ : ∃ k, n = s + 1 + k := ⟨n - s - 1, by omega⟩
        have e2 : 2 ^ n = 2 ^ s * (2 * 2 ^ k) := by
          rw [hk, Nat.pow_add, Nat.pow_succ]; rw [Nat.mul_assoc]
        rw [e2, Nat.add_mul_div_left _ _ hp, Nat.add_mul_mod_self_left]
        exact ih
      · rw [if_neg c, Nat.add_zero]
        exact ih
theorem p24 {k : Nat} (hk : k ≤ 24) : 2 ^ k ≤ 16777216 := by
  have := Nat.pow_le_pow_right (n := 2) (by decide) hk
  omega
/-! the sets that are asked for -/
def fzok (up : Nat → Int32) (can : Nat → Bool) (lack : Nat → Nat → Bool) (n : Nat) (S : Nat → Bool) : Prop := ∀ s, s < n → (S s = true → can s = true) ∧ (S s = false → ¬ up s < 0 ∧ gdS up S (upI up s) < 24 ∧ lack s (gdS up S (upI up s)) = true)
def mcon (m : Nat → Int32) (n : Nat) (S : Nat → Bool) : Prop := ∀ s, s < n → (m s = nI 2 → S s = false) ∧ (m s = nI 1 → S s = true)
def hvC (can : Nat → Bool) (s : Nat) : Nat := if can s = true then 16777216 + 2 ^ s else 536870912
def lcC (lack : Nat → Nat → Bool) (s a : Nat) : Nat := if a < 24 ∧ lack s a = true then 0 else 536870912
def hvR (can : Nat → Bool) (m : Nat → Int32) (s : Nat) : Nat := if ¬ m s = nI 2 ∧ can s = true then 1 else 1000
def lcR (lack : Nat → Nat → Bool) (m : Nat → Int32) (s a : Nat) : Nat := if ¬ m s = nI 1 ∧ a < 24 ∧ lack s a = true then 0 else 1000
theorem costC_ok {can : Nat → Bool} {lack : Nat → Nat → Bool} {S : Nat → Bool} (h : fzok up can lack n S) : fzS up (hvC can) (lcC lack) 536870912 n S = 16777216 * cnS S n + btS S n := by
  have e : ∀ i, i ≤ n → sm (fzc up (hvC can) (lcC lack) 536870912 S) i = 16777216 * cnS S i + btS S i := fun i => by
    induction i with
    | zero => intro _; rfl
    | succ i ih =>
      intro hi
      have ih := ih (by omega)
      obtain ⟨h1, h2⟩ := h i (by omega)
      unfold cnS btS at ih ⊢
      rw [sm, sm, sm, ih]
      unfold fzc hvC lcC
      cases c : S i with
      | true => rw [if_pos rfl, if_pos (h1 c), if_pos rfl, if_pos rfl]; omega
      | false =>
        obtain ⟨k1, k2, k3⟩ := h2 c
        rw [if_neg (by decide), if_neg k1, if_pos ⟨k2, k3⟩, if_neg (by decide), if_neg (by decide)]; omega
  exact e n (Nat.le_refl _)
theorem costR_ok {can : Nat → Bool} {lack : Nat → Nat → Bool} {S : Nat → Bool} {m : Nat → Int32} (h : fzok up can lack n S) (hm : mcon m n S) : fzS up (hvR can m) (lcR lack m) 1000 n S = cnS S n := by
  have e : ∀ i, i ≤ n → sm (fzc up (hvR can m) (lcR lack m) 1000 S) i = cnS S i := fun i => by
    induction i with
    | zero => intro _; rfl
    | succ i ih =>
      intro hi
      have ih := ih (by omega)
      obtain ⟨h1, h2⟩ := h i (by omega)
      obtain ⟨m1, m2⟩ := hm i (by omega)
      unfold cnS at ih ⊢
      rw [sm, sm, ih]
      unfold fzc hvR lcR
      cases c : S i with
      | true => rw [if_pos rfl, if_pos ⟨fun z => (by rw [m1 z] at c; cases c), h1 c⟩, if_pos rfl]
      | false =>
        obtain ⟨k1, k2, k3⟩ := h2 c
        rw [if_neg (by decide), if_neg k1, if_pos ⟨fun z => (by rw [m2 z] at c; cases c), k2, k3⟩, if_neg (by decide)]
  exact e n (Nat.le_refl _)
theorem costC_bad {can : Nat → Bool} {lack : Nat → Nat → Bool} {S : Nat → Bool} (h : fzS up (hvC can) (lcC lack) 536870912 n S < 536870912) : fzok up can lack n S := by
  intro s hs
  have h1 := sm_ge (f := fzc up (hvC can) (lcC lack) 536870912 S) n hs
  unfold fzS at h
  have h2 : fzc up (hvC can) (lcC lack) 536870912 S s < 536870912 := by omega
  unfold fzc hvC lcC at h2
  refine ⟨fun c => ?_, fun c => ?_⟩
  · rw [if_pos c] at h2
    by_cases e : can s = true
    · exact e
    · rw [if_neg e] at h2; omega
  · rw [if_neg (by rw [c]; decide)] at h2
    by_cases e : up s < 0
    · rw [if_pos e] at h2; omega
    · rw [if_neg e] at h2
      by_cases e2 : gdS up S (upI up s) < 24 ∧ lack s (gdS up S (upI up s)) = true
      · exact ⟨e, e2⟩
      · rw [if_neg e2] at h2; omega
theorem costR_bad {can : Nat → Bool} {lack : Nat → Nat → Bool} {S : Nat → Bool} {m : Nat → Int32} (h : fzS up (hvR can m) (lcR lack m) 1000 n S < 1000) : fzok up can lack n S ∧ mcon m n S := by
  have key : ∀ s, s < n → fzc up (hvR can m) (lcR lack m) 1000 S s < 1000 := fun s hs => by
    have h1 := sm_ge (f := fzc up (hvR can m) (lcR lack m) 1000 S) n hs
    unfold fzS at h
    omega
  refine ⟨fun s hs => ?_, fun s hs => ?_⟩
  · have h2 := key s hs
    unfold fzc hvR lcR at h2
    refine ⟨fun c => ?_, fun c => ?_⟩
    · rw [if_pos c] at h2
      by_cases e : ¬ m s = nI 2 ∧ can s = true
      · exact e.2
      · rw [if_neg e] at h2; omega
    · rw [if_neg (by rw [c]; decide)] at h2
      by_cases e : up s < 0
      · rw [if_pos e] at h2; omega
      · rw [if_neg e] at h2
        by_cases e2 : ¬ m s = nI 1 ∧ gdS up S (upI up s) < 24 ∧ lack s (gdS up S (upI up s)) = true
        · exact ⟨e, e2.2⟩
        · rw [if_neg e2] at h2; omega
  · have h2 := key s hs
    unfold fzc hvR lcR at h2
    refine ⟨fun c => ?_, fun c => ?_⟩
    · cases z : S s with
      | false => rfl
      | true =>
        rw [z, if_pos rfl, if_neg (fun k => k.1 c)] at h2
        omega
    · cases z : S s with
      | true => rfl
      | false =>
        rw [z, if_neg (by decide)] at h2
        by_cases e : up s < 0
        · rw [if_pos e] at h2; omega
        · rw [if_neg e, if_neg (fun k => k.1 c)] at h2
          omega
/-- what the two searches find -/
def fewV (up : Nat → Int32) (can : Nat → Bool) (lack : Nat → Nat → Bool) (n : Nat) (m : Nat → Int32) : Nat := min 1000 (dpN up (hvR can m) (lcR lack m) n)
def cstV (up : Nat → Int32) (can : Nat → Bool) (lack : Nat → Nat → Bool) (n : Nat) : Nat := min 536870912 (dpN up (hvC can) (lcC lack) n)
theorem fewV_ge {can : Nat → Bool} {lack : Nat → Nat → Bool} {m : Nat → Int32} (hn : n ≤ 24) (hU : UPok up n) : fewV up can lack n m = 1000 ∨ ∃ S : Nat → Bool, fzok up can lack n S ∧ mcon m n S ∧ fewV up can lack n m = cnS S n := by
  obtain ⟨S, s1, s2⟩ := dpN_at (hv := hvR can m) (lc := lcR lack m) (K := 1000) hn hU
  unfold fewV
  rw [← s2]
  by_cases c : fzS up (hvR can m) (lcR lack m) 1000 n S < 1000
  · obtain ⟨k1, k2⟩ := costR_bad c
    refine Or.inr ⟨S, k1, k2, ?_⟩
    rw [costR_ok k1 k2] at c ⊢
    omega
  · exact Or.inl (by omega)
theorem fewV_le {can : Nat → Bool} {lack : Nat → Nat → Bool} {m : Nat → Int32} {S : Nat → Bool} (hn : n ≤ 24) (hU : UPok up n) (h : fzok up can lack n S) (hm : mcon m n S) : fewV up can lack n m ≤ cnS S n := by
  have := dpN_le (hv := hvR can m) (lc := lcR lack m) (K := 1000) hn hU S
  rw [costR_ok h hm] at this
  unfold fewV
  omega
theorem mcon_0 {m : Nat → Int32} {S : Nat → Bool} (h : ∀ j, j < n → m j = nI 0) : mcon m n S := fun s hs => ⟨fun z => by rw [h s hs] at z; exact absurd z (by decide), fun z => by rw [h s hs] at z; exact absurd z (by decide)⟩
theorem cost_find {can : Nat → Bool} {lack : Nat → Nat → Bool} {m0 : Nat → Int32} (hn : n ≤ 24) (hU : UPok up n) (h0 : ∀ j, j < n → m0 j = nI 0) :
    (cstV up can lack n = 536870912 ∧ fewV up can lack n m0 = 1000) ∨ ∃ S : Nat → Bool, (∀ p, n ≤ p → S p = false) ∧ cstV up can lack n = 16777216 * cnS S n + btS S n ∧ fewV up can lack n m0 = cnS S n ∧
      ∀ (m : Nat → Int32) (s : Nat), s < n → (∀ p, s < p → p < n → (S p = true → m p = nI 1) ∧ (S p = false → m p = nI 2)) → m s = nI 2 → (∀ p, p < s → m p = nI 0) → (fewV up can lack n m = cnS S n ↔ S s = false) := by
  obtain ⟨S, s1, s2⟩ := dpN_at (hv := hvC can) (lc := lcC lack) (K := 536870912) hn hU
  have low : ∀ T : Nat → Bool, fzok up can lack n T → cstV up can lack n ≤ 16777216 * cnS T n + btS T n := fun T hT => by
    have := dpN_le (hv := hvC can) (lc := lcC lack) (K := 536870912) hn hU T
    rw [costC_ok hT] at this
    unfold cstV
    omega
  by_cases c : fzS up (hvC can) (lcC lack) 536870912 n S < 536870912
  · have hok := costC_bad c
    have hV : cstV up can lack n = 16777216 * cnS S n + btS S n := by
      unfold cstV
      rw [← s2]
      rw [costC_ok hok] at c ⊢
      omega
    have bt : ∀ T : Nat → Bool, btS T n < 16777216 := fun T => Nat.lt_of_lt_of_le (btS_lt T n) (p24 hn)
    have few0 : fewV up can lack n m0 = cnS S n := by
      have h1 := fewV_le (m := m0) hn hU hok (mcon_0 h0)
      have h2 := cnS_le S n
      rcases fewV_ge (can := can) (lack := lack) (m := m0) hn hU with e | ⟨T, t1, t2, t3⟩
      · omega
      · have h3 := low T t1
        rw [hV] at h3
        have h4 := bt T
        omega
    refine Or.inr ⟨S, s1, hV, few0, fun m s hs hm ms ml => ⟨fun e => ?_, fun e => ?_⟩⟩
    · have h2 := cnS_le S n
      rcases fewV_ge (can := can) (lack := lack) (m := m) hn hU with e2 | ⟨T, t1, t2, t3⟩
      · omega
      · cases z : S s with
        | false => rfl
        | true =>
          have h3 := low T t1
          have h4 : btS T n < btS S n := btS_cmp ((t2 s hs).1 ms) z n hs (fun p p1 p2 => by
            obtain ⟨k1, k2⟩ := hm p p1 p2
            cases y : S p with
            | true => exact (t2 p p2).2 (k1 y)
            | false => exact (t2 p p2).1 (k2 y))
          rw [hV] at h3
          omega
    · have hc : mcon m n S := fun p hp => by
        rcases Nat.lt_trichotomy p s with l | l | l
        · rw [ml p l]; exact ⟨fun z => absurd z (by decide), fun z => absurd z (by decide)⟩
        · subst l; rw [ms]; exact ⟨fun _ => e, fun z => absurd z (by decide)⟩
        · obtain ⟨k1, k2⟩ := hm p l hp
          refine ⟨fun z => ?_, fun z => ?_⟩
          · cases y : S p with
            | false => rfl
            | true => rw [k1 y] at z; exact absurd z (by decide)
          · cases y : S p with
            | true => rfl
            | false => rw [k2 y] at z; exact absurd z (by decide)
      have h1 := fewV_le (m := m) hn hU hok hc
      have h2 := cnS_le S n
      rcases fewV_ge (can := can) (lack := lack) (m := m) hn hU with e2 | ⟨T, t1, t2, t3⟩
      · omega
      · have h3 := fewV_le (m := m0) hn hU t1 (mcon_0 h0)
        omega
  · left
    have hV : cstV up can lack n = 536870912 := by
      unfold cstV
      rw [← s2]
      omega
    refine ⟨hV, ?_⟩
    rcases fewV_ge (can := can) (lack := lack) (m := m0) hn hU with e | ⟨T, t1, t2, t3⟩
    · exact e
    · have h3 := low T t1
      have h4 := cnS_le T n
      have h5 : btS T n < 16777216 := Nat.lt_of_lt_of_le (btS_lt T n) (p24 hn)
      omega
end SETS
