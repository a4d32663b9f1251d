/-! what branches carry: one row by two ways of summing -/
def upI (up : Nat → Int32) (i : Nat) : Nat := (up i).toNatClampNeg
/-- the component's way: own loads stand already; from i - 1 down each is added to its up -/
def dnS (up : Nat → Int32) : Nat → (Nat → Int32) → (Nat → Int32)
  | 0, w => w
  | i + 1, w => dnS up i (if up i < 0 then w else upd w (upI up i) (w (upI up i) + w i))
/-- the reference's way: its own load is added when it is its turn -/
def dnW (up ld : Nat → Int32) : Nat → (Nat → Int32) → (Nat → Int32)
  | 0, w => w
  | i + 1, w => dnW up ld i (if up i < 0 then upd w i (w i + ld i) else upd (upd w i (w i + ld i)) (upI up i) ((upd w i (w i + ld i)) (upI up i) + (upd w i (w i + ld i)) i))
def clF (ld dkf : Nat → Int32) (j : Nat) : Int32 := if dkf j = 0 then ld j else nI 0
def dnC (up ld dkf : Nat → Int32) : Nat → (Nat → Int32) → (Nat → Int32)
  | 0, w => w
  | i + 1, w => dnC up ld dkf i (if up i < 0 then upd w i (if dkf i = 0 then w i + ld i else nI 0) else upd (upd w i (if dkf i = 0 then w i + ld i else nI 0)) (upI up i) ((upd w i (if dkf i = 0 then w i + ld i else nI 0)) (upI up i) + (upd w i (if dkf i = 0 then w i + ld i else nI 0)) i))
theorem upd_s (f : Nat → Int32) (k : Nat) (x : Int32) : upd f k x k = x := if_pos rfl
theorem upd_n {f : Nat → Int32} {k j : Nat} {x : Int32} (h : j ≠ k) : upd f k x j = f j := if_neg h
theorem UPok.lt {up : Nat → Int32} {n i : Nat} (hU : UPok up n) (hn : n ≤ 24) (hi : i < n) (h : ¬ up i < 0) : upI up i < i ∧ up i = nI (upI up i) := by
  rcases hU i hi with hu | ⟨u, hu1, hu2⟩
  · rw [hu] at h; exact absurd neg1 h
  · unfold upI
    rw [hu2, nI_clamp (by omega)]
    exact ⟨hu1, rfl⟩
theorem dnW_S {up ld : Nat → Int32} {n : Nat} (hn : n ≤ 24) (hU : UPok up n) : ∀ (i : Nat) (w : Nat → Int32), i ≤ n → dnW up ld i w = dnS up i (fun j => if j < i then w j + ld j else w j)
  | 0, w, _ => by
    rw [dnW, dnS]
    funext j
    rw [if_neg (Nat.not_lt_zero _)]
  | i + 1, w, hi => by
    rw [dnW, dnS, dnW_S hn hU i _ (by omega)]
    congr 1
    funext j
    by_cases hu : up i < 0
    · rw [if_pos hu, if_pos hu]
      by_cases e : j = i
      · subst e
        rw [if_neg (Nat.lt_irrefl _), if_pos (Nat.lt_succ_self _), upd_s]
      · rw [upd_n e]
        by_cases e2 : j < i
        · rw [if_pos e2, if_pos (by omega)]
        · rw [if_neg e2, if_neg (by omega)]
    · obtain ⟨h1, -⟩ := hU.lt hn (show i < n by omega) hu
      rw [if_neg hu, if_neg hu, upd_s, upd_n (f := w) (show upI up i ≠ i by omega)]
      by_cases e : j = upI up i
      · subst e
        rw [if_pos h1, upd_s, upd_s, if_pos (by omega), if_pos (Nat.lt_succ_self _)]
        rw [Int32.add_assoc, Int32.add_comm (w i + ld i), ← Int32.add_assoc]
      · rw [upd_n e, upd_n e]
        by_cases e2 : j = i
        · subst e2
          rw [if_neg (Nat.lt_irrefl _), if_pos (Nat.lt_succ_self _), upd_s]
        · rw [upd_n e2]
          by_cases e3 : j < i
          · rw [if_pos e3, if_pos (by omega)]
          · rw [if_neg e3, if_neg (by omega)]
theorem dnC_S {up ld dkf : Nat → Int32} {n : Nat} (hn : n ≤ 24) (hU : UPok up n) (hk : ∀ i, i < n → ¬ up i < 0 → ¬ dkf (upI up i) = 0 → ¬ dkf i = 0) : ∀ (i : Nat) (w : Nat → Int32), i ≤ n → (∀ j, j < i → ¬ dkf j = 0 → w j = nI 0) → dnC up ld dkf i w = dnS up i (fun j => if j < i then w j + clF ld dkf j else w j)
  | 0, w, _, _ => by
    rw [dnC, dnS]
    funext j
    rw [if_neg (Nat.not_lt_zero _)]
  | i + 1, w, hi, hw => by
    have hown : (if dkf i = 0 then w i + ld i else nI 0) = w i + clF ld dkf i := by
      unfold clF
      by_cases h0 : dkf i = 0
      · rw [if_pos h0, if_pos h0]
      · rw [if_neg h0, if_neg h0, hw i (by omega) h0]; rfl
    rw [dnC, dnS, hown]
    rw [dnC_S hn hU hk i _ (by omega) ?_]
    · congr 1
      funext j
      by_cases hu : up i < 0
      · rw [if_pos hu, if_pos hu]
        by_cases e : j = i
        · subst e
          rw [if_neg (Nat.lt_irrefl _), if_pos (Nat.lt_succ_self _), upd_s]
        · rw [upd_n e]
          by_cases e2 : j < i
          · rw [if_pos e2, if_pos (by omega)]
          · rw [if_neg e2, if_neg (by omega)]
      · obtain ⟨h1, -⟩ := hU.lt hn (show i < n by omega) hu
        rw [if_neg hu, if_neg hu, upd_s, upd_n (f := w) (show upI up i ≠ i by omega)]
        by_cases e : j = upI up i
        · subst e
          rw [if_pos h1, upd_s, upd_s, if_pos (by omega), if_pos (Nat.lt_succ_self _)]
          rw [Int32.add_assoc, Int32.add_comm (w i + clF ld dkf i), ← Int32.add_assoc]
        · rw [upd_n e, upd_n e]
          by_cases e2 : j = i
          · subst e2
            rw [if_neg (Nat.lt_irrefl _), if_pos (Nat.lt_succ_self _), upd_s]
          · rw [upd_n e2]
            by_cases e3 : j < i
            · rw [if_pos e3, if_pos (by omega)]
            · rw [if_neg e3, if_neg (by omega)]
    · intro j hj hd
      by_cases hu : up i < 0
      · rw [if_pos hu, upd_n (by omega)]
        exact hw j (by omega) hd
      · obtain ⟨h1, -⟩ := hU.lt hn (show i < n by omega) hu
        rw [if_neg hu, upd_s, upd_n (f := w) (show upI up i ≠ i by omega)]
        by_cases e : j = upI up i
        · subst e
          have h2 := hk i (by omega) hu hd
          rw [upd_s, hw _ (by omega) hd, hw i (by omega) h2]
          unfold clF
          rw [if_neg h2]
          rfl
        · rw [upd_n e, upd_n (by omega)]
          exact hw j (by omega) hd
/-- only the first n places matter -/
theorem dnS_cg {up : Nat → Int32} {n : Nat} (hn : n ≤ 24) (hU : UPok up n) : ∀ (i : Nat) (f g : Nat → Int32), i ≤ n → (∀ j, j < n → f j = g j) → ∀ j, j < n → dnS up i f j = dnS up i g j
  | 0, f, g, _, h, j, hj => h j hj
  | i + 1, f, g, hi, h, j, hj => by
    rw [dnS, dnS]
    refine dnS_cg hn hU i _ _ (by omega) (fun k hk => ?_) j hj
    by_cases hu : up i < 0
    · rw [if_pos hu, if_pos hu]; exact h k hk
    · obtain ⟨h1, -⟩ := hU.lt hn (show i < n by omega) hu
      rw [if_neg hu, if_neg hu]
      by_cases e : k = upI up i
      · subst e
        rw [upd_s, upd_s, h _ hk, h i (by omega)]
      · rw [upd_n e, upd_n e]; exact h k hk
/-- what each carries at the worst, and now -/
def wsV9 (up ld : Nat → Int32) (n : Nat) : Nat → Int32 := dnS up n ld
def crV9 (up ld dkf : Nat → Int32) (n : Nat) : Nat → Int32 := dnS up n (clF ld dkf)
