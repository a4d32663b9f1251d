/-! the plan: one string hung, on both sides -/
abbrev pS : Type := (Nat → Int32) × (Nat → Int32) × (Nat → Int32)
def pl_wd (h : pmH) (s : Nat) : Int32 := nI 1 + h 11 s / nI 20
def pl_row (h : pmH) (s : Nat) : Int32 := h 29 (h 10 s).toNatClampNeg
def pl_fc (hl : Nat → Int32) (w : Int32) (b : Nat) : Nat → Nat → Option Nat
  | 0, _ => none
  | k + 1, c => if hl (b + c) < w then pl_fc hl w b k (c + 1) else some c
def pl_nt (hl : Nat → Int32) (w row : Int32) (C : Nat) : Nat → Nat → Option (Nat × Nat)
  | 0, _ => none
  | k + 1, n => if hb row (nI (n % 7)) = true then (match pl_fc hl w (3 * n) C 0 with
    | some c => some (n, c)
    | none => pl_nt hl w row C k (n + 1)) else pl_nt hl w row C k (n + 1)
def pl_fr (h : pmH) (ng : Nat → Int32) (s : Nat) : Nat := if h 9 s < 0 then 0 else (ng (upI (h 9) s)).toNatClampNeg
def pl_no (h : pmH) (ng : Nat → Int32) (s : Nat) : Prop := ¬ h 9 s < 0 ∧ ng (upI (h 9) s) < 0
def pl_pl (h : pmH) (C : Nat) (q : pS) (s : Nat) : Option (Nat × Nat) := if h 9 s < 0 then pl_nt q.2.2 (pl_wd h s) (pl_row h s) C 60 0 else (if q.1 (upI (h 9) s) < 0 then none else pl_nt q.2.2 (pl_wd h s) (pl_row h s) C (60 - (q.1 (upI (h 9) s)).toNatClampNeg) (q.1 (upI (h 9) s)).toNatClampNeg)
def pl_put (h : pmH) (s : Nat) (q : pS) : Option (Nat × Nat) → pS
  | none => q
  | some p => (upd q.1 s (nI p.1), upd q.2.1 s (nI p.2), upd q.2.2 (3 * p.1 + p.2) (q.2.2 (3 * p.1 + p.2) - pl_wd h s))
def pl_en : Option (Nat × Nat) → Nat
  | none => 99
  | some p => 1 + p.1
def pl_hg (h : pmH) (C s : Nat) (q : pS) : pS := pl_put h s q (pl_pl h C q s)
def pl_ev (h : pmH) (C s : Nat) (q : pS) : Nat := pl_en (pl_pl h C q s)
def GQ (q : pS) (n H : Nat) : Prop := (∀ j, j < n → q.1 j = -nI 1 ∨ ∃ k, k < 60 ∧ q.1 j = nI k) ∧ ∀ j, j < 180 → ∃ a, a ≤ H ∧ q.2.2 j = nI a
theorem pl_fc_some {hl : Nat → Int32} {w : Int32} {b : Nat} : ∀ (k c r : Nat), pl_fc hl w b k c = some r → c ≤ r ∧ r < c + k ∧ ¬ hl (b + r) < w
  | 0, c, r, h => by rw [pl_fc] at h; cases h
  | k + 1, c, r, h => by
    rw [pl_fc] at h
    by_cases c1 : hl (b + c) < w
    · rw [if_pos c1] at h
      obtain ⟨h1, h2, h3⟩ := pl_fc_some k (c + 1) r h
      exact ⟨by omega, by omega, h3⟩
    · rw [if_neg c1] at h
      cases h
      exact ⟨by omega, by omega, c1⟩
theorem pl_nt_some {hl : Nat → Int32} {w row : Int32} {C : Nat} : ∀ (k n : Nat) (p : Nat × Nat), pl_nt hl w row C k n = some p → n ≤ p.1 ∧ p.1 < n + k ∧ p.2 < C ∧ ¬ hl (3 * p.1 + p.2) < w
  | 0, n, p, h => by rw [pl_nt] at h; cases h
  | k + 1, n, p, h => by
    have ih := pl_nt_some (hl := hl) (w := w) (row := row) (C := C) k (n + 1) p
    rw [pl_nt] at h
    by_cases c1 : hb row (nI (n % 7)) = true
    · rw [if_pos c1] at h
      cases hf : pl_fc hl w (3 * n) C 0 with
      | none =>
        rw [hf] at h
        obtain ⟨h1, h2, h3⟩ := ih h
        exact ⟨by omega, by omega, h3⟩
      | some c =>
        rw [hf] at h
        cases h
        obtain ⟨h1, h2, h3⟩ := pl_fc_some _ _ _ hf
        exact ⟨by omega, by omega, by dsimp only; omega, h3⟩
    · rw [if_neg c1] at h
      obtain ⟨h1, h2, h3⟩ := ih h
      exact ⟨by omega, by omega, h3⟩
theorem pl_fc_none {hl : Nat → Int32} {w : Int32} {b : Nat} : ∀ (k c : Nat), (∀ r, c ≤ r → r < c + k → hl (b + r) < w) → pl_fc hl w b k c = none
  | 0, c, h => rfl
  | k + 1, c, h => by
    rw [pl_fc, if_pos (h c (by omega) (by omega))]
    exact pl_fc_none k (c + 1) (fun r h1 h2 => h r (by omega) (by omega))
theorem pl_nt_none {hl : Nat → Int32} {w row : Int32} {C : Nat} (hC : C ≤ 3) (hw : ∀ j, j < 180 → hl j < w) : ∀ (k n : Nat), n + k ≤ 60 → pl_nt hl w row C k n = none
  | 0, n, h => rfl
  | k + 1, n, h => by
    have ih := pl_nt_none (hl := hl) (w := w) (row := row) (C := C) hC hw k (n + 1) (by omega)
    rw [pl_nt, pl_fc_none C 0 (fun r _ h2 => hw _ (by omega))]
    by_cases c1 : hb row (nI (n % 7)) = true
    · rw [if_pos c1]; exact ih
    · rw [if_neg c1]; exact ih
theorem VS.wd {h : pmH} {n s : Nat} (hV : VS h n) (hs : s < n) : ∃ W, 1 ≤ W ∧ W ≤ 6 ∧ pl_wd h s = nI W := by
  obtain ⟨-, -, -, ⟨k, k1, k2, k3⟩, -⟩ := hV s hs
  unfold pl_wd
  rw [k3, pk_div (by omega) (by decide) (by decide), nI_add]
  exact ⟨1 + k / 20, by omega, by omega, rfl⟩
theorem pl_pl_some {h : pmH} {C n H s : Nat} {q : pS} {p : Nat × Nat} (hU : UPok (h 9) n) (hn : n ≤ 24) (hs : s < n) (hq : GQ q n H) (hp : pl_pl h C q s = some p) : p.1 < 60 ∧ p.2 < C ∧ ¬ q.2.2 (3 * p.1 + p.2) < pl_wd h s := by
  unfold pl_pl at hp
  by_cases hu : h 9 s < 0
  · rw [if_pos hu] at hp
    obtain ⟨h1, h2, h3, h4⟩ := pl_nt_some _ _ _ hp
    exact ⟨by omega, h3, h4⟩
  · rw [if_neg hu] at hp
    obtain ⟨u1, u2⟩ := hU.lt hn hs hu
    rcases hq.1 (upI (h 9) s) (by omega) with e | ⟨k, k1, k2⟩
    · rw [e, if_pos neg1] at hp; cases hp
    · rw [k2, if_neg (nI_pos (by omega)), nI_clamp (by omega)] at hp
      obtain ⟨h1, h2, h3, h4⟩ := pl_nt_some _ _ _ hp
      exact ⟨by omega, h3, h4⟩
theorem pl_ev_le {h : pmH} {C n H s : Nat} {q : pS} (hU : UPok (h 9) n) (hn : n ≤ 24) (hs : s < n) (hq : GQ q n H) : pl_ev h C s q ≤ 99 := by
  unfold pl_ev
  cases hp : pl_pl h C q s with
  | none => exact Nat.le_refl _
  | some p =>
    have := (pl_pl_some hU hn hs hq hp).1
    show 1 + p.1 ≤ 99
    omega
theorem GQ.hg {h : pmH} {C n H s : Nat} {q : pS} (hV : VS h n) (hn : n ≤ 24) (hs : s < n) (hH : H ≤ 12) (hq : GQ q n H) : GQ (pl_hg h C s q) n H := by
  unfold pl_hg
  cases hp : pl_pl h C q s with
  | none => exact hq
  | some p =>
    obtain ⟨p1, p2, p3⟩ := pl_pl_some hV.up hn hs hq hp
    obtain ⟨W, w1, w2, w3⟩ := hV.wd hs
    refine ⟨fun j hj => ?_, fun j hj => ?_⟩
    · show upd q.1 s (nI p.1) j = -nI 1 ∨ ∃ k, k < 60 ∧ upd q.1 s (nI p.1) j = nI k
      by_cases e : j = s
      · subst e; rw [upd_s]; exact Or.inr ⟨_, p1, rfl⟩
      · rw [upd_n e]; exact hq.1 j hj
    · show ∃ a, a ≤ H ∧ upd q.2.2 (3 * p.1 + p.2) (q.2.2 (3 * p.1 + p.2) - pl_wd h s) j = nI a
      by_cases e : j = 3 * p.1 + p.2
      · subst e
        obtain ⟨a, a1, a2⟩ := hq.2 _ hj
        rw [a2, w3] at p3
        rw [upd_s, a2, w3]
        have : W ≤ a := Nat.le_of_not_lt (fun z => p3 (nI_lt z (by omega)))
        rw [pk_sub this]
        exact ⟨a - W, by omega, rfl⟩
      · rw [upd_n e]; exact hq.2 j hj
theorem hg_ne {h : pmH} {C s j : Nat} {q : pS} (e : j ≠ s) : (pl_hg h C s q).1 j = q.1 j := by
  unfold pl_hg
  cases hp : pl_pl h C q s with
  | none => rfl
  | some p => exact upd_n e
/-! the worlds -/
def S3 (g : pmH) (q : pS) : pmH := pm_pt (pm_pt (pm_pt g 31 q.1) 32 q.2.1) 33 q.2.2
theorem S3_ne {g : pmH} {q : pS} {k : Nat} (h1 : k ≠ 31) (h2 : k ≠ 32) (h3 : k ≠ 33) : S3 g q k = g k := by unfold S3; rw [pt_ne h3, pt_ne h2, pt_ne h1]
theorem S3_31 {g : pmH} {q : pS} : S3 g q 31 = q.1 := by unfold S3; rw [pt_ne (by decide), pt_ne (by decide), pt_same]
theorem S3_32 {g : pmH} {q : pS} : S3 g q 32 = q.2.1 := by unfold S3; rw [pt_ne (by decide), pt_same]
theorem S3_33 {g : pmH} {q : pS} : S3 g q 33 = q.2.2 := by unfold S3; rw [pt_same]
theorem S3_u {g : pmH} {q : pS} {i j k : Nat} {x y z : Int32} : pm_up (pm_up (pm_up (S3 g q) 33 k z) 31 i x) 32 j y = S3 g (upd q.1 i x, upd q.2.1 j y, upd q.2.2 k z) := by
  funext a
  unfold S3 pm_up pm_pt
  by_cases h1 : a = 31
  · subst h1; simp
  · by_cases h2 : a = 32
    · subst h2; simp
    · by_cases h3 : a = 33
      · subst h3; simp
      · simp [h1, h2, h3]
def M3 (H : Nat) (g : pmH) (q : pS) : pmH := pm_pt (pm_pt (pm_pt g 65 q.1) 66 q.2.1) 67 (fun j => nI H - q.2.2 j)
theorem M3_ne {H : Nat} {g : pmH} {q : pS} {k : Nat} (h1 : k ≠ 65) (h2 : k ≠ 66) (h3 : k ≠ 67) : M3 H g q k = g k := by unfold M3; rw [pt_ne h3, pt_ne h2, pt_ne h1]
theorem M3_65 {H : Nat} {g : pmH} {q : pS} : M3 H g q 65 = q.1 := by unfold M3; rw [pt_ne (by decide), pt_ne (by decide), pt_same]
theorem M3_66 {H : Nat} {g : pmH} {q : pS} : M3 H g q 66 = q.2.1 := by unfold M3; rw [pt_ne (by decide), pt_same]
theorem M3_67 {H : Nat} {g : pmH} {q : pS} : M3 H g q 67 = fun j => nI H - q.2.2 j := by unfold M3; rw [pt_same]
theorem i_ssub (a b c : Int32) : a - b + c = a - (b - c) := by grind
theorem i_sss (a b : Int32) : a - (a - b) = b := by grind
theorem i_sadd (a b : Int32) : a - b + b = a := by grind
theorem M3_u {H : Nat} {g : pmH} {q : pS} {i j k : Nat} {x y w : Int32} : pm_up (pm_up (pm_up (M3 H g q) 67 k ((nI H - q.2.2 k) + w)) 65 i x) 66 j y = M3 H g (upd q.1 i x, upd q.2.1 j y, upd q.2.2 k (q.2.2 k - w)) := by
  funext a
  unfold M3 pm_up pm_pt
  by_cases h1 : a = 65
  · subst h1; simp
  · by_cases h2 : a = 66
    · subst h2; simp
    · by_cases h3 : a = 67
      · subst h3
        simp
        funext b
        unfold upd
        by_cases e : b = k
        · rw [if_pos e, if_pos e]; exact i_ssub _ _ _
        · rw [if_neg e, if_neg e]
      · simp [h1, h2, h3]
def PKc (g h : pmH) (C H n : Nat) : Prop := g 9 = h 9 ∧ g 10 = h 10 ∧ g 11 = h 11 ∧ g 29 = h 29 ∧ g 28 1 = nI C ∧ g 28 2 = nI H ∧ g 7 0 = nI n
def PKm (g h : pmH) (C H n : Nat) : Prop := g 44 = h 9 ∧ g 45 = h 10 ∧ g 46 = h 11 ∧ g 55 = h 29 ∧ g 39 3 = nI C ∧ g 39 4 = nI H ∧ g 39 1 = nI n
theorem PKc.S {g h : pmH} {C H n : Nat} {q : pS} (p : PKc g h C H n) : PKc (S3 g q) h C H n := by
  unfold PKc at p ⊢
  rw [S3_ne (by decide) (by decide) (by decide), S3_ne (by decide) (by decide) (by decide), S3_ne (by decide) (by decide) (by decide), S3_ne (by decide) (by decide) (by decide), S3_ne (by decide) (by decide) (by decide), S3_ne (by decide) (by decide) (by decide)]
  exact p
theorem PKm.M {g h : pmH} {C H n : Nat} {q : pS} (p : PKm g h C H n) : PKm (M3 H g q) h C H n := by
  unfold PKm at p ⊢
  rw [M3_ne (by decide) (by decide) (by decide), M3_ne (by decide) (by decide) (by decide), M3_ne (by decide) (by decide) (by decide), M3_ne (by decide) (by decide) (by decide), M3_ne (by decide) (by decide) (by decide)]
  exact p
def fcI : Option Nat → Int32
  | none => -nI 1
  | some c => nI c
theorem fcI_n : fcI none = -nI 1 := rfl
theorem fcI_s {c : Nat} : fcI (some c) = nI c := rfl
theorem z20 : ¬ nI 20 = 0 := by decide
theorem z7 : ¬ nI 7 = 0 := by decide
section PLAN
variable {sl : Nat} {xs : Nat → Int32}
theorem c_hours {d : Nat} {g h : pmH} {s : Nat} (e : g 11 = h 11) (hs : s < 24) : pm_cf (pm_Ev sl xs) (d + 1) 48 [.ref 8, .int (nI s)] (SH, g) = some (some (.int (pl_wd h s)), (SH, g)) := by
  rw [qX5_hours_0, pm_ix_nI hs (by decide), if_neg z20, e]; rfl
theorem m_wants {d : Nat} {g h : pmH} {s : Nat} (e : g 46 = h 11) (hs : s < 24) : pm_cf (pm_Ev sl xs) (d + 1) 131 [.ref 40, .int (nI s)] (SH, g) = some (some (.int (pl_wd h s)), (SH, g)) := by
  rw [qX8_wants_0, pm_ix_nI hs (by decide), if_neg z20, e]; rfl
theorem free_c {d : Nat} {g : pmH} {C nt : Nat} {w : Int32} (hC : C ≤ 3) (c1 : g 28 1 = nI C) (hnt : nt < 60) : ∀ (k c : Nat), c + k = C → pm_Ev sl xs d 34 2 [some (.ref 29), some (.int (nI nt)), some (.int w), some (.int (nI c))] [] (SH, g) = some (some (.int (fcI (pl_fc (g 33) w (3 * nt) k c))), (SH, g))
  | 0, c, hc => by
    rw [qX4_freeCrew_2, c1, if_pos (nI_le (by omega) (by omega))]
    rfl
  | k + 1, c, hc => by
    rw [qX4_freeCrew_2, c1, if_neg (nI_ge (by omega) (by omega)), pk_mul, nI_add, pm_ix_nI (by omega) (by decide), Nat.mul_comm nt 3, pl_fc, nI_add]
    by_cases e : g 33 (3 * nt + c) < w
    · rw [if_pos e, if_pos e]
      exact free_c hC c1 hnt k (c + 1) (by omega)
    · rw [if_neg e, if_neg e]
      rfl
theorem c_free {d : Nat} {g : pmH} {C nt : Nat} {w : Int32} (hC : C ≤ 3) (c1 : g 28 1 = nI C) (hnt : nt < 60) : pm_cf (pm_Ev sl xs) (d + 1) 34 [.ref 29, .int (nI nt), .int w] (SH, g) = some (some (.int (fcI (pl_fc (g 33) w (3 * nt) C 0))), (SH, g)) := by
  rw [qX4_freeCrew_0]; exact free_c hC c1 hnt C 0 (by omega)
theorem ew_loop {d : Nat} {g h : pmH} {C H n s : Nat} {q : pS} {row : Int32} (hC : C ≤ 3) (hn : n ≤ 24) (hs : s < n) (hp : PKc g h C H n) : ∀ (k nt : Nat) (o2 o3 o6 : Option Value), nt + k = 60 → pm_Ev sl xs (d + 1) 33 66 [some (.ref 29), some (.int (nI s)), o2, o3, some (.int row), some (.int (nI nt)), o6] [] (SH, S3 g q) = some (some (.int (nI (pl_en (pl_nt q.2.2 (pl_wd h s) row C k nt)))), (SH, S3 g (pl_put h s q (pl_nt q.2.2 (pl_wd h s) row C k nt))))
  | 0, nt, o2, o3, o6, hk => by
    rw [qX4_endWith_66, if_pos (nI_le (by omega) (by omega))]
    rfl
  | k + 1, nt, o2, o3, o6, hk => by
    have ih := fun o6 => ew_loop (d := d) (q := q) (row := row) hC hn hs hp k (nt + 1) o2 o3 o6 (by omega)
    have hp2 := hp.S (q := q)
    have ix : ∀ (t : Nat → Option pmR), pm_ix none (nI s) 24 t = t s := fun t => pm_ix_nI (by omega) (by decide)
    have hh : pm_cf (pm_Ev sl xs) (d + 1) 48 [.ref 8, .int (nI s)] (SH, S3 g q) = some (some (.int (pl_wd h s)), (SH, S3 g q)) := c_hours hp2.2.2.1 (by omega)
    rw [qX4_endWith_66, if_neg (nI_ge (by omega) (by omega)), if_neg z7, pk_rem (by omega) (by decide) (by decide), c_hasBit, pm_ri_ok, bI_if, pl_nt, nI_add]
    by_cases c1 : hb row (nI (nt % 7)) = true
    · rw [if_pos c1, if_pos c1, hh, pm_ri_ok, c_free hC hp2.2.2.2.2.1 (by omega), pm_ri_ok, S3_33]
      cases hf : pl_fc q.2.2 (pl_wd h s) (3 * nt) C 0 with
      | none =>
        rw [fcI_n, if_pos neg1]
        exact ih _
      | some c =>
        have hc := pl_fc_some _ _ _ hf
        have ij : ∀ (t : Nat → Option pmR), pm_ix none (nI (nt * 3 + c)) 180 t = t (3 * nt + c) := fun t => by
          rw [Nat.mul_comm nt 3]; exact pm_ix_nI (by omega) (by decide)
        rw [fcI_s, if_neg (nI_pos (by omega)), pk_mul, nI_add, ij, hh, pm_ri_ok, ij, ix, ix, nI_add, S3_u]
        rfl
    · rw [if_neg c1, if_neg c1, if_pos neg1]
      exact ih _
theorem pl_row_ix {h : pmH} {n s : Nat} (hV : VS h n) (hs : s < n) {t : Nat → Option pmR} : pm_ix none (h 10 s) 8 t = t (h 10 s).toNatClampNeg := by
  obtain ⟨-, -, ⟨k, k1, k2⟩, -⟩ := hV s hs
  rw [k2, nI_clamp (by omega)]
  exact pm_ix_nI (by omega) (by decide)
theorem c_endWith {d : Nat} {g h : pmH} {C H n s : Nat} {q : pS} (hC : C ≤ 3) (hH : H ≤ 12) (hn : n ≤ 24) (hs : s < n) (hV : VS h n) (hp : PKc g h C H n) (hq : GQ q n H) : pm_cf (pm_Ev sl xs) (d + 2) 33 [.ref 29, .int (nI s)] (SH, S3 g q) = some (some (.int (nI (pl_ev h C s q))), (SH, S3 g (pl_hg h C s q))) := by
  have hp2 := hp.S (q := q)
  obtain ⟨a9, a10, a11, a29, a1, a2, a7⟩ := hp2
  have ix : ∀ (t : Nat → Option pmR), pm_ix none (nI s) 24 t = t s := fun t => pm_ix_nI (by omega) (by decide)
  have hh : pm_cf (pm_Ev sl xs) (d + 1) 48 [.ref 8, .int (nI s)] (SH, S3 g q) = some (some (.int (pl_wd h s)), (SH, S3 g q)) := c_hours a11 (by omega)
  obtain ⟨W, w1, w2, w3⟩ := hV.wd hs
  have big : ¬ W ≤ H → ∀ k nt, nt + k ≤ 60 → pl_nt q.2.2 (pl_wd h s) (pl_row h s) C k nt = none := fun hw k nt hk => by
    refine pl_nt_none hC (fun j hj => ?_) k nt hk
    obtain ⟨a, b1, b2⟩ := hq.2 j hj
    rw [b2, w3]
    exact nI_lt (by omega) (by omega)
  unfold pl_ev pl_hg pl_pl
  rw [qX4_endWith_0, ix, a9]
  by_cases hu : h 9 s < 0
  · rw [if_neg (fun z => (ge0 _).mp z hu), if_pos hu, if_neg (show ¬ nI 0 < 0 by decide), hh, pm_ri_ok, a2, a10]
    by_cases hw : W ≤ H
    · rw [if_pos (by rw [w3]; exact nI_le hw (by omega)), ix, pl_row_ix hV hs, a29]
      exact ew_loop hC hn hs hp 60 0 _ _ _ (by omega)
    · rw [if_neg (by rw [w3]; exact nI_ge (by omega) (by omega)), big hw 60 0 (by omega)]
      rfl
  · obtain ⟨u1, u2⟩ := hV.up.lt hn hs hu
    have iu : ∀ (t : Nat → Option pmR), pm_ix none (h 9 s) 24 t = t (upI (h 9) s) := fun t => by rw [u2]; exact pm_ix_nI (by omega) (by decide)
    rw [if_pos ((ge0 _).mpr hu), if_neg hu, iu, S3_31]
    rcases hq.1 (upI (h 9) s) (by omega) with e | ⟨f, f1, f2⟩
    · rw [e, if_pos neg1, if_pos neg1]
      rfl
    · rw [f2, if_neg (nI_pos (by omega)), if_neg (nI_pos (by omega)), hh, pm_ri_ok, a2, a10, nI_clamp (by omega)]
      by_cases hw : W ≤ H
      · rw [if_pos (by rw [w3]; exact nI_le hw (by omega)), ix, pl_row_ix hV hs, a29]
        exact ew_loop hC hn hs hp (60 - f) f _ _ _ (by omega)
      · rw [if_neg (by rw [w3]; exact nI_ge (by omega) (by omega)), big hw (60 - f) f (by omega)]
        rfl
/-! the reference -/
theorem hg_in {d : Nat} {g h : pmH} {C H n s nt : Nat} {q : pS} (hC : C ≤ 3) (hH : H ≤ 12) (hn : n ≤ 24) (hs : s < n) (hnt : nt < 60) (hV : VS h n) (hp : PKm g h C H n) (hq : GQ q n H) : ∀ (k c : Nat), c + k = C → pm_Ev sl xs (d + 1) 132 81 [some (.ref 40), some (.int (nI s)), some (.int (nI nt)), some (.int (nI c))] [] (SH, M3 H g q) = (match pl_fc q.2.2 (pl_wd h s) (3 * nt) k c with
    | none => pm_Ev sl xs (d + 1) 132 49 [some (.ref 40), some (.int (nI s)), some (.int (nI (nt + 1))), some (.int (nI C))] [] (SH, M3 H g q)
    | some c => some (none, (SH, M3 H g (pl_put h s q (some (nt, c))))))
  | 0, c, hc => by
    have e : c = C := by omega
    subst e
    rw [qX8_hangs_81, hp.M.2.2.2.2.1, if_pos (nI_le (Nat.le_refl _) (by omega)), nI_add]
    rfl
  | k + 1, c, hc => by
    have ix : ∀ (t : Nat → Option pmR), pm_ix none (nI s) 24 t = t s := fun t => pm_ix_nI (by omega) (by decide)
    have ij : ∀ (t : Nat → Option pmR), pm_ix none (nI (3 * nt + c)) 180 t = t (3 * nt + c) := fun t => pm_ix_nI (by omega) (by decide)
    have hh : pm_cf (pm_Ev sl xs) (d + 1) 131 [.ref 40, .int (nI s)] (SH, M3 H g q) = some (some (.int (pl_wd h s)), (SH, M3 H g q)) := m_wants hp.M.2.2.1 (by omega)
    obtain ⟨W, w1, w2, w3⟩ := hV.wd hs
    obtain ⟨a, a1, a2⟩ := hq.2 (3 * nt + c) (by omega)
    have hcmp : (nI H - q.2.2 (3 * nt + c)) + pl_wd h s ≤ nI H ↔ ¬ q.2.2 (3 * nt + c) < pl_wd h s := by
      rw [a2, w3, pk_sub a1, nI_add, nI_leI (by omega) (by omega), nI_ltI (by omega) (by omega)]
      omega
    rw [qX8_hangs_81, hp.M.2.2.2.2.1, if_neg (nI_ge (by omega) (by omega)), pk_mul, nI_add, ij, hh, pm_ri_ok, hp.M.2.2.2.2.2.1, M3_67, pl_fc]
    by_cases e : q.2.2 (3 * nt + c) < pl_wd h s
    · rw [if_neg (fun z => hcmp.mp z e), if_pos e, nI_add]
      exact hg_in hC hH hn hs hnt hV hp hq k (c + 1) (by omega)
    · rw [if_pos (hcmp.mpr e), if_neg e, ij, hh, pm_ri_ok, ij, ix, ix, M3_u]
      rfl
theorem hg_out {d : Nat} {g h : pmH} {C H n s : Nat} {q : pS} (hC : C ≤ 3) (hH : H ≤ 12) (hn : n ≤ 24) (hs : s < n) (hV : VS h n) (hp : PKm g h C H n) (hq : GQ q n H) : ∀ (k nt : Nat) (o3 : Option Value), nt + k = 60 → pm_Ev sl xs (d + 1) 132 49 [some (.ref 40), some (.int (nI s)), some (.int (nI nt)), o3] [] (SH, M3 H g q) = some (none, (SH, M3 H g (pl_put h s q (pl_nt q.2.2 (pl_wd h s) (pl_row h s) C k nt))))
  | 0, nt, o3, hk => by
    rw [qX8_hangs_49, if_pos (nI_le (by omega) (by omega))]
    rfl
  | k + 1, nt, o3, hk => by
    have ih := fun o3 => hg_out (d := d) hC hH hn hs hV hp hq k (nt + 1) o3 (by omega)
    have ix : ∀ (t : Nat → Option pmR), pm_ix none (nI s) 24 t = t s := fun t => pm_ix_nI (by omega) (by decide)
    rw [qX8_hangs_49, if_neg (nI_ge (by omega) (by omega)), ix, hp.M.2.1, pl_row_ix hV hs, if_neg z7, pk_rem (by omega) (by decide) (by decide), c_hasM, pm_ri_ok, bI_if, hp.M.2.2.2.1, pl_nt, nI_add]
    by_cases c1 : hb (pl_row h s) (nI (nt % 7)) = true
    · have c2 : hb (h 29 (h 10 s).toNatClampNeg) (nI (nt % 7)) = true := c1
      rw [if_pos c1, if_pos c2, hg_in hC hH hn hs (by omega) hV hp hq C 0 (by omega)]
      cases hf : pl_fc q.2.2 (pl_wd h s) (3 * nt) C 0 with
      | none => exact ih _
      | some c => rfl
    · have c2 : ¬ hb (h 29 (h 10 s).toNatClampNeg) (nI (nt % 7)) = true := c1
      rw [if_neg c1, if_neg c2]
      exact ih _
theorem c_hangs {d : Nat} {g h : pmH} {C H n s : Nat} {q : pS} (hC : C ≤ 3) (hH : H ≤ 12) (hn : n ≤ 24) (hs : s < n) (hV : VS h n) (hp : PKm g h C H n) (hq : GQ q n H) : pm_cf (pm_Ev sl xs) (d + 2) 132 [.ref 40, .int (nI s)] (SH, M3 H g q) = some (none, (SH, M3 H g (pl_hg h C s q))) := by
  have ix : ∀ (t : Nat → Option pmR), pm_ix none (nI s) 24 t = t s := fun t => pm_ix_nI (by omega) (by decide)
  unfold pl_hg pl_pl
  rw [qX8_hangs_0, ix, hp.M.1]
  by_cases hu : h 9 s < 0
  · rw [if_pos hu, if_pos hu, ix, if_neg (fun z => (ge0 _).mp z hu)]
    exact hg_out hC hH hn hs hV hp hq 60 0 _ (by omega)
  · obtain ⟨u1, u2⟩ := hV.up.lt hn hs hu
    have iu : ∀ (t : Nat → Option pmR), pm_ix none (h 9 s) 24 t = t (upI (h 9) s) := fun t => by rw [u2]; exact pm_ix_nI (by omega) (by decide)
    rw [if_neg hu, if_neg hu, ix, iu, M3_65]
    rcases hq.1 (upI (h 9) s) (by omega) with e | ⟨f, f1, f2⟩
    · rw [e, if_neg (fun z => (ge0 _).mp z neg1), if_pos neg1]
      rfl
    · rw [f2, if_pos ((ge0 _).mpr (nI_pos (by omega))), if_neg (nI_pos (by omega)), ix, if_pos ((ge0 _).mpr hu), ix, iu, f2, nI_clamp (by omega)]
      exact hg_out hC hH hn hs hV hp hq (60 - f) f _ (by omega)
end PLAN
