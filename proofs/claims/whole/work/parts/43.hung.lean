/-! plan and hung -/
def plL (h : pmH) (C : Nat) : List Nat → pS → Nat → pS × Nat
  | [], q, e => (q, e)
  | s :: l, q, e => plL h C l (pl_hg h C s q) (max e (pl_ev h C s q))
def ordL (f : Nat → Int32) : Nat → Nat → List Nat
  | 0, _ => []
  | k + 1, i => (f i).toNatClampNeg :: ordL f k (i + 1)
theorem max_nI {e v : Nat} (he : e ≤ 99) (hv : v ≤ 99) : (if nI e < nI v then nI v else nI e) = nI (max e v) := by
  by_cases c : e < v
  · rw [if_pos (nI_lt c (by omega)), Nat.max_eq_right (by omega)]
  · rw [if_neg (nI_nlt (by omega) (by omega)), Nat.max_eq_left (by omega)]
def q0c (g : pmH) (H : Nat) : pS := (fun j => if j < 24 then -nI 1 else g 31 j, fun j => if j < 24 then -nI 1 else g 32 j, fun j => if j < 180 then nI H else g 33 j)
theorem q0c_GQ {g : pmH} {H n : Nat} (hn : n ≤ 24) : GQ (q0c g H) n H := by
  refine ⟨fun j hj => Or.inl (if_pos (by omega)), fun j hj => ⟨H, Nat.le_refl _, if_pos hj⟩⟩
/-! only what is below n counts -/
def EqS (n : Nat) (q r : pS) : Prop := (∀ j, j < n → q.1 j = r.1 j ∧ q.2.1 j = r.2.1 j) ∧ ∀ j, j < 180 → q.2.2 j = r.2.2 j
theorem pl_fc_cg {hl hm : Nat → Int32} {w : Int32} {b : Nat} : ∀ (k c : Nat), (∀ r, c ≤ r → r < c + k → hl (b + r) = hm (b + r)) → pl_fc hl w b k c = pl_fc hm w b k c
  | 0, c, h => rfl
  | k + 1, c, h => by
    rw [pl_fc, pl_fc, h c (by omega) (by omega), pl_fc_cg k (c + 1) (fun r h1 h2 => h r (by omega) (by omega))]
theorem pl_nt_cg {hl hm : Nat → Int32} {w row : Int32} {C : Nat} (hC : C ≤ 3) (he : ∀ j, j < 180 → hl j = hm j) : ∀ (k n : Nat), n + k ≤ 60 → pl_nt hl w row C k n = pl_nt hm w row C k n
  | 0, n, h => rfl
  | k + 1, n, h => by
    rw [pl_nt, pl_nt, pl_nt_cg hC he k (n + 1) (by omega), pl_fc_cg C 0 (fun r _ h2 => he _ (by omega))]
theorem pl_pl_cg {h : pmH} {C n H s : Nat} {q r : pS} (hC : C ≤ 3) (hU : UPok (h 9) n) (hn : n ≤ 24) (hs : s < n) (hq : GQ q n H) (he : EqS n q r) : pl_pl h C q s = pl_pl h C r s := by
  unfold pl_pl
  by_cases hu : h 9 s < 0
  · rw [if_pos hu, if_pos hu, pl_nt_cg hC he.2 60 0 (by omega)]
  · obtain ⟨u1, u2⟩ := hU.lt hn hs hu
    rw [if_neg hu, if_neg hu, ← (he.1 (upI (h 9) s) (by omega)).1]
    rcases hq.1 (upI (h 9) s) (by omega) with e | ⟨f, f1, f2⟩
    · rw [e, if_pos neg1, if_pos neg1]
    · rw [f2, nI_clamp (by omega), pl_nt_cg hC he.2 (60 - f) f (by omega)]
theorem hg_cg {h : pmH} {C n H s : Nat} {q r : pS} (hC : C ≤ 3) (hU : UPok (h 9) n) (hn : n ≤ 24) (hs : s < n) (hq : GQ q n H) (he : EqS n q r) : EqS n (pl_hg h C s q) (pl_hg h C s r) := by
  unfold pl_hg
  rw [← pl_pl_cg hC hU hn hs hq he]
  cases hp : pl_pl h C q s with
  | none => exact he
  | some p =>
    obtain ⟨p1, p2, p3⟩ := pl_pl_some hU hn hs hq hp
    refine ⟨fun j hj => ⟨?_, ?_⟩, fun j hj => ?_⟩
    · show upd q.1 s (nI p.1) j = upd r.1 s (nI p.1) j
      by_cases e : j = s
      · subst e; rw [upd_s, upd_s]
      · rw [upd_n e, upd_n e]; exact (he.1 j hj).1
    · show upd q.2.1 s (nI p.2) j = upd r.2.1 s (nI p.2) j
      by_cases e : j = s
      · subst e; rw [upd_s, upd_s]
      · rw [upd_n e, upd_n e]; exact (he.1 j hj).2
    · show upd q.2.2 (3 * p.1 + p.2) (q.2.2 (3 * p.1 + p.2) - pl_wd h s) j = upd r.2.2 (3 * p.1 + p.2) (r.2.2 (3 * p.1 + p.2) - pl_wd h s) j
      rw [he.2 (3 * p.1 + p.2) (by omega)]
      by_cases e : j = 3 * p.1 + p.2
      · subst e; rw [upd_s, upd_s]
      · rw [upd_n e, upd_n e]; exact he.2 j hj
theorem plL_cg {h : pmH} {C n H : Nat} (hC : C ≤ 3) (hV : VS h n) (hn : n ≤ 24) (hH : H ≤ 12) : ∀ (l : List Nat) (q r : pS) (e : Nat), (∀ s ∈ l, s < n) → GQ q n H → EqS n q r → (plL h C l q e).2 = (plL h C l r e).2 ∧ EqS n (plL h C l q e).1 (plL h C l r e).1
  | [], q, r, e, _, _, he => ⟨rfl, he⟩
  | s :: l, q, r, e, hl, hq, he => by
    have hs := hl s List.mem_cons_self
    have ev : pl_ev h C s q = pl_ev h C s r := by unfold pl_ev; rw [pl_pl_cg hC hV.up hn hs hq he]
    rw [plL, plL, ev]
    exact plL_cg hC hV hn hH l _ _ _ (fun s hs => hl s (List.mem_cons_of_mem _ hs)) (hq.hg hV hn hs hH) (hg_cg hC hV.up hn hs hq he)
theorem ordL_lt {f : Nat → Int32} {n : Nat} (hn : n ≤ 24) (hP : ∀ j, j < n → ∃ p, p < n ∧ f j = nI p) : ∀ (k i : Nat), i + k ≤ n → ∀ s ∈ ordL f k i, s < n
  | 0, i, _, s, hs => by rw [ordL] at hs; exact absurd hs List.not_mem_nil
  | k + 1, i, hk, s, hs => by
    rw [ordL] at hs
    rcases List.mem_cons.mp hs with e | e
    · obtain ⟨p, p1, p2⟩ := hP i (by omega)
      rw [e, p2, nI_clamp (by omega)]; exact p1
    · exact ordL_lt hn hP k (i + 1) (by omega) s e
section PLAN2
variable {sl : Nat} {xs : Nat → Int32}
theorem all_c {d : Nat} {g h : pmH} {C H n : Nat} (hC : C ≤ 3) (hH : H ≤ 12) (hn : n ≤ 24) (hV : VS h n) (hp : PKc g h C H n) (hP : ∀ j, j < n → ∃ p, p < n ∧ g 30 j = nI p) : ∀ (k i : Nat) (q : pS) (e : Nat), i + k = n → GQ q n H → e ≤ 99 → pm_Ev sl xs (d + 2) 31 8 [some (.ref 29), some (.int (nI e)), some (.int (nI i))] [] (SH, S3 g q) = some (some (.int (nI (plL h C (ordL (g 30) k i) q e).2)), (SH, S3 g (plL h C (ordL (g 30) k i) q e).1))
  | 0, i, q, e, hk, hq, he => by
    rw [qX4_hangAll_8, hp.S.2.2.2.2.2.2, if_pos (nI_le (by omega) (by omega))]
    rfl
  | k + 1, i, q, e, hk, hq, he => by
    obtain ⟨p, p1, p2⟩ := hP i (by omega)
    rw [qX4_hangAll_8, hp.S.2.2.2.2.2.2, if_neg (nI_ge (by omega) (by omega)), pm_ix_nI (by omega) (by decide), S3_ne (by decide) (by decide) (by decide), p2, c_endWith hC hH hn p1 hV hp hq, pm_ri_ok, max_nI he (pl_ev_le hV.up hn p1 hq), nI_add, ordL, plL, p2, nI_clamp (by omega)]
    exact all_c hC hH hn hV hp hP k (i + 1) _ _ (by omega) (hq.hg hV hn p1 hH) (Nat.max_le.mpr ⟨he, pl_ev_le hV.up hn p1 hq⟩)
theorem c_clear {d : Nat} {g : pmH} {H : Nat} (e : g 28 2 = nI H) : pm_cf (pm_Ev sl xs) (d + 2) 32 [.ref 29] (SH, g) = some (none, (SH, S3 g (q0c g H))) := by
  rw [qX4_clearNights_0, fill_all (k := 33) (n := 180) (fl := []) rfl (by decide), pm_rv_ok, fill_all (k := 31) (n := 24) (fl := []) rfl (by decide), pm_rv_ok, fill_all (k := 32) (n := 24) (fl := []) rfl (by decide), pm_rv_ok, e]
  have : pm_fil (pm_fil (pm_fil g 33 (nI H) 180) 31 (-nI 1) 24) 32 (-nI 1) 24 = S3 g (q0c g H) := by
    funext a
    unfold S3 q0c pm_fil pm_pt
    by_cases h1 : a = 31
    · subst h1; simp
    · by_cases h2 : a = 32
      · subst h2; simp
      · by_cases h3 : a = 33
        · subst h3; simp
        · simp [h1, h2, h3]
  rw [this]
theorem c_hangAll {d : Nat} {g h : pmH} {C H n : Nat} (hC : C ≤ 3) (hH : H ≤ 12) (hn : n ≤ 24) (hV : VS h n) (hp : PKc g h C H n) (hP : ∀ j, j < n → ∃ p, p < n ∧ g 30 j = nI p) : pm_cf (pm_Ev sl xs) (d + 3) 31 [.ref 29] (SH, g) = some (some (.int (nI (plL h C (ordL (g 30) n 0) (q0c g H) 0).2)), (SH, S3 g (plL h C (ordL (g 30) n 0) (q0c g H) 0).1)) := by
  rw [qX4_hangAll_0, c_clear hp.2.2.2.2.2.1, pm_rv_ok]
  exact all_c hC hH hn hV hp hP n 0 _ 0 (by omega) (q0c_GQ hn) (by omega)
theorem pt_pt (g : pmH) (k : Nat) (f f2 : Nat → Int32) : pm_pt (pm_pt g k f) k f2 = pm_pt g k f2 := by
  funext a
  unfold pm_pt
  by_cases e : a = k
  · simp [e]
  · simp [e]
theorem en2_60 {d : Nat} {g : pmH} {o3 o4 : Option Value} : ∀ (k i : Nat) (f : Nat → Int32), i + k = 180 → (∀ j, j < i → f j = nI 0) → ∃ f2, pm_Ev sl xs (d + 1) 133 2 [some (.ref 40), some (.ref 60), some (.int (nI i)), o3, o4] [] (SH, pm_pt g 67 f) = pm_Ev sl xs (d + 1) 133 24 [some (.ref 40), some (.ref 60), some (.int (nI 0)), o3, o4] [] (SH, pm_pt g 67 f2) ∧ ∀ j, j < 180 → f2 j = nI 0
  | 0, i, f, hk, hf => by
    refine ⟨f, ?_, fun j hj => hf j (by omega)⟩
    rw [qX8_ends_60_2, if_pos (nI_le (by omega) (by omega))]
  | k + 1, i, f, hk, hf => by
    rw [qX8_ends_60_2, if_neg (nI_ge (by omega) (by omega)), pm_ix_nI (by omega) (by decide), pt_up, nI_add]
    refine en2_60 k (i + 1) _ (by omega) (fun j hj => ?_)
    by_cases e : j = i
    · subst e; rw [upd_s]
    · rw [upd_n e]; exact hf j (by omega)
theorem en24_60 {d : Nat} {g : pmH} {n : Nat} {o3 o4 : Option Value} (hn : n ≤ 24) (n39 : g 39 1 = nI n) : ∀ (k i : Nat) (a b : Nat → Int32), i + k = n → (∀ j, j < i → a j = -nI 1 ∧ b j = -nI 1) → ∃ a2 b2, pm_Ev sl xs (d + 1) 133 24 [some (.ref 40), some (.ref 60), some (.int (nI i)), o3, o4] [] (SH, pP g 65 a 66 b) = pm_Ev sl xs (d + 1) 133 56 [some (.ref 40), some (.ref 60), some (.int (nI 0)), some (.int (nI 0)), o4] [] (SH, pP g 65 a2 66 b2) ∧ ∀ j, j < n → a2 j = -nI 1 ∧ b2 j = -nI 1
  | 0, i, a, b, hk, hf => by
    refine ⟨a, b, ?_, fun j hj => hf j (by omega)⟩
    rw [qX8_ends_60_24, pP_ne (by decide) (by decide), n39, if_pos (nI_le (by omega) (by omega))]
  | k + 1, i, a, b, hk, hf => by
    rw [qX8_ends_60_24, pP_ne (by decide) (by decide), n39, if_neg (nI_ge (by omega) (by omega)), pm_ix_nI (by omega) (by decide), pm_ix_nI (by omega) (by decide), pP_ua (by decide), pP_ub, nI_add]
    refine en24_60 hn n39 k (i + 1) _ _ (by omega) (fun j hj => ?_)
    by_cases e : j = i
    · subst e; rw [upd_s, upd_s]; exact ⟨rfl, rfl⟩
    · rw [upd_n e, upd_n e]; exact hf j (by omega)
theorem en0_60 {d : Nat} {g : pmH} {n H : Nat} (hn : n ≤ 24) (n39 : g 39 1 = nI n) : ∃ q0 : pS, pm_cf (pm_Ev sl xs) (d + 2) 133 [.ref 40, .ref 60] (SH, g) = pm_Ev sl xs (d + 1) 133 56 [some (.ref 40), some (.ref 60), some (.int (nI 0)), some (.int (nI 0)), none] [] (SH, M3 H g q0) ∧ (∀ j, j < n → q0.1 j = -nI 1 ∧ q0.2.1 j = -nI 1) ∧ ∀ j, j < 180 → q0.2.2 j = nI H := by
  obtain ⟨f2, a1, a2⟩ := en2_60 (sl := sl) (xs := xs) (d := d) (g := g) (o3 := none) (o4 := none) 180 0 (g 67) (by omega) (fun j hj => absurd hj (Nat.not_lt_zero _))
  rw [pt_self] at a1
  obtain ⟨a, b, b1, b2⟩ := en24_60 (sl := sl) (xs := xs) (d := d) (g := pm_pt g 67 f2) (o3 := none) (o4 := none) hn (by rw [pt_ne (by decide)]; exact n39) n 0 (pm_pt g 67 f2 65) (pm_pt g 67 f2 66) (by omega) (fun j hj => absurd hj (Nat.not_lt_zero _))
  rw [pP_self] at b1
  refine ⟨(a, b, fun j => nI H - f2 j), ?_, b2, fun j hj => ?_⟩
  · have : pP (pm_pt g 67 f2) 65 a 66 b = M3 H g (a, b, fun j => nI H - f2 j) := by
      funext k
      unfold pP M3 pm_pt
      by_cases h1 : k = 65
      · subst h1; simp
      · by_cases h2 : k = 66
        · subst h2; simp
        · by_cases h3 : k = 67
          · subst h3
            simp
            funext j
            exact (i_sss _ _).symm
          · simp [h1, h2, h3]
    rw [qX8_ends_60_0, a1, b1, this]
  · show nI H - f2 j = nI H
    rw [a2 j hj, pk_sub (Nat.zero_le _)]
    rfl
theorem all_60 {d : Nat} {g h : pmH} {C H n : Nat} (hC : C ≤ 3) (hH : H ≤ 12) (hn : n ≤ 24) (hV : VS h n) (hp : PKm g h C H n) (hP : PM (g 59) n) : ∀ (k i : Nat) (q : pS) (e : Nat) (o4 : Option Value), i + k = n → GQ q n H → e ≤ 99 → (∀ j, i ≤ j → j < n → q.1 (g 59 j).toNatClampNeg = -nI 1) → pm_Ev sl xs (d + 2) 133 56 [some (.ref 40), some (.ref 60), some (.int (nI e)), some (.int (nI i)), o4] [] (SH, M3 H g q) = some (some (.int (nI (plL h C (ordL (g 59) k i) q e).2)), (SH, M3 H g (plL h C (ordL (g 59) k i) q e).1))
  | 0, i, q, e, o4, hk, hq, he, hun => by
    rw [qX8_ends_60_56, hp.M.2.2.2.2.2.2, if_pos (nI_le (by omega) (by omega))]
    rfl
  | k + 1, i, q, e, o4, hk, hq, he, hun => by
    obtain ⟨p, p1, p2⟩ := hP.1 i (by omega)
    have ix : ∀ (t : Nat → Option pmR), pm_ix none (nI i) 24 t = t i := fun t => pm_ix_nI (by omega) (by decide)
    have ip : ∀ (t : Nat → Option pmR), pm_ix none (nI p) 24 t = t p := fun t => pm_ix_nI (by omega) (by decide)
    have ih := fun (e2 : Nat) (o4 : Option Value) (h2 : e2 ≤ 99) => all_60 (d := d) hC hH hn hV hp hP k (i + 1) (pl_hg h C p q) e2 o4 (by omega) (hq.hg hV hn p1 hH) h2 (fun j j1 j2 => by
      rw [hg_ne]
      · exact hun j (by omega) j2
      · intro z
        obtain ⟨r, r1, r2⟩ := hP.1 j j2
        rw [r2, nI_clamp (by omega)] at z
        have := hP.2 i j (by omega) j2 (by rw [p2, r2, z])
        omega)
    have m59 : ∀ q, M3 H g q 59 = g 59 := fun q => M3_ne (by decide) (by decide) (by decide)
    rw [qX8_ends_60_56, hp.M.2.2.2.2.2.2, if_neg (nI_ge (by omega) (by omega)), ix, m59, p2, c_hangs hC hH hn p1 hV hp hq, pm_rv_ok, ix, m59, p2, ip, M3_65, nI_add, ordL, plL, p2, nI_clamp (by omega)]
    cases hpl : pl_pl h C q p with
    | none =>
      have ev : pl_ev h C p q = 99 := by unfold pl_ev; rw [hpl]; rfl
      have v : (pl_hg h C p q).1 p = -nI 1 := by
        unfold pl_hg; rw [hpl]
        have := hun i (Nat.le_refl _) (by omega)
        rw [p2, nI_clamp (by omega)] at this
        exact this
      rw [v, if_neg (fun z => (ge0 _).mp z neg1), ev]
      by_cases c : 99 ≤ e
      · rw [if_pos (nI_le c (by omega)), Nat.max_eq_left c]
        exact ih e _ he
      · rw [if_neg (nI_ge (by omega) (by omega)), Nat.max_eq_right (by omega)]
        exact ih 99 _ (Nat.le_refl _)
    | some r =>
      have ev : pl_ev h C p q = 1 + r.1 := by unfold pl_ev; rw [hpl]; rfl
      have v : (pl_hg h C p q).1 p = nI r.1 := by
        unfold pl_hg; rw [hpl]; exact upd_s _ _ _
      have hr := (pl_pl_some hV.up hn p1 hq hpl).1
      rw [v, if_pos ((ge0 _).mpr (nI_pos (by omega))), ix, p2, ip, v, ev, nI_add]
      by_cases c : 1 + r.1 ≤ e
      · rw [if_pos (nI_le c (by omega)), Nat.max_eq_left c]
        exact ih e _ he
      · rw [if_neg (nI_ge (by omega) (by omega)), Nat.max_eq_right (by omega)]
        exact ih _ _ (by omega)
theorem m_ends_60 {d : Nat} {g h : pmH} {C H n : Nat} (hC : C ≤ 3) (hH : H ≤ 12) (hn : n ≤ 24) (hV : VS h n) (hp : PKm g h C H n) (hP : PM (g 59) n) (r : pS) (hr : GQ r n H) (hr1 : ∀ j, j < n → r.1 j = -nI 1 ∧ r.2.1 j = -nI 1) (hr2 : ∀ j, j < 180 → r.2.2 j = nI H) : ∃ q : pS, pm_cf (pm_Ev sl xs) (d + 3) 133 [.ref 40, .ref 60] (SH, g) = some (some (.int (nI (plL h C (ordL (g 59) n 0) r 0).2)), (SH, M3 H g q)) ∧ EqS n (plL h C (ordL (g 59) n 0) r 0).1 q := by
  obtain ⟨q0, a1, a2, a3⟩ := en0_60 (sl := sl) (xs := xs) (d := d + 1) (g := g) (H := H) hn hp.2.2.2.2.2.2
  have hE : EqS n r q0 := ⟨fun j hj => by rw [(hr1 j hj).1, (hr1 j hj).2, (a2 j hj).1, (a2 j hj).2]; exact ⟨rfl, rfl⟩, fun j hj => by rw [hr2 j hj, a3 j hj]⟩
  have hq0 : GQ q0 n H := ⟨fun j hj => Or.inl (a2 j hj).1, fun j hj => ⟨H, Nat.le_refl _, a3 j hj⟩⟩
  obtain ⟨c1, c2⟩ := plL_cg hC hV hn hH (ordL (g 59) n 0) r q0 0 (ordL_lt hn hP.1 n 0 (by omega)) hr hE
  refine ⟨(plL h C (ordL (g 59) n 0) q0 0).1, ?_, c2⟩
  rw [a1, all_60 hC hH hn hV hp hP n 0 q0 0 none (by omega) hq0 (by omega) (fun j _ j2 => ?_), c1]
  obtain ⟨p, p1, p2⟩ := hP.1 j j2
  rw [p2, nI_clamp (by omega)]
  exact (a2 p p1).1
theorem en2_69 {d : Nat} {g : pmH} {o3 o4 : Option Value} : ∀ (k i : Nat) (f : Nat → Int32), i + k = 180 → (∀ j, j < i → f j = nI 0) → ∃ f2, pm_Ev sl xs (d + 1) 133 2 [some (.ref 40), some (.ref 69), some (.int (nI i)), o3, o4] [] (SH, pm_pt g 67 f) = pm_Ev sl xs (d + 1) 133 24 [some (.ref 40), some (.ref 69), some (.int (nI 0)), o3, o4] [] (SH, pm_pt g 67 f2) ∧ ∀ j, j < 180 → f2 j = nI 0
  | 0, i, f, hk, hf => by
    refine ⟨f, ?_, fun j hj => hf j (by omega)⟩
    rw [qX8_ends_69_2, if_pos (nI_le (by omega) (by omega))]
  | k + 1, i, f, hk, hf => by
    rw [qX8_ends_69_2, if_neg (nI_ge (by omega) (by omega)), pm_ix_nI (by omega) (by decide), pt_up, nI_add]
    refine en2_69 k (i + 1) _ (by omega) (fun j hj => ?_)
    by_cases e : j = i
    · subst e; rw [upd_s]
    · rw [upd_n e]; exact hf j (by omega)
theorem en24_69 {d : Nat} {g : pmH} {n : Nat} {o3 o4 : Option Value} (hn : n ≤ 24) (n39 : g 39 1 = nI n) : ∀ (k i : Nat) (a b : Nat → Int32), i + k = n → (∀ j, j < i → a j = -nI 1 ∧ b j = -nI 1) → ∃ a2 b2, pm_Ev sl xs (d + 1) 133 24 [some (.ref 40), some (.ref 69), some (.int (nI i)), o3, o4] [] (SH, pP g 65 a 66 b) = pm_Ev sl xs (d + 1) 133 56 [some (.ref 40), some (.ref 69), some (.int (nI 0)), some (.int (nI 0)), o4] [] (SH, pP g 65 a2 66 b2) ∧ ∀ j, j < n → a2 j = -nI 1 ∧ b2 j = -nI 1
  | 0, i, a, b, hk, hf => by
    refine ⟨a, b, ?_, fun j hj => hf j (by omega)⟩
    rw [qX8_ends_69_24, pP_ne (by decide) (by decide), n39, if_pos (nI_le (by omega) (by omega))]
  | k + 1, i, a, b, hk, hf => by
    rw [qX8_ends_69_24, pP_ne (by decide) (by decide), n39, if_neg (nI_ge (by omega) (by omega)), pm_ix_nI (by omega) (by decide), pm_ix_nI (by omega) (by decide), pP_ua (by decide), pP_ub, nI_add]
    refine en24_69 hn n39 k (i + 1) _ _ (by omega) (fun j hj => ?_)
    by_cases e : j = i
    · subst e; rw [upd_s, upd_s]; exact ⟨rfl, rfl⟩
    · rw [upd_n e, upd_n e]; exact hf j (by omega)
theorem en0_69 {d : Nat} {g : pmH} {n H : Nat} (hn : n ≤ 24) (n39 : g 39 1 = nI n) : ∃ q0 : pS, pm_cf (pm_Ev sl xs) (d + 2) 133 [.ref 40, .ref 69] (SH, g) = pm_Ev sl xs (d + 1) 133 56 [some (.ref 40), some (.ref 69), some (.int (nI 0)), some (.int (nI 0)), none] [] (SH, M3 H g q0) ∧ (∀ j, j < n → q0.1 j = -nI 1 ∧ q0.2.1 j = -nI 1) ∧ ∀ j, j < 180 → q0.2.2 j = nI H := by
  obtain ⟨f2, a1, a2⟩ := en2_69 (sl := sl) (xs := xs) (d := d) (g := g) (o3 := none) (o4 := none) 180 0 (g 67) (by omega) (fun j hj => absurd hj (Nat.not_lt_zero _))
  rw [pt_self] at a1
  obtain ⟨a, b, b1, b2⟩ := en24_69 (sl := sl) (xs := xs) (d := d) (g := pm_pt g 67 f2) (o3 := none) (o4 := none) hn (by rw [pt_ne (by decide)]; exact n39) n 0 (pm_pt g 67 f2 65) (pm_pt g 67 f2 66) (by omega) (fun j hj => absurd hj (Nat.not_lt_zero _))
  rw [pP_self] at b1
  refine ⟨(a, b, fun j => nI H - f2 j), ?_, b2, fun j hj => ?_⟩
  · have : pP (pm_pt g 67 f2) 65 a 66 b = M3 H g (a, b, fun j => nI H - f2 j) := by
      funext k
      unfold pP M3 pm_pt
      by_cases h1 : k = 65
      · subst h1; simp
      · by_cases h2 : k = 66
        · subst h2; simp
        · by_cases h3 : k = 67
          · subst h3
            simp
            funext j
            exact (i_sss _ _).symm
          · simp [h1, h2, h3]
    rw [qX8_ends_69_0, a1, b1, this]
  · show nI H - f2 j = nI H
    rw [a2 j hj, pk_sub (Nat.zero_le _)]
    rfl
theorem all_69 {d : Nat} {g h : pmH} {C H n : Nat} (hC : C ≤ 3) (hH : H ≤ 12) (hn : n ≤ 24) (hV : VS h n) (hp : PKm g h C H n) (hP : PM (g 68) n) : ∀ (k i : Nat) (q : pS) (e : Nat) (o4 : Option Value), i + k = n → GQ q n H → e ≤ 99 → (∀ j, i ≤ j → j < n → q.1 (g 68 j).toNatClampNeg = -nI 1) → pm_Ev sl xs (d + 2) 133 56 [some (.ref 40), some (.ref 69), some (.int (nI e)), some (.int (nI i)), o4] [] (SH, M3 H g q) = some (some (.int (nI (plL h C (ordL (g 68) k i) q e).2)), (SH, M3 H g (plL h C (ordL (g 68) k i) q e).1))
  | 0, i, q, e, o4, hk, hq, he, hun => by
    rw [qX8_ends_69_56, hp.M.2.2.2.2.2.2, if_pos (nI_le (by omega) (by omega))]
    rfl
  | k + 1, i, q, e, o4, hk, hq, he, hun => by
    obtain ⟨p, p1, p2⟩ := hP.1 i (by omega)
    have ix : ∀ (t : Nat → Option pmR), pm_ix none (nI i) 24 t = t i := fun t => pm_ix_nI (by omega) (by decide)
    have ip : ∀ (t : Nat → Option pmR), pm_ix none (nI p) 24 t = t p := fun t => pm_ix_nI (by omega) (by decide)
    have ih := fun (e2 : Nat) (o4 : Option Value) (h2 : e2 ≤ 99) => all_69 (d := d) hC hH hn hV hp hP k (i + 1) (pl_hg h C p q) e2 o4 (by omega) (hq.hg hV hn p1 hH) h2 (fun j j1 j2 => by
      rw [hg_ne]
      · exact hun j (by omega) j2
      · intro z
        obtain ⟨r, r1, r2⟩ := hP.1 j j2
        rw [r2, nI_clamp (by omega)] at z
        have := hP.2 i j (by omega) j2 (by rw [p2, r2, z])
        omega)
    have m59 : ∀ q, M3 H g q 68 = g 68 := fun q => M3_ne (by decide) (by decide) (by decide)
    rw [qX8_ends_69_56, hp.M.2.2.2.2.2.2, if_neg (nI_ge (by omega) (by omega)), ix, m59, p2, c_hangs hC hH hn p1 hV hp hq, pm_rv_ok, ix, m59, p2, ip, M3_65, nI_add, ordL, plL, p2, nI_clamp (by omega)]
    cases hpl : pl_pl h C q p with
    | none =>
      have ev : pl_ev h C p q = 99 := by unfold pl_ev; rw [hpl]; rfl
      have v : (pl_hg h C p q).1 p = -nI 1 := by
        unfold pl_hg; rw [hpl]
        have := hun i (Nat.le_refl _) (by omega)
        rw [p2, nI_clamp (by omega)] at this
        exact this
      rw [v, if_neg (fun z => (ge0 _).mp z neg1), ev]
      by_cases c : 99 ≤ e
      · rw [if_pos (nI_le c (by omega)), Nat.max_eq_left c]
        exact ih e _ he
      · rw [if_neg (nI_ge (by omega) (by omega)), Nat.max_eq_right (by omega)]
        exact ih 99 _ (Nat.le_refl _)
    | some r =>
      have ev : pl_ev h C p q = 1 + r.1 := by unfold pl_ev; rw [hpl]; rfl
      have v : (pl_hg h C p q).1 p = nI r.1 := by
        unfold pl_hg; rw [hpl]; exact upd_s _ _ _
      have hr := (pl_pl_some hV.up hn p1 hq hpl).1
      rw [v, if_pos ((ge0 _).mpr (nI_pos (by omega))), ix, p2, ip, v, ev, nI_add]
      by_cases c : 1 + r.1 ≤ e
      · rw [if_pos (nI_le c (by omega)), Nat.max_eq_left c]
        exact ih e _ he
      · rw [if_neg (nI_ge (by omega) (by omega)), Nat.max_eq_right (by omega)]
        exact ih _ _ (by omega)
theorem m_ends_69 {d : Nat} {g h : pmH} {C H n : Nat} (hC : C ≤ 3) (hH : H ≤ 12) (hn : n ≤ 24) (hV : VS h n) (hp : PKm g h C H n) (hP : PM (g 68) n) (r : pS) (hr : GQ r n H) (hr1 : ∀ j, j < n → r.1 j = -nI 1 ∧ r.2.1 j = -nI 1) (hr2 : ∀ j, j < 180 → r.2.2 j = nI H) : ∃ q : pS, pm_cf (pm_Ev sl xs) (d + 3) 133 [.ref 40, .ref 69] (SH, g) = some (some (.int (nI (plL h C (ordL (g 68) n 0) r 0).2)), (SH, M3 H g q)) ∧ EqS n (plL h C (ordL (g 68) n 0) r 0).1 q := by
  obtain ⟨q0, a1, a2, a3⟩ := en0_69 (sl := sl) (xs := xs) (d := d + 1) (g := g) (H := H) hn hp.2.2.2.2.2.2
  have hE : EqS n r q0 := ⟨fun j hj => by rw [(hr1 j hj).1, (hr1 j hj).2, (a2 j hj).1, (a2 j hj).2]; exact ⟨rfl, rfl⟩, fun j hj => by rw [hr2 j hj, a3 j hj]⟩
  have hq0 : GQ q0 n H := ⟨fun j hj => Or.inl (a2 j hj).1, fun j hj => ⟨H, Nat.le_refl _, a3 j hj⟩⟩
  obtain ⟨c1, c2⟩ := plL_cg hC hV hn hH (ordL (g 68) n 0) r q0 0 (ordL_lt hn hP.1 n 0 (by omega)) hr hE
  refine ⟨(plL h C (ordL (g 68) n 0) q0 0).1, ?_, c2⟩
  rw [a1, all_69 hC hH hn hV hp hP n 0 q0 0 none (by omega) hq0 (by omega) (fun j _ j2 => ?_), c1]
  obtain ⟨p, p1, p2⟩ := hP.1 j j2
  rw [p2, nI_clamp (by omega)]
  exact (a2 p p1).1
theorem InvN.PKc {h : pmH} {n m q C H : Nat} (hi : InvN h n m q) (c : h 28 1 = nI C) (e : h 28 2 = nI H) : PKc h h C H n := ⟨rfl, rfl, rfl, rfl, c, e, hi.n7⟩
theorem InvN.PKm {h g : pmH} {n m q C H : Nat} (hi : InvN h n m q) (c : h 28 1 = nI C) (e : h 28 2 = nI H) (hg : ∀ k, 38 < k → g k = h k) : PKm g h C H n := by
  have hS := hi.2.2.1
  refine ⟨?_, ?_, ?_, ?_, ?_, ?_, ?_⟩
  · rw [hg 44 (by decide)]; exact (hi.eq (by decide)).symm
  · rw [hg 45 (by decide)]; exact (hi.eq (by decide)).symm
  · rw [hg 46 (by decide)]; exact (hi.eq (by decide)).symm
  · rw [hg 55 (by decide)]; exact (hi.eq (by decide)).symm
  · rw [hg 39 (by decide), ← c]; exact hS.2.2.2.2.1.symm
  · rw [hg 39 (by decide), ← e]; exact hS.2.2.2.2.2.1.symm
  · rw [hg 39 (by decide)]; exact hi.n39
theorem FR_plan {h h2 : pmH} (hf : ∀ k, k ∉ [31, 32, 33, 65, 66, 67] → h2 k = h k) : FR h h2 := by
  have k1 : ∀ k ∈ relA, k ∉ [31, 32, 33, 65, 66, 67] := by decide
  have k2 : ∀ p ∈ relF, p.1 ∉ [31, 32, 33, 65, 66, 67] := by decide
  exact ⟨fun k hk => hf k (k1 k hk), fun p hp => by rw [hf p.1 (k2 p hp)]⟩
/-- both plans by the order -/
theorem plan_both {d : Nat} {h : pmH} {n m q : Nat} (hi : InvN h n m q) : ∃ (r : Int32) (h1 h2 : pmH), pm_cf (pm_Ev sl xs) (d + 3) 31 [.ref 29] (SH, h) = some (some (.int r), (SH, h1)) ∧ pm_cf (pm_Ev sl xs) (d + 3) 133 [.ref 40, .ref 60] (SH, h1) = some (some (.int r), (SH, h2)) ∧ (∀ k, k ∉ [31, 32, 33] → h1 k = h k) ∧ (∀ k, k ∉ [31, 32, 33, 65, 66, 67] → h2 k = h k) ∧ ∀ j, j < n → h2 65 j = h1 31 j ∧ h2 66 j = h1 32 j := by
  obtain ⟨⟨C, C1, C2, C3⟩, ⟨H, H1, H2, H3⟩⟩ := hi.2.2.2.2.2.2.2.2.2.1
  have hn : n ≤ 24 := hi.1.1
  have hV : VS h n := hi.2.2.2.1
  have hP : PM (h 30) n := hi.2.2.2.2.2.2.2.1
  have s1 : ∀ q k, k ∉ [31, 32, 33] → S3 h q k = h k := fun q k hk => by
    simp at hk
    exact S3_ne (by omega) (by omega) (by omega)
  have a1 := c_hangAll (sl := sl) (xs := xs) (d := d) C2 H2 hn hV (hi.PKc C3 H3) hP.1
  obtain ⟨w, hw⟩ : ∃ w, w = (plL h C (ordL (h 30) n 0) (q0c h H) 0).1 := ⟨_, rfl⟩
  rw [← hw] at a1
  have e59 : S3 h w 59 = h 30 := by rw [s1 _ _ (by decide)]; exact (hi.eq (by decide)).symm
  obtain ⟨r, b1, b2⟩ := m_ends_60 (sl := sl) (xs := xs) (d := d) (g := S3 h w) C2 H2 hn hV (hi.PKm C3 H3 (fun k hk => s1 _ _ (by simp; omega))) (by rw [e59]; exact hP) (q0c h H) (q0c_GQ hn) (fun j hj => ⟨if_pos (by omega), if_pos (by omega)⟩) (fun j hj => if_pos hj)
  rw [e59] at b1 b2
  refine ⟨_, _, _, a1, b1, fun k hk => s1 _ _ hk, fun k hk => ?_, fun j hj => ?_⟩
  · simp at hk
    rw [M3_ne (by omega) (by omega) (by omega)]
    exact s1 _ _ (by simp; omega)
  · rw [M3_65, M3_66, S3_31, S3_32, hw]
    exact ⟨(b2.1 j hj).1.symm, (b2.1 j hj).2.symm⟩
theorem step_plan : Step sl xs 72 134 [] := by
  intro d h ⟨n, m, q, hi⟩
  obtain ⟨r, h1, h2, a1, a2, -, a4, -⟩ := plan_both (sl := sl) (xs := xs) (d := d + 36) hi
  refine ⟨r, h1, h2, ?_, ?_, n, m, q, hi.frame (FR_plan a4)⟩
  · rw [qX7_plan_0, a1, pm_ri_ok]
  · rw [qX8_plan_0, a2, pm_ri_ok]
theorem step_hung {a c : Int32} : Step sl xs 73 135 [.int a, .int c] := by
  intro d h ⟨n, m, q, hi⟩
  have hn : n ≤ 24 := hi.1.1
  have n7 := hi.n7
  have n39 : ∀ {x : pmH}, x 39 = h 39 → x 39 1 = nI n := fun e => by rw [e]; exact hi.n39
  cases hr : inS a n with
  | false =>
    refine ⟨-1000000001, pm_up h 1 1 (h 1 1 + nI 1), _, ?_, ?_, n, m, q, hi.fnd 1⟩
    · rw [qX7_hung_0, c_has n7, pm_ri_ok, hr, bI_f, c_find (k := 1) (by decide) f_1, pm_ri_ok]
    · rw [qX8_hung_0, c_isS (n39 (pm_up_ne (by decide))) hn, pm_ri_ok, hr, bI_f, c_finds (by decide), pm_ri_ok, g_1]
  | true =>
    cases hr2 : inR c (nI 0) (nI 3) with
    | false =>
      refine ⟨-1000000001, pm_up h 1 1 (h 1 1 + nI 1), _, ?_, ?_, n, m, q, hi.fnd 1⟩
      · rw [qX7_hung_0, c_has n7, pm_ri_ok, hr, bI_t, c_within, pm_ri_ok, hr2, bI_f, c_find (k := 1) (by decide) f_1, pm_ri_ok]
      · rw [qX8_hung_0, c_isS (n39 (pm_up_ne (by decide))) hn, pm_ri_ok, hr, bI_t, c_in, pm_ri_ok, hr2, bI_f, c_finds (by decide), pm_ri_ok, g_1]
    | true =>
      obtain ⟨s, hs, rfl⟩ := inS_nat (by omega) hr
      obtain ⟨r, h1, h2, a1, a2, a3, a4, a5⟩ := plan_both (sl := sl) (xs := xs) (d := d + 36) hi
      have ix : ∀ (t : Nat → Option pmR), pm_ix none (nI s) 24 t = t s := fun t => pm_ix_nI (by omega) (by decide)
      have hP : PM (h 30) n := hi.2.2.2.2.2.2.2.1
      have e59 : h1 39 = h 39 := a3 39 (by decide)
      have hi2 := hi.frame (FR_plan a4)
      by_cases c0 : c = nI 0
      · subst c0
        refine ⟨h1 31 s, h1, h2, ?_, ?_, n, m, q, hi2⟩
        · rw [qX7_hung_0, c_has n7, pm_ri_ok, hr, bI_t, c_within, pm_ri_ok, hr2, bI_t, a1, pm_ri_ok, if_pos rfl, ix]
        · rw [qX8_hung_0, c_isS (n39 e59) hn, pm_ri_ok, hr, bI_t, c_in, pm_ri_ok, hr2, bI_t, a2, pm_ri_ok, if_pos z00, ix, (a5 s hs).1]
      by_cases c1 : c = nI 1
      · subst c1
        refine ⟨h1 32 s, h1, h2, ?_, ?_, n, m, q, hi2⟩
        · rw [qX7_hung_0, c_has n7, pm_ri_ok, hr, bI_t, c_within, pm_ri_ok, hr2, bI_t, a1, pm_ri_ok, if_neg c0, if_pos rfl, ix]
        · rw [qX8_hung_0, c_isS (n39 e59) hn, pm_ri_ok, hr, bI_t, c_in, pm_ri_ok, hr2, bI_t, a2, pm_ri_ok, if_neg (show ¬ nI 1 = 0 from c0), if_pos rfl, ix, (a5 s hs).2]
      by_cases c2 : c = nI 2
      · subst c2
        obtain ⟨p, hp, he, hno⟩ := hP.onto hn hs
        have e30 : h1 30 = h 30 := a3 30 (by decide)
        have e592 : h2 59 = h 30 := by rw [a4 59 (by decide)]; exact (hi.eq (by decide)).symm
        refine ⟨nI p, h1, h2, ?_, ?_, n, m, q, hi2⟩
        · rw [qX7_hung_0, c_has n7, pm_ri_ok, hr, bI_t, c_within, pm_ri_ok, hr2, bI_t, a1, pm_ri_ok, if_neg c0, if_neg c1, if_pos rfl, c_place (p := p) hn (by rw [a3 7 (by decide)]; exact n7) hp (by rw [e30]; exact he) (by rw [e30]; exact hno), pm_ri_ok]
        · rw [qX8_hung_0, c_isS (n39 e59) hn, pm_ri_ok, hr, bI_t, c_in, pm_ri_ok, hr2, bI_t, a2, pm_ri_ok, if_neg (show ¬ nI 2 = 0 from c0), if_neg c1, if_pos rfl, m_place (p := p) (by omega) (by rw [e592]; exact he) (by rw [e592]; exact hno), pm_ri_ok]
      · refine ⟨pl_wd h s, h1, h2, ?_, ?_, n, m, q, hi2⟩
        · rw [qX7_hung_0, c_has n7, pm_ri_ok, hr, bI_t, c_within, pm_ri_ok, hr2, bI_t, a1, pm_ri_ok, if_neg c0, if_neg c1, if_neg c2, c_hours (h := h) (a3 11 (by decide)) (by omega), pm_ri_ok]
        · rw [qX8_hung_0, c_isS (n39 e59) hn, pm_ri_ok, hr, bI_t, c_in, pm_ri_ok, hr2, bI_t, a2, pm_ri_ok, if_neg (show ¬ c = 0 from c0), if_neg c1, if_neg c2, m_wants (h := h) (by rw [a4 46 (by decide)]; exact (hi.eq (by decide)).symm) (by omega), pm_ri_ok]
end PLAN2
