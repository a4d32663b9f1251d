theorem qX8_lay_11v {sl : Nat} {xs : Nat → Int32} {d : Nat} {b1 b2 b3 b4 b5 b6 : Int32} {o7 o8 : Option Value} {h : pmH} : pm_Ev sl xs (d + 1) 136 11 [some (.ref 40), some (.int b1), some (.int b2), some (.int b3), some (.int b4), some (.int b5), some (.int b6), o7, o8] [] (SH, h) = if (h 39 1) ≤ b6 then (some (none, (SH, h))) else (if (h 39 1) - b6 = 0 then none else (if b4 / ((h 39 1) - b6) = 0 then none else (if b4 / ((h 39 1) - b6) = 0 then none else (pm_Ev sl xs (d + 1) 136 46 [some (.ref 40), some (.int b1), some (.int b2), some (.int (b3 - b3 / (b4 / ((h 39 1) - b6)) * (b4 / ((h 39 1) - b6)))), some (.int (b4 / ((h 39 1) - b6))), some (.int b5), some (.int b6), some (.int (b3 / (b4 / ((h 39 1) - b6)))), some (.int (nI 0))] [] (SH, h))))) := by
  have hM : pm_mt 136 = some mt_136 := rfl
  refine e_iload (pc2 := 13) hM rfl rfl rfl ?_
  refine e_aload_n (pc2 := 14) hM rfl rfl rfl ?_
  refine e_getfi (pc2 := 17) (k := 39) (v := (h 39 1)) hM rfl rfl rfl rfl rfl rfl ?_
  refine e_icmp_ge (pc2 := 20) (tgt := 104) hM rfl rfl rfl ?_ ?_
  · exact e_ret hM rfl rfl
  · refine e_iload (pc2 := 22) hM rfl rfl rfl ?_
    refine e_aload_n (pc2 := 23) hM rfl rfl rfl ?_
    refine e_getfi (pc2 := 26) (k := 39) (v := (h 39 1)) hM rfl rfl rfl rfl rfl rfl ?_
    refine e_iload (pc2 := 28) hM rfl rfl rfl ?_
    refine e_isub (pc2 := 29) hM rfl rfl ?_
    refine e_idiv (pc2 := 30) hM rfl rfl ?_
    refine e_istore (pc2 := 32) (L2 := [some (.ref 40), some (.int b1), some (.int b2), some (.int b3), some (.int (b4 / ((h 39 1) - b6))), some (.int b5), some (.int b6), o7, o8]) hM rfl rfl rfl rfl ?_
    refine e_iload_n (pc2 := 33) hM rfl rfl rfl ?_
    refine e_iload (pc2 := 35) hM rfl rfl rfl ?_
    refine e_idiv (pc2 := 36) hM rfl rfl ?_
    refine e_istore (pc2 := 38) (L2 := [some (.ref 40), some (.int b1), some (.int b2), some (.int b3), some (.int (b4 / ((h 39 1) - b6))), some (.int b5), some (.int b6), some (.int (b3 / (b4 / ((h 39 1) - b6)))), o8]) hM rfl rfl rfl rfl ?_
    refine e_iload_n (pc2 := 39) hM rfl rfl rfl ?_
    refine e_iload (pc2 := 41) hM rfl rfl rfl ?_
    refine e_irem (pc2 := 42) hM rfl rfl ?_
    refine e_istore_n (pc2 := 43) (L2 := [some (.ref 40), some (.int b1), some (.int b2), some (.int (b3 - b3 / (b4 / ((h 39 1) - b6)) * (b4 / ((h 39 1) - b6)))), some (.int (b4 / ((h 39 1) - b6))), some (.int b5), some (.int b6), some (.int (b3 / (b4 / ((h 39 1) - b6)))), o8]) hM rfl rfl rfl rfl ?_
    refine e_iconst (pc2 := 44) (v := nI 0) hM rfl rfl rfl ?_
    refine e_istore (pc2 := 46) (L2 := [some (.ref 40), some (.int b1), some (.int b2), some (.int (b3 - b3 / (b4 / ((h 39 1) - b6)) * (b4 / ((h 39 1) - b6)))), some (.int (b4 / ((h 39 1) - b6))), some (.int b5), some (.int b6), some (.int (b3 / (b4 / ((h 39 1) - b6)))), some (.int (nI 0))]) hM rfl rfl rfl rfl ?_
    exact rfl
/-! the reference's orders; best -/
def setL (F : Nat → Int32) : Nat → List Nat → (Nat → Int32)
  | _, [] => F
  | k, s :: l => setL (upd F k (nI s)) (k + 1) l
theorem setL_lo : ∀ (l : List Nat) (k j : Nat) (F : Nat → Int32), j < k → setL F k l j = F j
  | [], k, j, F, _ => rfl
  | s :: l, k, j, F, h => by rw [setL, setL_lo l (k + 1) j _ (by omega), upd_n (by omega)]
theorem setL_hi : ∀ (l : List Nat) (k j : Nat) (F : Nat → Int32), k + l.length ≤ j → setL F k l j = F j
  | [], k, j, F, _ => rfl
  | s :: l, k, j, F, h => by
    rw [List.length_cons] at h
    rw [setL, setL_hi l (k + 1) j _ (by omega), upd_n (by omega)]
theorem setL_get : ∀ (l : List Nat) (k i : Nat) (F : Nat → Int32), i < l.length → setL F k l (k + i) = nI (l.getD i 0)
  | [], k, i, F, h => absurd h (Nat.not_lt_zero _)
  | s :: l, k, 0, F, h => by
    show setL (upd F k (nI s)) (k + 1) l k = nI s
    rw [setL_lo l (k + 1) k _ (by omega), upd_s]
  | s :: l, k, i + 1, F, h => by
    rw [List.length_cons] at h
    rw [setL, show k + (i + 1) = (k + 1) + i by omega, setL_get l (k + 1) i _ (by omega)]
    rfl
theorem ordL_get {f : Nat → Int32} : ∀ (l : List Nat) (k : Nat), (∀ s ∈ l, s < 2 ^ 31) → (∀ i, i < l.length → f (k + i) = nI (l.getD i 0)) → ordL f l.length k = l
  | [], k, _, _ => rfl
  | s :: l, k, hs, h => by
    have h0 := h 0 (Nat.zero_lt_succ _)
    rw [List.length_cons, ordL, ordL_get l (k + 1) (fun s h2 => hs s (List.mem_cons_of_mem _ h2)) (fun i hi => ?_)]
    · rw [Nat.add_zero] at h0
      rw [h0]
      congr 1
      exact nI_clamp (hs s List.mem_cons_self)
    · have := h (i + 1) (by rw [List.length_cons]; omega)
      rw [show k + 1 + i = k + (i + 1) by omega, this]
      rfl
theorem getD_mem : ∀ (l : List Nat) (i : Nat), i < l.length → l.getD i 0 ∈ l
  | [], i, h => absurd h (Nat.not_lt_zero _)
  | s :: l, 0, h => List.mem_cons_self
  | s :: l, i + 1, h => List.mem_cons_of_mem _ (getD_mem l i (by rw [List.length_cons] at h; omega))
theorem nodup_inj : ∀ (l : List Nat), nodupB l = true → ∀ i j, i < l.length → j < l.length → l.getD i 0 = l.getD j 0 → i = j
  | [], _, i, j, h, _, _ => absurd h (Nat.not_lt_zero _)
  | s :: l, hn, i, j, hi, hj, he => by
    rw [nodupB, Bool.and_eq_true] at hn
    rw [List.length_cons] at hi hj
    have hs : ∀ k, k < l.length → l.getD k 0 ≠ s := fun k hk z => by
      have h1 := getD_mem l k hk
      rw [z] at h1
      have h2 : l.contains s = true := List.contains_iff_mem.mpr h1
      rw [h2] at hn
      exact absurd hn.1 (by decide)
    match i, j with
    | 0, 0 => rfl
    | 0, j + 1 => exact absurd he.symm (hs j (by omega))
    | i + 1, 0 => exact absurd he (hs i (by omega))
    | i + 1, j + 1 => exact congrArg (· + 1) (nodup_inj l hn.2 i j (by omega) (by omega) he)
theorem isPm_of {n : Nat} {l : List Nat} (h : isPm n l = true) : l.length = n ∧ (∀ s ∈ l, s < n) ∧ nodupB l = true := by
  unfold isPm at h
  rw [Bool.and_eq_true, Bool.and_eq_true] at h
  refine ⟨Nat.eq_of_beq_eq_true h.1, fun s hs => ?_, h.2.2⟩
  have := List.all_eq_true.mp h.2.1 s hs
  exact Nat.blt_eq.mp this
theorem RO_PM {f : Nat → Int32} {l : List Nat} {n : Nat} (hn : n ≤ 24) (hl : l.length = n) (h1 : ∀ s ∈ l, s < n) (h2 : nodupB l = true) (h : RO f l n) : PM f n := by
  have hg : ∀ i, i < n → l.getD i 0 < n := fun i hi => h1 _ (getD_mem l i (by omega))
  refine ⟨fun j hj => ⟨l.getD j 0, hg j hj, h j hj⟩, fun i j hi hj he => ?_⟩
  rw [h i hi, h j hj] at he
  have a := hg i hi
  have b := hg j hj
  exact nodup_inj l h2 i j (by omega) (by omega) ((nI_eq (by omega) (by omega)).mp he)
theorem lyF_lt {U : Nat} : ∀ (f m s r : Nat), lyF U f m s = some r → r < s + f
  | 0, m, s, r, h => by rw [lyF] at h; cases h
  | f + 1, m, s, r, h => by
    rw [lyF] at h
    by_cases c : U.testBit s = true
    · rw [if_pos c] at h
      have := lyF_lt f m (s + 1) r h
      omega
    · rw [if_neg c] at h
      by_cases c2 : m = 0
      · rw [if_pos c2] at h
        cases h
        omega
      · rw [if_neg c2] at h
        have := lyF_lt f (m - 1) (s + 1) r h
        omega
theorem lyAll_get {n : Nat} : ∀ (k c i : Nat), i < k → (lyAll n k c)[i]? = some (lyG n n 0 (c + i) (fct n) 0)
  | 0, c, i, h => absurd h (Nat.not_lt_zero _)
  | k + 1, c, 0, h => by rw [lyAll]; rfl
  | k + 1, c, i + 1, h => by
    rw [lyAll, List.getElem?_cons_succ, lyAll_get k (c + 1) i (by omega), show c + 1 + i = c + (i + 1) by omega]
theorem ly_code {n c : Nat} {l : List Nat} (hn : n ≤ 6) (h : (dfL n n 0)[c]? = some l) : c < fct n ∧ lyG n n 0 c (fct n) 0 = some l := by
  have hl := po_len n (by omega)
  obtain ⟨h1, -⟩ := List.getElem?_eq_some_iff.mp h
  have hc : c < fct n := by omega
  have e1 := lyAll_get (n := n) (fct n) 0 c hc
  rw [ly_all hn, List.getElem?_map, h, Nat.zero_add] at e1
  exact ⟨hc, (Option.some.inj e1).symm⟩
def qz (H : Nat) : pS := (fun _ => -nI 1, fun _ => -nI 1, fun _ => nI H)
theorem qz_GQ {n H : Nat} : GQ (qz H) n H := ⟨fun _ _ => Or.inl rfl, fun _ _ => ⟨H, Nat.le_refl _, rfl⟩⟩
theorem fold_cg {h : pmH} {C e : Nat} {q r : pS} {pre : List Nat} : ∀ (L : List (List Nat)) (b : Nat × List Nat), (∀ l ∈ L, (plL h C l q e).2 = (plL h C l r e).2) → L.foldl (ftS h C q e pre) b = L.foldl (ftS h C r e pre) b
  | [], b, _ => rfl
  | l :: L, b, hl => by
    have e1 : ftS h C q e pre b l = ftS h C r e pre b l := by unfold ftS; rw [hl l List.mem_cons_self]
    rw [List.foldl_cons, List.foldl_cons, e1]
    exact fold_cg L _ (fun l h2 => hl l (List.mem_cons_of_mem _ h2))
theorem fold_in {h : pmH} {C e : Nat} {q : pS} : ∀ (L : List (List Nat)) (b : Nat × List Nat), (L.foldl (ftS h C q e []) b).2 = b.2 ∨ (L.foldl (ftS h C q e []) b).2 ∈ L
  | [], b => Or.inl rfl
  | l :: L, b => by
    rw [List.foldl_cons]
    rcases fold_in L (ftS h C q e [] b l) with z | z
    · rw [z]
      unfold ftS
      by_cases c : (plL h C l q e).2 < b.1
      · rw [if_pos c]; exact Or.inr List.mem_cons_self
      · rw [if_neg c]; exact Or.inl rfl
    · exact Or.inr (List.mem_cons_of_mem _ z)
/-- the first order is that of the numbers; both begin with it -/
theorem fold_hd {h : pmH} {C : Nat} {q : pS} {a : List Nat} {L : List (List Nat)} (hv : (plL h C a q 0).2 < 100) : (a :: L).foldl (ftS h C q 0 []) ((plL h C a q 0).2, a) = (a :: L).foldl (ftS h C q 0 []) (100, a) := by
  rw [List.foldl_cons, List.foldl_cons]
  congr 1
  unfold ftS
  rw [if_neg (Nat.lt_irrefl _), if_pos hv]
  rfl
theorem plL_le {h : pmH} {C n H : Nat} (hV : VS h n) (hn : n ≤ 24) (hH : H ≤ 12) : ∀ (l : List Nat) (q : pS) (e : Nat), (∀ s ∈ l, s < n) → GQ q n H → e ≤ 99 → (plL h C l q e).2 ≤ 99
  | [], q, e, _, _, he => he
  | s :: l, q, e, hl, hq, he => by
    have hs := hl s List.mem_cons_self
    rw [plL]
    exact plL_le hV hn hH l _ _ (fun s h2 => hl s (List.mem_cons_of_mem _ h2)) (hq.hg hV hn hs hH) (Nat.max_le.mpr ⟨he, pl_ev_le hV.up hn hs hq⟩)
section LAY
variable {sl : Nat} {xs : Nat → Int32}
theorem lay46 {d : Nat} {g : pmH} {U k : Nat} {F : Nat → Int32} {b3 b4 : Int32} {o1 o2 : Option Value} (hU : U < 2 ^ 24) (hk : k < 24) : ∀ (f m s r : Nat), lyF U f m s = some r → s + f ≤ 24 → m < 2 ^ 31 → ∃ p7 p8, pm_Ev sl xs (d + 1) 136 46 [some (.ref 40), o1, o2, some (.int b3), some (.int b4), some (.int (nI U)), some (.int (nI k)), some (.int (nI m)), some (.int (nI s))] [] (SH, pm_pt g 68 F) = pm_Ev sl xs (d + 1) 136 11 [some (.ref 40), o1, o2, some (.int b3), some (.int b4), some (.int (nI (U ||| 2 ^ r))), some (.int (nI (k + 1))), p7, p8] [] (SH, pm_pt g 68 (upd F k (nI r)))
  | 0, m, s, r, h, _, _ => by rw [lyF] at h; cases h
  | f + 1, m, s, r, h, hs, hm => by
    have hh : pm_cf (pm_Ev sl xs) (d + 1) 98 [.int (nI U), .int (nI s)] (SH, pm_pt g 68 F) = some (some (.int (bI (U.testBit s))), (SH, pm_pt g 68 F)) := by
      rw [c_hasM, hb_T (by omega) (by omega)]
    rw [lyF] at h
    rw [qX8_lay_46, hh, pm_ri_ok, bI_if]
    cases c : U.testBit s with
    | true =>
      rw [c, if_pos rfl] at h
      rw [if_pos rfl, hh, pm_ri_ok, c, bI_t, nI_add]
      exact lay46 hU hk f m (s + 1) r h (by omega) hm
    | false =>
      rw [c, if_neg (by decide)] at h
      rw [if_neg (by decide)]
      by_cases c2 : m = 0
      · rw [if_pos c2] at h
        cases h
        subst c2
        rw [if_pos (by decide), pm_ix_nI hk (by decide), shl1 (by omega), nI_or, nI_add, pt_up]
        exact ⟨_, _, rfl⟩
      · rw [if_neg c2] at h
        rw [if_neg (nI_nle (by omega) hm), hh, pm_ri_ok, c, bI_f, m1, pk_sub (by omega), nI_add]
        exact lay46 hU hk f (m - 1) (s + 1) r h (by omega) (by omega)
theorem lay11 {d : Nat} {g : pmH} {n : Nat} {b1 b2 : Int32} (hn : n ≤ 6) (n39 : g 39 1 = nI n) : ∀ (r k left parts U : Nat) (l : List Nat) (F : Nat → Int32) (o7 o8 : Option Value), k + r = n → lyG n r k left parts U = some l → U < 2 ^ 24 → left < 2 ^ 31 → parts < 2 ^ 31 → pm_Ev sl xs (d + 1) 136 11 [some (.ref 40), some (.int b1), some (.int b2), some (.int (nI left)), some (.int (nI parts)), some (.int (nI U)), some (.int (nI k)), o7, o8] [] (SH, pm_pt g 68 F) = some (none, (SH, pm_pt g 68 (setL F k l)))
  | 0, k, left, parts, U, l, F, o7, o8, hk, h, _, _, _ => by
    rw [lyG] at h
    cases h
    rw [qX8_lay_11v, pt_ne (a := 39) (by decide), n39, if_pos (nI_le (by omega) (by omega)), setL]
  | r + 1, k, left, parts, U, l, F, o7, o8, hk, h, hU, hl, hp => by
    rw [lyG] at h
    have hd : parts / (n - k) ≤ parts := Nat.div_le_self _ _
    have e1 : nI n - nI k = nI (n - k) := pk_sub (by omega)
    have e2 : nI parts / nI (n - k) = nI (parts / (n - k)) := pk_div hp (by omega) (by omega)
    generalize parts / (n - k) = P at h hd e2
    by_cases c : P = 0
    · rw [if_pos c] at h; cases h
    · rw [if_neg c] at h
      cases hf : lyF U 8 (left / P) 0 with
      | none => rw [hf] at h; cases h
      | some s =>
        rw [hf] at h
        have hs := lyF_lt _ _ _ _ hf
        have hdl : left / P ≤ left := Nat.div_le_self _ _
        have hml : left % P ≤ left := Nat.mod_le _ _
        cases hg : lyG n r (k + 1) (left % P) P (U ||| 2 ^ s) with
        | none => simp only [hg] at h; cases h
        | some l2 =>
          simp only [hg] at h
          cases h
          obtain ⟨p7, p8, t1⟩ := lay46 (sl := sl) (xs := xs) (d := d) (g := g) (F := F) (b3 := nI (left % P)) (b4 := nI P) (o1 := some (.int b1)) (o2 := some (.int b2)) hU (show k < 24 by omega) 8 (left / P) 0 s hf (by omega) (by omega)
          rw [qX8_lay_11v, pt_ne (a := 39) (by decide), n39, if_neg (nI_ge (by omega) (by omega)), e1, if_neg (nI_ne0 (by omega) (by omega)), e2, if_neg (nI_ne0 (by omega) (by omega)), if_neg (nI_ne0 (by omega) (by omega)), pk_rem hl (by omega) (by omega), pk_div hl (by omega) (by omega), t1, setL]
          exact lay11 hn n39 r (k + 1) _ _ _ l2 _ _ _ (by omega) hg (or_lt hU (by omega)) (by omega) (by omega)
theorem m_lay {d : Nat} {g : pmH} {n c : Nat} {l : List Nat} (hn : n ≤ 6) (n39 : g 39 1 = nI n) (h : (dfL n n 0)[c]? = some l) : pm_cf (pm_Ev sl xs) (d + 2) 136 [.ref 40, .int (nI c), .int (nI (fct n))] (SH, g) = some (none, (SH, pm_pt g 68 (setL (g 68) 0 l))) := by
  obtain ⟨h1, h2⟩ := ly_code hn h
  have h3 := fct_b n (by omega)
  have := lay11 (sl := sl) (xs := xs) (d := d) (g := g) (b1 := nI c) (b2 := nI (fct n)) hn n39 n 0 c (fct n) 0 l (g 68) none none (by omega) h2 (by decide) (by omega) (by omega)
  rw [pt_self] at this
  rw [qX8_lay_0]
  exact this
theorem pm_of {n : Nat} {l : List Nat} (hn : n ≤ 6) (h : l ∈ dfL n n 0) : l.length = n ∧ (∀ s ∈ l, s < n) ∧ nodupB l = true := isPm_of (List.all_eq_true.mp (po_all n (by omega)) l h)
theorem setL_RO {n : Nat} {l : List Nat} {F : Nat → Int32} (hl : l.length = n) : RO (setL F 0 l) l n := fun i hi => by
  have := setL_get l 0 i F (by omega)
  rw [Nat.zero_add] at this
  exact this
/-- one order: its end -/
theorem m_ord {d : Nat} {g h : pmH} {C H n c : Nat} {l : List Nat} (hC : C ≤ 3) (hH : H ≤ 12) (hn : n ≤ 6) (hV : VS h n) (hp : PKm g h C H n) (hc : (dfL n n 0)[c]? = some l) : ∃ g2 g3, pm_cf (pm_Ev sl xs) (d + 3) 136 [.ref 40, .int (nI c), .int (nI (fct n))] (SH, g) = some (none, (SH, g2)) ∧ pm_cf (pm_Ev sl xs) (d + 3) 133 [.ref 40, .ref 69] (SH, g2) = some (some (.int (nI (plL h C l (qz H) 0).2)), (SH, g3)) ∧ ∀ k, k ∉ [65, 66, 67, 68] → g3 k = g k := by
  obtain ⟨q1, q2, q3⟩ := pm_of hn (List.mem_of_getElem? hc)
  have hr := setL_RO (F := g 68) q1
  have e68 : pm_pt g 68 (setL (g 68) 0 l) 68 = setL (g 68) 0 l := pt_same _ _ _
  have hpk : PKm (pm_pt g 68 (setL (g 68) 0 l)) h C H n := by
    unfold PKm at hp ⊢
    rw [pt_ne (a := 44) (by decide), pt_ne (a := 45) (by decide), pt_ne (a := 46) (by decide), pt_ne (a := 55) (by decide), pt_ne (a := 39) (by decide)]
    exact hp
  obtain ⟨q, b1, -⟩ := m_ends_69 (sl := sl) (xs := xs) (d := d) (g := pm_pt g 68 (setL (g 68) 0 l)) hC hH (by omega) hV hpk (by rw [e68]; exact RO_PM (by omega) q1 q2 q3 hr) (qz H) qz_GQ (fun j hj => ⟨rfl, rfl⟩) (fun j hj => rfl)
  have eo : ordL (setL (g 68) 0 l) n 0 = l := by
    have := ordL_get (f := setL (g 68) 0 l) l 0 (fun s hs => by have := q2 s hs; omega) (fun i hi => by rw [Nat.zero_add]; exact hr i (by omega))
    rw [q1] at this
    exact this
  rw [e68, eo] at b1
  refine ⟨_, _, m_lay (d := d + 1) hn hp.2.2.2.2.2.2 hc, b1, fun k hk => ?_⟩
  simp at hk
  rw [M3_ne (by omega) (by omega) (by omega), pt_ne (by omega)]
theorem PKm.of {g g2 h : pmH} {C H n : Nat} (hp : PKm g h C H n) (hg : ∀ k, k ∉ [65, 66, 67, 68] → g2 k = g k) : PKm g2 h C H n := by
  unfold PKm at hp ⊢
  rw [hg 44 (by decide), hg 45 (by decide), hg 46 (by decide), hg 55 (by decide), hg 39 (by decide)]
  exact hp
theorem codes_m {d : Nat} {g h : pmH} {C H n : Nat} (hC : C ≤ 3) (hH : H ≤ 12) (hn : n ≤ 6) (hV : VS h n) (hp : PKm g h C H n) : ∀ (t done : List (List Nat)) (be bc : Nat) (lb : List Nat) (g2 : pmH) (o5 : Option Value), dfL n n 0 = done ++ t → (dfL n n 0)[bc]? = some lb → be ≤ 100 → (∀ k, k ∉ [65, 66, 67, 68] → g2 k = g k) →
    ∃ bc2 g3 p5, pm_Ev sl xs (d + 3) 137 45 [some (.ref 40), some (.int (nI (fct n))), some (.int (nI bc)), some (.int (nI be)), some (.int (nI done.length)), o5] [] (SH, g2) = pm_Ev sl xs (d + 3) 137 45 [some (.ref 40), some (.int (nI (fct n))), some (.int (nI bc2)), some (.int (nI (t.foldl (ftS h C (qz H) 0 []) (be, lb)).1)), some (.int (nI (fct n))), p5] [] (SH, g3) ∧ (dfL n n 0)[bc2]? = some (t.foldl (ftS h C (qz H) 0 []) (be, lb)).2 ∧ ∀ k, k ∉ [65, 66, 67, 68] → g3 k = g k
  | [], done, be, bc, lb, g2, o5, hP, hb, hbe, hg => by
    have hl := po_len n (by omega)
    rw [List.append_nil] at hP
    rw [hP] at hl
    rw [hl]
    exact ⟨bc, g2, o5, rfl, hb, hg⟩
  | l :: t, done, be, bc, lb, g2, o5, hP, hb, hbe, hg => by
    have hc : (dfL n n 0)[done.length]? = some l := by
      rw [hP, List.getElem?_append_right (Nat.le_refl _), Nat.sub_self]
      rfl
    obtain ⟨hcl, -⟩ := ly_code hn hc
    have hf := fct_b n (by omega)
    obtain ⟨g4, g5, a1, a2, a3⟩ := m_ord (sl := sl) (xs := xs) (d := d) hC hH hn hV (hp.of hg) hc
    have hg5 : ∀ k, k ∉ [65, 66, 67, 68] → g5 k = g k := fun k hk => by rw [a3 k hk, hg k hk]
    obtain ⟨q1, q2, q3⟩ := pm_of hn (List.mem_of_getElem? hc)
    have hv := plL_le (C := C) hV (by omega) hH l (qz H) 0 q2 qz_GQ (by omega)
    have el : done.length + 1 = (done ++ [l]).length := by rw [List.length_append]; rfl
    rw [qX8_best_45, if_neg (nI_ge hcl (by omega)), a1, pm_rv_ok, a2, pm_ri_ok, nI_add, List.foldl_cons, el]
    by_cases c : (plL h C l (qz H) 0).2 < be
    · have e : ftS h C (qz H) 0 [] (be, lb) l = ((plL h C l (qz H) 0).2, l) := by
        unfold ftS
        rw [if_pos c]
        rfl
      rw [if_pos (nI_lt c (by omega)), e]
      exact codes_m hC hH hn hV hp t (done ++ [l]) _ done.length l g5 _ (by rw [hP, List.append_assoc]; rfl) hc (by omega) hg5
    · have e : ftS h C (qz H) 0 [] (be, lb) l = (be, lb) := by
        unfold ftS
        rw [if_neg c]
      rw [if_neg (nI_nlt (by omega) (by omega)), e]
      exact codes_m hC hH hn hV hp t (done ++ [l]) be bc lb g5 _ (by rw [hP, List.append_assoc]; rfl) hb hbe hg5
theorem fac_m {d : Nat} {g : pmH} {n : Nat} {o3 o4 o5 : Option Value} (hn : n ≤ 6) (n39 : g 39 1 = nI n) : ∀ (kk k : Nat), k + kk = n → pm_Ev sl xs (d + 1) 137 19 [some (.ref 40), some (.int (nI (fct k))), some (.int (nI (k + 1))), o3, o4, o5] [] (SH, g) = pm_Ev sl xs (d + 1) 137 45 [some (.ref 40), some (.int (nI (fct n))), some (.int (nI 0)), some (.int (nI 100)), some (.int (nI 0)), o5] [] (SH, g)
  | 0, k, hk => by
    have e : k = n := by omega
    subst e
    rw [qX8_best_19, n39, if_pos (nI_lt (by omega) (by omega))]
  | kk + 1, k, hk => by
    rw [qX8_best_19, n39, if_neg (nI_nlt (by omega) (by omega)), pk_mul, nI_add]
    exact fac_m hn n39 kk (k + 1) (by omega)
theorem copy_m {d : Nat} {g : pmH} {n : Nat} {b3 : Int32} {o1 o2 o5 : Option Value} (hn : n ≤ 6) (n39 : g 39 1 = nI n) : ∀ (k i : Nat) (f : Nat → Int32), i + k = n → (∀ j, j < i → f j = g 68 j) → ∃ f2, pm_Ev sl xs (d + 1) 137 98 [some (.ref 40), o1, o2, some (.int b3), some (.int (nI i)), o5] [] (SH, pm_pt g 59 f) = some (some (.int b3), (SH, pm_pt g 59 f2)) ∧ (∀ j, j < n → f2 j = g 68 j) ∧ ∀ j, n ≤ j → f2 j = f j
  | 0, i, f, hk, hf => by
    refine ⟨f, ?_, fun j hj => hf j (by omega), fun _ _ => rfl⟩
    rw [qX8_best_98, pt_ne (a := 39) (by decide), n39, if_pos (nI_le (by omega) (by omega))]
  | k + 1, i, f, hk, hf => by
    obtain ⟨f2, a1, a2, a3⟩ := copy_m (d := d) (b3 := b3) (o1 := o1) (o2 := o2) (o5 := o5) hn n39 k (i + 1) (upd f i (g 68 i)) (by omega) (fun j hj => by
      by_cases e : j = i
      · subst e; rw [upd_s]
      · rw [upd_n e]; exact hf j (by omega))
    refine ⟨f2, ?_, a2, fun j hj => by rw [a3 j hj, upd_n (by omega)]⟩
    rw [qX8_best_98, pt_ne (a := 39) (by decide), n39, if_neg (nI_ge (by omega) (by omega)), pm_ix_nI (by omega) (by decide), pm_ix_nI (by omega) (by decide), pt_ne (a := 68) (by decide), pt_up, nI_add]
    exact a1
/-- the reference's best -/
theorem m_best {d : Nat} {g h : pmH} {C H n : Nat} (hC : C ≤ 3) (hH : H ≤ 12) (hn : n ≤ 6) (hV : VS h n) (hp : PKm g h C H n) : ∃ g2, pm_cf (pm_Ev sl xs) (d + 4) 137 [.ref 40] (SH, g) = some (some (.int (nI ((dfL n n 0).foldl (ftS h C (qz H) 0 []) (100, List.range n)).1)), (SH, g2)) ∧ RO (g2 59) ((dfL n n 0).foldl (ftS h C (qz H) 0 []) (100, List.range n)).2 n ∧ (∀ j, n ≤ j → g2 59 j = g 59 j) ∧ ∀ k, k ∉ [59, 65, 66, 67, 68] → g2 k = g k := by
  have n39 := hp.2.2.2.2.2.2
  have hf := fct_b n (by omega)
  have hb0 : (dfL n n 0)[0]? = some (List.range n) := by
    rw [← List.head?_eq_getElem?]; exact po_hd n (by omega)
  obtain ⟨bc, g3, p5, a1, a2, a3⟩ := codes_m (sl := sl) (xs := xs) (d := d) (g := g) (h := h) hC hH hn hV hp (dfL n n 0) [] 100 0 (List.range n) g none rfl hb0 (Nat.le_refl _) (fun _ _ => rfl)
  have n393 : g3 39 1 = nI n := by rw [a3 39 (by decide)]; exact n39
  have ly := m_lay (sl := sl) (xs := xs) (d := d + 1) (g := g3) hn n393 a2
  obtain ⟨q1, q2, q3⟩ := pm_of hn (List.mem_of_getElem? a2)
  obtain ⟨G, hG⟩ : ∃ G, G = pm_pt g3 68 (setL (g3 68) 0 ((dfL n n 0).foldl (ftS h C (qz H) 0 []) (100, List.range n)).2) := ⟨_, rfl⟩
  rw [← hG] at ly
  have G39 : G 39 1 = nI n := by rw [hG, pt_ne (by decide)]; exact n393
  obtain ⟨f2, c1, c2, c3⟩ := copy_m (sl := sl) (xs := xs) (d := d + 2) (g := G) (b3 := nI ((dfL n n 0).foldl (ftS h C (qz H) 0 []) (100, List.range n)).1) (o1 := some (.int (nI (fct n)))) (o2 := some (.int (nI bc))) (o5 := p5) hn G39 n 0 (G 59) (by omega) (fun j hj => absurd hj (Nat.not_lt_zero _))
  rw [pt_self] at c1
  have st : pm_cf (pm_Ev sl xs) (d + 4) 137 [.ref 40] (SH, g) = pm_Ev sl xs (d + 3) 137 45 [some (.ref 40), some (.int (nI (fct n))), some (.int (nI 0)), some (.int (nI 100)), some (.int (nI 0)), none] [] (SH, g) := by
    rw [qX8_best_0, n39, if_pos (nI_le hn (by decide))]
    rcases Nat.eq_zero_or_pos n with e | e
    · subst e
      rw [qX8_best_19, n39, if_pos (nI_lt (by decide) (by decide))]
      rfl
    · exact fac_m (d := d + 2) hn n39 (n - 1) 1 (by omega)
  refine ⟨pm_pt G 59 f2, ?_, fun i hi => ?_, fun j hj => ?_, fun k hk => ?_⟩
  · rw [st]
    refine a1.trans ?_
    rw [qX8_best_45, if_pos (nI_le (Nat.le_refl _) (by omega)), ly, pm_rv_ok]
    exact c1
  · rw [pt_same, c2 i hi, hG, pt_same]
    exact setL_RO q1 i hi
  · rw [pt_same, c3 j hj, hG, pt_ne (by decide), a3 59 (by decide)]
  · simp at hk
    rw [pt_ne (by omega), hG, pt_ne (by omega)]
    exact a3 k (by simp; omega)
end LAY
