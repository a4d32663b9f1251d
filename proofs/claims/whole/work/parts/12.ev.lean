/-! what a run answers, without a count of steps -/
theorem pm_cl_mono {cf cf2 : Nat → List Value → pmW → Option pmR} {k k2 : Nat → pmL → List Value → pmW → Option pmR} (hc : ∀ y as w r, cf y as w = some r → cf2 y as w = some r) (hk : ∀ pc L st w r, k pc L st w = some r → k2 pc L st w = some r) {y rk : Nat} {as : List Value} {w : pmW} {pc : Nat} {L : pmL} {rest : List Value} {res : pmR} (h : pm_cl cf k y rk as w pc L rest = some res) : pm_cl cf2 k2 y rk as w pc L rest = some res := by
  unfold pm_cl at h ⊢; split at h
  · obtain ⟨h2, h3, h4⟩ := pm_rv_some h
    rw [hc _ _ _ _ h3]
    unfold pm_rv
    dsimp only
    rw [if_pos rfl]
    exact hk _ _ _ _ _ h4
  · obtain ⟨x, h2, h3, h4⟩ := pm_ri_some h
    rw [hc _ _ _ _ h3]
    unfold pm_ri
    dsimp only
    rw [if_pos rfl]
    exact hk _ _ _ _ _ h4
  · obtain ⟨w2, h3, h4, h5, h6⟩ := pm_rn_some h
    rw [hc _ _ _ _ h3]
    unfold pm_rn
    dsimp only
    rw [if_pos ⟨h4, h5⟩]
    exact hk _ _ _ _ _ h6
theorem pm_cf_mono {ex ex2 : Nat → Nat → Nat → pmL → List Value → pmW → Option pmR} (hx : ∀ d y pc L st w r, ex d y pc L st w = some r → ex2 d y pc L st w = some r) {d y : Nat} {as : List Value} {w : pmW} {r : pmR} (h : pm_cf ex d y as w = some r) : pm_cf ex2 d y as w = some r := by
  cases d with
  | zero => cases h
  | succ d =>
    unfold pm_cf at h ⊢
    dsimp only at h ⊢
    obtain ⟨M, hM, h⟩ := pm_o_some h
    obtain ⟨hb, h⟩ := pm_b_some h
    rw [hM]
    unfold pm_o
    dsimp only
    rw [hb]
    exact hx _ _ _ _ _ _ _ h
theorem pm_in_mono {k k2 : Nat → pmL → List Value → pmW → Option pmR} {cl cl2 : Nat → Nat → List Value → pmW → Nat → pmL → List Value → Option pmR} (hk : ∀ pc L st w r, k pc L st w = some r → k2 pc L st w = some r) (hc : ∀ y rk as w pc L rest r, cl y rk as w pc L rest = some r → cl2 y rk as w pc L rest = some r) {x : pmD} {r : pmR} (h : pm_in none (fun r w => some (r, w)) k cl x = some r) : pm_in none (fun r w => some (r, w)) k2 cl2 x = some r := by
  rcases x with _ | x | x | x
  · cases h
  · exact h
  · exact hk _ _ _ _ _ h
  · exact hc _ _ _ _ _ _ _ _ h
section PMEV
variable {sl : Nat} {xs : Nat → Int32}
theorem pm_ex_step {ex ex2 : Nat → Nat → Nat → pmL → List Value → pmW → Option pmR} (hx : ∀ d y pc L st w r, ex d y pc L st w = some r → ex2 d y pc L st w = some r) {d y pc : Nat} {L : pmL} {st : List Value} {w : pmW} {r : pmR} {own : Nat} {ret : Option FieldType} {ini hd : Bool} {op : Instr}
    (h : pm_F none (fun r w => some (r, w)) (ex d y) (pm_cl (pm_cf ex d) (ex d y)) sl xs own ret ini hd op pc L st w.1 w.2 = some r) : pm_F none (fun r w => some (r, w)) (ex2 d y) (pm_cl (pm_cf ex2 d) (ex2 d y)) sl xs own ret ini hd op pc L st w.1 w.2 = some r := by
  rw [pm_F_D] at h ⊢
  exact pm_in_mono (hx d y) (fun _ _ _ _ _ _ _ _ h9 => pm_cl_mono (fun _ _ _ _ h8 => pm_cf_mono hx h8) (hx d y) h9) h
theorem pm_ex_mono : ∀ (n d y pc : Nat) (L : pmL) (st : List Value) (w : pmW) (r : pmR), pm_ex sl xs n d y pc L st w = some r → pm_ex sl xs (n + 1) d y pc L st w = some r
  | 0, _, _, _, _, _, _, _, h => by cases h
  | n + 1, d, y, pc, L, st, w, r, h => by
    unfold pm_ex at h ⊢
    obtain ⟨M, hM, h⟩ := pm_o_some h
    obtain ⟨q, hq, h⟩ := pm_o_some h
    rw [hM]
    unfold pm_o
    dsimp only
    rw [hq]
    dsimp only
    exact pm_ex_step (pm_ex_mono n) h
theorem pm_ex_le {n m d y pc : Nat} {L : pmL} {st : List Value} {w : pmW} {r : pmR} (hnm : n ≤ m) (h : pm_ex sl xs n d y pc L st w = some r) : pm_ex sl xs m d y pc L st w = some r := by
  induction hnm with
  | refl => exact h
  | step _ ih => exact pm_ex_mono _ _ _ _ _ _ _ _ ih
noncomputable def pm_Ev (sl : Nat) (xs : Nat → Int32) (d y pc : Nat) (L : pmL) (st : List Value) (w : pmW) : Option pmR :=
  haveI := Classical.propDecidable (∃ r n, pm_ex sl xs n d y pc L st w = some r)
  if h : ∃ r n, pm_ex sl xs n d y pc L st w = some r then some (Classical.choose h) else none
theorem pm_Ev_of {n d y pc : Nat} {L : pmL} {st : List Value} {w : pmW} {r : pmR} (h : pm_ex sl xs n d y pc L st w = some r) : pm_Ev sl xs d y pc L st w = some r := by
  unfold pm_Ev
  have he : ∃ r n, pm_ex sl xs n d y pc L st w = some r := ⟨r, n, h⟩
  rw [dif_pos he]
  obtain ⟨n2, h2⟩ := Classical.choose_spec he
  have h3 := pm_ex_le (Nat.le_max_left n n2) h
  have h4 := pm_ex_le (Nat.le_max_right n n2) h2
  rw [h3] at h4
  exact h4.symm
theorem pm_Ev_ex {d y pc : Nat} {L : pmL} {st : List Value} {w : pmW} {r : pmR} (h : pm_Ev sl xs d y pc L st w = some r) : ∃ n, pm_ex sl xs n d y pc L st w = some r := by
  unfold pm_Ev at h
  split at h
  · next he =>
    obtain ⟨n2, h2⟩ := Classical.choose_spec he
    injection h with h
    rw [h] at h2
    exact ⟨n2, h2⟩
  · cases h
theorem pm_cf_Ev {d y : Nat} {as : List Value} {w : pmW} {r : pmR} (h : pm_cf (pm_Ev sl xs) d y as w = some r) : ∃ n, pm_cf (pm_ex sl xs n) d y as w = some r := by
  cases d with
  | zero => cases h
  | succ d =>
    unfold pm_cf at h
    dsimp only at h
    obtain ⟨M, hM, h⟩ := pm_o_some h
    obtain ⟨hb, h⟩ := pm_b_some h
    obtain ⟨n, hn⟩ := pm_Ev_ex h
    refine ⟨n, ?_⟩
    unfold pm_cf
    dsimp only
    rw [hM]
    unfold pm_o
    dsimp only
    rw [hb]
    exact hn
theorem pm_cl_Ev {d y0 y rk : Nat} {as : List Value} {w : pmW} {pc : Nat} {L : pmL} {rest : List Value} {res : pmR} (h : pm_cl (pm_cf (pm_Ev sl xs) d) (pm_Ev sl xs d y0) y rk as w pc L rest = some res) : ∃ n, pm_cl (pm_cf (pm_ex sl xs n) d) (pm_ex sl xs n d y0) y rk as w pc L rest = some res := by
  have key : ∀ {r : pmR} {pc : Nat} {L : pmL} {st : List Value} {w2 : pmW}, pm_cf (pm_Ev sl xs) d y as w = some r → pm_Ev sl xs d y0 pc L st w2 = some res → ∃ n, pm_cf (pm_ex sl xs n) d y as w = some r ∧ pm_ex sl xs n d y0 pc L st w2 = some res := by
    intro r pc L st w2 h1 h2
    obtain ⟨n1, h1⟩ := pm_cf_Ev h1
    obtain ⟨n2, h2⟩ := pm_Ev_ex h2
    exact ⟨max n1 n2, pm_cf_mono (fun _ _ _ _ _ _ _ h9 => pm_ex_le (Nat.le_max_left n1 n2) h9) h1, pm_ex_le (Nat.le_max_right n1 n2) h2⟩
  unfold pm_cl at h ⊢; split at h
  · obtain ⟨h2, h3, h4⟩ := pm_rv_some h
    obtain ⟨n, h5, h6⟩ := key h3 h4
    refine ⟨n, ?_⟩
    rw [h5]
    unfold pm_rv
    dsimp only
    rw [if_pos rfl]
    exact h6
  · obtain ⟨x, h2, h3, h4⟩ := pm_ri_some h
    obtain ⟨n, h5, h6⟩ := key h3 h4
    refine ⟨n, ?_⟩
    rw [h5]
    unfold pm_ri
    dsimp only
    rw [if_pos rfl]
    exact h6
  · next h0 h1 =>
    obtain ⟨w2, h3, h4, h5, h6⟩ := pm_rn_some h
    obtain ⟨n, h7, h8⟩ := key h3 h6
    refine ⟨n, ?_⟩
    rw [h7]
    unfold pm_rn
    dsimp only
    rw [if_pos ⟨h4, h5⟩]
    exact h8
theorem pm_Ev_eq {d y pc : Nat} {L : pmL} {st : List Value} {w : pmW} {M : pmM} {q : Nat × Instr} (hM : pm_mt y = some M) (hq : pm_lk pc M.2.2.2.2.2.2 = some q) :
    pm_Ev sl xs d y pc L st w = pm_F none (fun r w => some (r, w)) (pm_Ev sl xs d y) (pm_cl (pm_cf (pm_Ev sl xs) d) (pm_Ev sl xs d y)) sl xs M.2.2.2.2.1 M.2.2.2.1 (pm_ini M) (pm_hd d) q.2 pc L st w.1 w.2 := by
  have hun : ∀ n, pm_ex sl xs (n + 1) d y pc L st w = pm_F none (fun r w => some (r, w)) (pm_ex sl xs n d y) (pm_cl (pm_cf (pm_ex sl xs n) d) (pm_ex sl xs n d y)) sl xs M.2.2.2.2.1 M.2.2.2.1 (pm_ini M) (pm_hd d) q.2 pc L st w.1 w.2 := by
    intro n
    conv => lhs; unfold pm_ex
    rw [hM]
    unfold pm_o
    dsimp only
    rw [hq]
  apply Option.ext
  intro r
  constructor
  · intro h
    obtain ⟨n, hn⟩ := pm_Ev_ex h
    have hn2 := pm_ex_mono n _ _ _ _ _ _ _ hn
    rw [hun n] at hn2
    exact pm_ex_step (ex := pm_ex sl xs n) (ex2 := pm_Ev sl xs) (fun _ _ _ _ _ _ _ h9 => pm_Ev_of h9) hn2
  · intro h
    rw [pm_F_D] at h
    have fin : ∀ n, pm_in none (fun r w => some (r, w)) (pm_ex sl xs n d y) (pm_cl (pm_cf (pm_ex sl xs n) d) (pm_ex sl xs n d y)) (pm_D0 sl xs M.2.2.2.2.1 M.2.2.2.1 (pm_ini M) (pm_hd d) q.2 pc L st w.1 w.2) = some r → pm_Ev sl xs d y pc L st w = some r := by
      intro n h1
      refine pm_Ev_of (n := n + 1) ?_
      rw [hun n, pm_F_D]
      exact h1
    revert h fin
    generalize pm_D0 sl xs M.2.2.2.2.1 M.2.2.2.1 (pm_ini M) (pm_hd d) q.2 pc L st w.1 w.2 = x
    intro h fin
    rcases x with _ | x | x | x
    · cases h
    · exact fin 0 h
    · obtain ⟨n, hn⟩ := pm_Ev_ex h
      exact fin n hn
    · obtain ⟨n, hn⟩ := pm_cl_Ev h
      exact fin n hn
theorem pm_Ev_none {d y pc : Nat} {L : pmL} {st : List Value} {w : pmW} {M : pmM} (hM : pm_mt y = some M) (hq : pm_lk pc M.2.2.2.2.2.2 = none) : pm_Ev sl xs d y pc L st w = none := by
  cases h : pm_Ev sl xs d y pc L st w with
  | none => rfl
  | some r =>
    obtain ⟨n, hn⟩ := pm_Ev_ex h
    cases n with
    | zero => cases hn
    | succ n =>
      unfold pm_ex at hn
      obtain ⟨M2, hM2, hn⟩ := pm_o_some hn
      cases hM.symm.trans hM2
      obtain ⟨q, hq2, hn⟩ := pm_o_some hn
      rw [hq] at hq2
      cases hq2
end PMEV
def pm_mem (i : Nat) : List Nat → Bool
  | [] => false
  | j :: t => match Nat.beq j i with
    | true => true
    | false => pm_mem i t
/-- some steps done ahead, up to the places 'stops' -/
def pm_un (sl : Nat) (xs : Nat → Int32) (own : Nat) (ret : Option FieldType) (ini hd : Bool) (code : List (Nat × Nat × Instr)) (cf : Nat → List Value → pmW → Option pmR) (k : Nat → pmL → List Value → pmW → Option pmR) (stops : List Nat) : Nat → Nat → pmL → List Value → pmW → Option pmR
  | 0 => k
  | n + 1 => fun pc L st w => pm_o none (pm_lk pc code) fun q =>
    pm_F none (fun r w => some (r, w)) (fun pc L st w => match pm_mem pc stops with
      | true => k pc L st w
      | false => pm_un sl xs own ret ini hd code cf k stops n pc L st w) (pm_cl cf (fun pc L st w => match pm_mem pc stops with
      | true => k pc L st w
      | false => pm_un sl xs own ret ini hd code cf k stops n pc L st w)) sl xs own ret ini hd q.2 pc L st w.1 w.2
theorem pm_un_eq {sl : Nat} {xs : Nat → Int32} {d y : Nat} {M : pmM} (hM : pm_mt y = some M) (stops : List Nat) : ∀ (n : Nat) (pc : Nat) (L : pmL) (st : List Value) (w : pmW), pm_un sl xs M.2.2.2.2.1 M.2.2.2.1 (pm_ini M) (pm_hd d) M.2.2.2.2.2.2 (pm_cf (pm_Ev sl xs) d) (pm_Ev sl xs d y) stops n pc L st w = pm_Ev sl xs d y pc L st w
  | 0, _, _, _, _ => rfl
  | n + 1, pc, L, st, w => by
    have hk : (fun pc L st w => match pm_mem pc stops with
      | true => pm_Ev sl xs d y pc L st w
      | false => pm_un sl xs M.2.2.2.2.1 M.2.2.2.1 (pm_ini M) (pm_hd d) M.2.2.2.2.2.2 (pm_cf (pm_Ev sl xs) d) (pm_Ev sl xs d y) stops n pc L st w) = pm_Ev sl xs d y := by
      funext pc L st w
      split
      · rfl
      · exact pm_un_eq hM stops n pc L st w
    unfold pm_un
    rw [hk]
    cases hq : pm_lk pc M.2.2.2.2.2.2 with
    | none => rw [pm_Ev_none hM hq]; rfl
    | some q => rw [pm_Ev_eq hM hq]; rfl
