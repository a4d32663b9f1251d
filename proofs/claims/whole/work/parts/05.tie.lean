/-! what a step asks, as propositions; pure worlds tied to the machine's heap -/
section PME
theorem pm_pi_F {st : List Value} {f : Int32 → List Value → Prop} (h : pm_pi False st f) : ∃ x r, st = .int x :: r ∧ f x r := by
  unfold pm_pi at h; split at h
  · exact ⟨_, _, rfl, h⟩
  · exact h.elim
theorem pm_pl_F {st : List Value} {f : Int64 → List Value → Prop} (h : pm_pl False st f) : ∃ x r, st = .long x :: r ∧ f x r := by
  unfold pm_pl at h; split at h
  · exact ⟨_, _, rfl, h⟩
  · exact h.elim
theorem pm_pr_F {st : List Value} {f : Nat → List Value → Prop} (h : pm_pr False st f) : ∃ x r, st = .ref x :: r ∧ f x r := by
  unfold pm_pr at h; split at h
  · exact ⟨_, _, rfl, h⟩
  · exact h.elim
theorem pm_p1_F {st : List Value} {f : Value → List Value → Prop} (h : pm_p1 False st f) : ∃ v r, st = v :: r ∧ v.category = 1 ∧ f v r := by
  unfold pm_p1 at h; split at h
  · split at h
    · next hb => exact ⟨_, _, rfl, Nat.eq_of_beq_eq_true hb, h⟩
    · exact h.elim
  · exact h.elim
theorem pm_vi_F {v : Value} {f : Int32 → Prop} (h : pm_vi False v f) : ∃ x, v = .int x ∧ f x := by
  unfold pm_vi at h; split at h
  · exact ⟨_, rfl, h⟩
  · exact h.elim
theorem pm_vl_F {v : Value} {f : Int64 → Prop} (h : pm_vl False v f) : ∃ x, v = .long x ∧ f x := by
  unfold pm_vl at h; split at h
  · exact ⟨_, rfl, h⟩
  · exact h.elim
theorem pm_vr_F {v : Value} {f : Nat → Prop} (h : pm_vr False v f) : ∃ x, v = .ref x ∧ f x := by
  unfold pm_vr at h; split at h
  · exact ⟨_, rfl, h⟩
  · exact h.elim
theorem pm_ld_F {L : pmL} {i : Nat} {f : Value → Prop} (h : pm_ld False L i f) : ∃ v, L[i]? = some (some v) ∧ f v := by
  unfold pm_ld at h; split at h
  · next hl => exact ⟨_, hl, h⟩
  · exact h.elim
theorem pm_s1_F {L : pmL} {i : Nat} {v : Value} {f : pmL → Prop} (h : pm_s1 False L i v f) : i < L.length ∧ f ((pm_k2 L i).set i (some v)) := by
  unfold pm_s1 at h; split at h
  · next hl => exact ⟨(List.getElem?_eq_some_iff.mp hl).1, h⟩
  · exact h.elim
theorem pm_s2_F {L : pmL} {i : Nat} {v : Value} {f : pmL → Prop} (h : pm_s2 False L i v f) : i + 1 < L.length ∧ f (((pm_k2 L i).set (i + 1) none).set i (some v)) := by
  unfold pm_s2 at h; split at h
  · next hl => exact ⟨(List.getElem?_eq_some_iff.mp hl).1, h⟩
  · exact h.elim
theorem pm_j_F {pc : Nat} {off : Int} {f : Nat → Prop} (h : pm_j False pc off f) : ∃ t : Nat, (pc : Int) + off = (t : Int) ∧ f t := by
  unfold pm_j at h; split at h
  · next he => exact ⟨_, he, h⟩
  · exact h.elim
theorem pm_ar_F {sh : List pmS} {t a : Nat} {f : Nat → Nat → Prop} (h : pm_ar False sh t a f) : ∃ k s, a = k + 1 ∧ sh[k]? = some s ∧ s.1 = t ∧ f k s.2.1 := by
  unfold pm_ar at h; split at h
  · exact h.elim
  · split at h
    · next hs =>
      split at h
      · next hb => exact ⟨_, _, rfl, hs, Nat.eq_of_beq_eq_true hb, h⟩
      · exact h.elim
    · exact h.elim
theorem pm_ob_F {sh : List pmS} {ci a : Nat} {f : Nat → List (Option (Option Nat)) → Prop} (h : pm_ob False sh ci a f) : ∃ k fl, a = k + 1 ∧ sh[k]? = some (2, ci, fl) ∧ f k fl := by
  unfold pm_ob at h; split at h
  · exact h.elim
  · split at h
    · next s hs =>
      split at h
      · next hb =>
        rw [Bool.and_eq_true] at hb
        obtain ⟨s1, s2, s3⟩ := s
        have e1 : s1 = 2 := Nat.eq_of_beq_eq_true hb.1
        have e2 : s2 = ci := Nat.eq_of_beq_eq_true hb.2
        subst e1; subst e2
        exact ⟨_, _, rfl, hs, h⟩
      · exact h.elim
    · exact h.elim
theorem pm_ix_F {i : Int32} {n : Nat} {f : Nat → Prop} (h : pm_ix False i n f) : vp_in i n ∧ f i.toNatClampNeg := by
  unfold pm_ix at h; split at h
  · exact h.elim
  · next hn => exact ⟨hn, h⟩
theorem pm_o_F {α : Type} {o : Option α} {f : α → Prop} (h : pm_o False o f) : ∃ a, o = some a ∧ f a := by
  unfold pm_o at h; split at h
  · exact ⟨_, rfl, h⟩
  · exact h.elim
theorem pm_b_F {b : Bool} {f : Prop} (h : pm_b False b f) : b = true ∧ f := by
  unfold pm_b at h; split at h
  · exact ⟨rfl, h⟩
  · exact h.elim
theorem pm_gf_F {o : Option (Option (Option Nat))} {fi : Prop} {fr : Nat → Prop} (h : pm_gf False o fi fr) : (o = some none ∧ fi) ∨ ∃ b, o = some (some (some b)) ∧ fr b := by
  unfold pm_gf at h; split at h
  · exact Or.inl ⟨rfl, h⟩
  · exact Or.inr ⟨_, rfl, h⟩
  · exact h.elim
theorem pm_gr_F {o : Option (Option (Option Nat))} {fr : Prop} (h : pm_gr False o fr) : (∃ x, o = some (some x)) ∧ fr := by
  unfold pm_gr at h; split at h
  · exact ⟨⟨_, rfl⟩, h⟩
  · exact h.elim
theorem pm_rt_F {ret : Option FieldType} {x : Int32} {f : Prop} (h : pm_rt False ret x f) : (ret = some .int ∨ (ret = some .boolean ∧ (x = 0 ∨ x = 1))) ∧ f := by
  unfold pm_rt at h; split at h
  · exact ⟨Or.inl rfl, h⟩
  · split at h
    · next hx => exact ⟨Or.inr ⟨rfl, hx⟩, h⟩
    · exact h.elim
  · exact h.elim
theorem pm_at_F {a : ArrayType} {f : Nat → Prop} (h : pm_at False a f) : (a = .int ∧ f 0) ∨ (a = .boolean ∧ f 1) := by
  unfold pm_at at h; split at h
  · exact Or.inl ⟨rfl, h⟩
  · exact Or.inr ⟨rfl, h⟩
  · exact h.elim
theorem pm_lk_mem {α : Type} {i : Nat} : ∀ {l : List (Nat × α)} {a : α}, pm_lk i l = some a → (i, a) ∈ l
  | [], _, h => by cases h
  | (j, b) :: t, a, h => by
    unfold pm_lk at h; split at h
    · next hb =>
      have e : j = i := Nat.eq_of_beq_eq_true hb
      cases h; subst e
      exact List.mem_cons_self
    · exact List.mem_cons_of_mem _ (pm_lk_mem h)
theorem pm_cs_eq : ∀ (l : List Value), pm_cs l = (l.map fun v => v.category).sum
  | [] => rfl
  | v :: t => by rw [pm_cs, pm_cs_eq t, List.map_cons, List.sum_cons]
end PME
/-! the tie -/
def pm_ad (b base : Nat) : Nat → Nat
  | 0 => b
  | k + 1 => base + k
def pm_cv (ad : Nat → Nat) (v : Value) : Value := match v with
  | .ref a => .ref (ad a)
  | v => v
theorem pm_cv_cat (ad : Nat → Nat) (v : Value) : (pm_cv ad v).category = v.category := by cases v <;> rfl
theorem pm_cv_map (ad : Nat → Nat) (l : List Value) : ((l.map (pm_cv ad)).map fun v => v.category).sum = pm_cs l := by
  rw [pm_cs_eq, List.map_map]
  congr 1
  exact List.map_congr_left (fun v _ => pm_cv_cat ad v)
def pm_v1 (ad : Nat → Nat) (x : Int32) (o : Option (Option Nat)) : Value := match o with
  | none => .int x
  | some none => .null
  | some (some a) => .ref (ad a)
def pm_fv (ad : Nat → Nat) (f : Nat → Int32) (fl : List (Option (Option Nat))) : List Value := fl.mapIdx (fun j o => pm_v1 ad (f j) o)
def pm_e (cI cZ : ClassId) (ad : Nat → Nat) (h : pmH) (k : Nat) (s : pmS) : va_E := match s.1 with
  | 0 => .inl (cI, s.2.1, .inl (h k))
  | 1 => .inl (cZ, s.2.1, .inl (h k))
  | _ => .inr (s.2.1, pm_fv ad (h k) s.2.2)
def pm_ws (cI cZ : ClassId) (b base : Nat) (w : pmW) : va_W := w.1.mapIdx (fun k s => (base + k, pm_e cI cZ (pm_ad b base) w.2 k s))
def pm_ss : List pmS → Nat
  | [] => 0
  | s :: t => (if s.1 = 2 then s.2.2.length else s.2.1) + pm_ss t
def pm_has (ad : Nat → Nat) (ls : Array Slot) (L : pmL) : Prop := ls.size = L.length ∧ lv_wf ls ∧ ∀ (i : Nat) (v : Value), L[i]? = some (some v) → ls[i]? = some (.val (pm_cv ad v))
section PMT
variable {cI cZ : ClassId} {b base : Nat} {ad : Nat → Nat}
theorem pm_ws_get {w : pmW} {k : Nat} {s : pmS} (h : w.1[k]? = some s) : (pm_ws cI cZ b base w)[k]? = some (base + k, pm_e cI cZ (pm_ad b base) w.2 k s) := by
  unfold pm_ws; rw [List.getElem?_mapIdx, h]; rfl
theorem pm_ws_inv {w : pmW} {k : Nat} {q : Nat × va_E} (h : (pm_ws cI cZ b base w)[k]? = some q) : q.1 = base + k := by
  unfold pm_ws at h; rw [List.getElem?_mapIdx] at h
  cases hs : w.1[k]? with
  | none => rw [hs] at h; cases h
  | some s => rw [hs] at h; cases h; rfl
theorem pm_ws_len {w : pmW} : (pm_ws cI cZ b base w).length = w.1.length := by unfold pm_ws; rw [List.length_mapIdx]
theorem pm_D (w : pmW) : va_D (fun q => base ≤ q) (pm_ws cI cZ b base w) := by
  refine ⟨fun i j p q hp hq e => ?_, fun k q hq => ?_⟩
  · rw [pm_ws_inv hp, pm_ws_inv hq] at e
    omega
  · rw [pm_ws_inv hq]
    exact Nat.le_add_right _ _
theorem pm_size {D : va_G} {cl : List vw_C} {w : pmW} {H : Heap} (hP : va_P D cl (pm_ws cI cZ b base w) H) (hb : base ≤ H.size) : base + w.1.length ≤ H.size := by
  cases hl : w.1.length with
  | zero => exact hb
  | succ n =>
    have hn : n < w.1.length := by omega
    have h1 := hP n _ (pm_ws_get (cI := cI) (cZ := cZ) (b := b) (base := base) (List.getElem?_eq_getElem hn))
    have h2 := h1.lt
    dsimp only at h2
    omega
/-- one cell has changed -/
theorem pm_ws_set {w w' : pmW} {k : Nat} {s' : pmS} (hl : w'.1.length = w.1.length) (hs : w'.1[k]? = some s') (ho : ∀ j, j ≠ k → w'.1[j]? = w.1[j]? ∧ w'.2 j = w.2 j) : (pm_ws cI cZ b base w).set k (base + k, pm_e cI cZ (pm_ad b base) w'.2 k s') = pm_ws cI cZ b base w' := by
  have hk : k < w.1.length := by rw [← hl]; exact (List.getElem?_eq_some_iff.mp hs).1
  apply List.ext_getElem?
  intro j
  by_cases hj : j = k
  · subst hj
    rw [List.getElem?_set_self (by rw [pm_ws_len]; exact hk), pm_ws_get hs]
  · rw [List.getElem?_set_ne (Ne.symm hj)]
    obtain ⟨h1, h2⟩ := ho j hj
    unfold pm_ws
    rw [List.getElem?_mapIdx, List.getElem?_mapIdx, h1]
    cases w.1[j]? with
    | none => rfl
    | some s => simp only [Option.map_some, pm_e, h2]
theorem pm_ws_app {sh : List pmS} {h h' : pmH} {s : pmS} (ho : ∀ j, j < sh.length → h' j = h j) : pm_ws cI cZ b base (sh ++ [s], h') = pm_ws cI cZ b base (sh, h) ++ [(base + sh.length, pm_e cI cZ (pm_ad b base) h' sh.length s)] := by
  apply List.ext_getElem?
  intro j
  unfold pm_ws
  rw [List.getElem?_mapIdx]
  rcases Nat.lt_trichotomy j sh.length with hj | hj | hj
  · rw [List.getElem?_append_left hj, List.getElem?_append_left (by rw [List.length_mapIdx]; exact hj), List.getElem?_mapIdx]
    dsimp only
    rw [List.getElem?_eq_getElem hj]
    simp only [Option.map_some, pm_e, ho j hj]
  · subst hj
    rw [List.getElem?_append_right (Nat.le_refl _), List.getElem?_append_right (by rw [List.length_mapIdx]; exact Nat.le_refl _)]
    simp
  · rw [List.getElem?_append_right (by omega), List.getElem?_append_right (by rw [List.length_mapIdx]; dsimp only; omega)]
    have e : j - sh.length = (j - sh.length - 1) + 1 := by omega
    rw [List.length_mapIdx]
    dsimp only
    rw [e]
    rfl
theorem pm_ss_app (a c : List pmS) : pm_ss (a ++ c) = pm_ss a + pm_ss c := by
  induction a with
  | nil => simp [pm_ss]
  | cons s t ih => rw [List.cons_append, pm_ss, pm_ss, ih]; omega
theorem pm_ss_set : ∀ (sh : List pmS) (k : Nat) (c : Nat) (fl fl' : List (Option (Option Nat))), sh[k]? = some (2, c, fl) → fl'.length = fl.length → pm_ss (sh.set k (2, c, fl')) = pm_ss sh
  | [], _, _, _, _, h, _ => by cases h
  | s :: t, 0, c, fl, fl', h, hl => by
    cases h
    rw [List.set_cons_zero, pm_ss, pm_ss]
    simp [hl]
  | s :: t, k + 1, c, fl, fl', h, hl => by
    rw [List.set_cons_succ, pm_ss, pm_ss, pm_ss_set t k c fl fl' h hl]
/-! the locals -/
def pm_al (ad : Nat → Nat) (L : pmL) : List (Nat × Value) := (List.range L.length).filterMap (fun i => match L[i]? with
  | some (some v) => some (i, pm_cv ad v)
  | _ => none)
theorem pm_al_mem {L : pmL} {q : Nat × Value} : q ∈ pm_al ad L ↔ ∃ v, L[q.1]? = some (some v) ∧ q.2 = pm_cv ad v := by
  unfold pm_al
  rw [List.mem_filterMap]
  constructor
  · rintro ⟨i, -, h⟩
    split at h
    · next v hv => cases h; exact ⟨v, hv, rfl⟩
    · cases h
  · rintro ⟨v, hv, he⟩
    refine ⟨q.1, List.mem_range.mpr (List.getElem?_eq_some_iff.mp hv).1, ?_⟩
    rw [hv]
    simp only [Option.some.injEq]
    exact Prod.ext rfl he.symm
theorem pm_has.lv {ls : Array Slot} {L : pmL} (h : pm_has ad ls L) : lv_has ls L.length (pm_al ad L) := by
  refine ⟨h.1, h.2.1, fun q hq => ?_⟩
  obtain ⟨v, hv, he⟩ := pm_al_mem.mp hq
  rw [he]
  exact h.2.2 q.1 v hv
theorem pm_k2_len (L : pmL) (i : Nat) : (pm_k2 L i).length = L.length := by
  cases i with
  | zero => rfl
  | succ i =>
    unfold pm_k2
    dsimp only
    split
    · split
      · exact List.length_set
      · rfl
    · rfl
theorem pm_k2_get {L : pmL} {i j : Nat} {u : Value} (h : (pm_k2 L i)[j]? = some (some u)) : L[j]? = some (some u) ∧ ¬ (j + 1 = i ∧ u.category = 2) := by
  cases i with
  | zero => exact ⟨h, fun q => by omega⟩
  | succ i =>
    unfold pm_k2 at h
    dsimp only at h
    split at h
    · next v hv =>
      split at h
      · next hb =>
        by_cases hj : j = i
        · subst hj
          rw [List.getElem?_set_self (List.getElem?_eq_some_iff.mp hv).1] at h
          cases h
        · rw [List.getElem?_set_ne (Ne.symm hj)] at h
          exact ⟨h, fun q => hj (by omega)⟩
      · next hb =>
        refine ⟨h, fun q => ?_⟩
        have hj : j = i := by omega
        subst hj
        rw [hv] at h
        cases h
        rw [q.2] at hb
        cases hb
    · next hn =>
      refine ⟨h, fun q => ?_⟩
      have hj : j = i := by omega
      subst hj
      exact hn u h
theorem pm_has.s1 {ls' : Array Slot} {L : pmL} {i : Nat} {v : Value} (hi : i < L.length) (h : lv_has ls' L.length ((i, pm_cv ad v) :: (pm_al ad L).filter (fun q => !(q.1 == i) && !(q.1 + 1 == i && q.2.category == 2)))) : pm_has ad ls' ((pm_k2 L i).set i (some v)) := by
  refine ⟨by rw [List.length_set, pm_k2_len]; exact h.1, h.2.1, fun j u hu => ?_⟩
  by_cases hj : j = i
  · subst hj
    rw [List.getElem?_set_self (by rw [pm_k2_len]; exact hi)] at hu
    cases hu
    exact h.2.2 (j, pm_cv ad v) List.mem_cons_self
  · rw [List.getElem?_set_ne (Ne.symm hj)] at hu
    obtain ⟨h1, h2⟩ := pm_k2_get hu
    refine h.2.2 (j, pm_cv ad u) (List.mem_cons_of_mem _ (List.mem_filter.mpr ⟨pm_al_mem.mpr ⟨u, h1, rfl⟩, ?_⟩))
    simp only [Bool.and_eq_true, Bool.not_eq_true', beq_eq_false_iff_ne, ne_eq, Bool.and_eq_false_iff, pm_cv_cat]
    refine ⟨hj, ?_⟩
    by_cases h3 : j + 1 = i
    · exact Or.inr (fun h4 => h2 ⟨h3, h4⟩)
    · exact Or.inl h3
theorem pm_has.s2 {ls' : Array Slot} {L : pmL} {i : Nat} {v : Value} (hi : i + 1 < L.length) (h : lv_has ls' L.length ((i, pm_cv ad v) :: (pm_al ad L).filter (fun q => !(q.1 == i) && (!(q.1 == i + 1) && !(q.1 + 1 == i && q.2.category == 2))))) : pm_has ad ls' (((pm_k2 L i).set (i + 1) none).set i (some v)) := by
  refine ⟨by rw [List.length_set, List.length_set, pm_k2_len]; exact h.1, h.2.1, fun j u hu => ?_⟩
  by_cases hj : j = i
  · subst hj
    rw [List.getElem?_set_self (by rw [List.length_set, pm_k2_len]; omega)] at hu
    cases hu
    exact h.2.2 (j, pm_cv ad v) List.mem_cons_self
  · rw [List.getElem?_set_ne (Ne.symm hj)] at hu
    by_cases hj2 : j = i + 1
    · subst hj2
      rw [List.getElem?_set_self (by rw [pm_k2_len]; exact hi)] at hu
      cases hu
    · rw [List.getElem?_set_ne (Ne.symm hj2)] at hu
      obtain ⟨h1, h2⟩ := pm_k2_get hu
      refine h.2.2 (j, pm_cv ad u) (List.mem_cons_of_mem _ (List.mem_filter.mpr ⟨pm_al_mem.mpr ⟨u, h1, rfl⟩, ?_⟩))
      simp only [Bool.and_eq_true, Bool.not_eq_true', beq_eq_false_iff_ne, ne_eq, Bool.and_eq_false_iff, pm_cv_cat]
      refine ⟨hj, hj2, ?_⟩
      by_cases h3 : j + 1 = i
      · exact Or.inr (fun h4 => h2 ⟨h3, h4⟩)
      · exact Or.inl h3
end PMT
