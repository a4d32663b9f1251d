/-! all orders, one by one -/
def lpS (F : Nat → List (List Nat)) : Nat → Nat → List (List Nat)
  | 0, _ => []
  | k + 1, s => F s ++ lpS F k (s + 1)
def dfL (n : Nat) : Nat → Nat → List (List Nat)
  | 0, _ => [[]]
  | r + 1, U => lpS (fun s => if U.testBit s = true then [] else (dfL n r (U ||| 2 ^ s)).map (fun l => s :: l)) n 0
/-- the place that is still free, of number m -/
def lyF (U : Nat) : Nat → Nat → Nat → Option Nat
  | 0, _, _ => none
  | f + 1, m, s => if U.testBit s = true then lyF U f m (s + 1) else if m = 0 then some s else lyF U f (m - 1) (s + 1)
def lyG (n : Nat) : Nat → Nat → Nat → Nat → Nat → Option (List Nat)
  | 0, _, _, _, _ => some []
  | r + 1, k, left, parts, U => if parts / (n - k) = 0 then none else (match lyF U 8 (left / (parts / (n - k))) 0 with
    | none => none
    | some s => (match lyG n r (k + 1) (left % (parts / (n - k))) (parts / (n - k)) (U ||| 2 ^ s) with
      | none => none
      | some l => some (s :: l)))
def fct : Nat → Nat
  | 0 => 1
  | k + 1 => fct k * (k + 1)
def lyAll (n : Nat) : Nat → Nat → List (Option (List Nat))
  | 0, _ => []
  | k + 1, c => lyG n n 0 c (fct n) 0 :: lyAll n k (c + 1)
def nodupB : List Nat → Bool
  | [] => true
  | s :: l => (!l.contains s) && nodupB l
def isPm (n : Nat) (l : List Nat) : Bool := Nat.beq l.length n && (l.all (fun s => Nat.blt s n) && nodupB l)
theorem ly_0 : lyAll 0 (fct 0) 0 = (dfL 0 0 0).map some := by decide +kernel
theorem ly_1 : lyAll 1 (fct 1) 0 = (dfL 1 1 0).map some := by decide +kernel
theorem ly_2 : lyAll 2 (fct 2) 0 = (dfL 2 2 0).map some := by decide +kernel
theorem ly_3 : lyAll 3 (fct 3) 0 = (dfL 3 3 0).map some := by decide +kernel
theorem ly_4 : lyAll 4 (fct 4) 0 = (dfL 4 4 0).map some := by decide +kernel
theorem ly_5 : lyAll 5 (fct 5) 0 = (dfL 5 5 0).map some := by decide +kernel
theorem ly_6 : lyAll 6 (fct 6) 0 = (dfL 6 6 0).map some := by decide +kernel
theorem ly_all {n : Nat} (hn : n ≤ 6) : lyAll n (fct n) 0 = (dfL n n 0).map some := by
  rcases (show n = 0 ∨ n = 1 ∨ n = 2 ∨ n = 3 ∨ n = 4 ∨ n = 5 ∨ n = 6 by omega) with rfl | rfl | rfl | rfl | rfl | rfl | rfl
  · exact ly_0
  · exact ly_1
  · exact ly_2
  · exact ly_3
  · exact ly_4
  · exact ly_5
  · exact ly_6
theorem po_all : ∀ n, n < 7 → (dfL n n 0).all (isPm n) = true := by decide +kernel
theorem po_hd : ∀ n, n < 7 → (dfL n n 0).head? = some (List.range n) := by decide +kernel
theorem po_len : ∀ n, n < 7 → (dfL n n 0).length = fct n := by decide +kernel
theorem fct_b : ∀ n, n < 7 → fct n ≤ 720 := by decide +kernel
