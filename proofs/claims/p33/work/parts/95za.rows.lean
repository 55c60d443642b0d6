/-! PURE: the rows tried for the parents' way, on both sides the same list -/
def e_tie (r : List Nat) (a w : Nat) : List Nat := (r.set a w).set w a
def e_acc (n0 n1 : Nat) : Nat → Nat → List Nat → Option (List Nat)
  | 0, _, r => some r
  | l + 1, c, r => if c % 5 = 0 then e_acc n0 n1 l (c / 5) r else if l < n0 ∧ c % 5 - 1 < n1 ∧ r.getD (3 + c % 5) 9 = 8 then e_acc n0 n1 l (c / 5) (e_tie r l (3 + c % 5)) else none
def e_none : List Nat := [8, 8, 8, 8, 8, 8, 8, 8]
def e_cl (n0 n1 : Nat) : List (List Nat) := (List.range 625).filterMap (fun c => e_acc n0 n1 4 c e_none)
def e_lv (n1 : Nat) : Nat → Nat → List Nat → List (List Nat)
  | 0, _, r => [r]
  | f + 1, a, r => e_lv n1 f (a + 1) r ++ (List.range n1).flatMap (fun k => if r.getD (4 + k) 9 = 8 then e_lv n1 f (a + 1) (e_tie r a (4 + k)) else [])
theorem e_same1 : ∀ n1 ∈ [1, 2, 3, 4], e_cl 1 n1 = e_lv n1 1 0 e_none := by decide +kernel
theorem e_same2 : ∀ n1 ∈ [1, 2, 3, 4], e_cl 2 n1 = e_lv n1 2 0 e_none := by decide +kernel
theorem e_same3 : ∀ n1 ∈ [1, 2, 3, 4], e_cl 3 n1 = e_lv n1 3 0 e_none := by decide +kernel
theorem e_same4 : ∀ n1 ∈ [1, 2, 3, 4], e_cl 4 n1 = e_lv n1 4 0 e_none := by decide +kernel
