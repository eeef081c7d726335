/-! ===== where the two constructors put what they make, counted from the first ===== -/
def nthN : List Nat → Nat → Nat
  | [], _ => 99
  | x :: _, 0 => x
  | _ :: t, n + 1 => nthN t n
def SKc (a : Nat) : Nat := cond (Nat.blt a 11) (nthN [5, 13, 10, 15, 16, 17, 10, 10, 10, 10, 10] a) (cond (Nat.blt a 47) (nthN [0, 14, 10, 3, 3, 3, 3, 3, 3] ((a - 11) % 9)) (cond (Nat.blt a 107) 1 (cond (Nat.blt a 167) 4 (cond (Nat.blt a 227) 2 (cond (Nat.blt a 228) 10 (cond (Nat.beq a 1000) 18 99))))))
def SKn (a : Nat) : Nat := cond (Nat.blt a 11) (nthN [15, 4, 10, 60, 60, 60, 60, 60, 60, 60, 20] a) (cond (Nat.blt a 47) (nthN [6, 6, 7, 3, 3, 3, 3, 3, 3] ((a - 11) % 9)) (cond (Nat.blt a 107) 14 (cond (Nat.blt a 167) 13 (cond (Nat.blt a 227) 9 (cond (Nat.blt a 228) 18 0)))))
def SKr (a k : Nat) : Nat := cond (Nat.beq a 0) (k + 1) (cond (Nat.beq a 1) (11 + 9 * k) (cond (Nat.beq a 3) (47 + k) (cond (Nat.beq a 4) (107 + k) (cond (Nat.beq a 5) (167 + k) (cond (Nat.beq ((a - 11) % 9) 0) (a + 1 + k) (a + 2 + k))))))
def CSL : List (List Nat) := [[5], [6], [0], [3], [1], [4], [2], [1, 2, 4]]
def CS (n : Nat) : List Nat := nthS CSL n
def okc (a n : Nat) : Bool := memb (SKc a) (CS n)
def F_mmax : Fn := fun as h => match as with
  | [.int x, .int y] => rtn (some (.int (if x < y then y else x))) h
  | _ => none
def F_mmin : Fn := fun as h => match as with
  | [.int x, .int y] => rtn (some (.int (if y < x then y else x))) h
  | _ => none
def F_mabs : Fn := fun as h => match as with
  | [.int x] => rtn (some (.int (if 0 ≤ x then x else 0 - x))) h
  | _ => none
