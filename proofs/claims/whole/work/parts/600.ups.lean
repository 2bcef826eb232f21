/-! PURE 16a: steps up out of a set: two lists of the same sets -/
/-- what comes of a by one step up -/
def ups (n a : Nat) : List Nat := (List.range n).flatMap fun i => (List.range n).flatMap fun j => if (decide (i < j) && (a.testBit i && !a.testBit j)) = true then [dif a (2 ^ i) ||| 2 ^ j] else []
def mor (n a : Nat) : List Nat := (List.range (2 ^ n)).filter fun b => decide (a < b) && (pc (a ^^^ b) == 2 && pc b == pc a)
set_option maxRecDepth 100000 in
theorem ups_mor : ∀ n, n < 9 → ∀ a, a < 2 ^ n → (ups n a).isPerm (mor n a) = true := by decide +kernel
