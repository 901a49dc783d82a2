/-! what the sets are: a row b of bits, told from t on by p -/
def fold (t p n : Nat) : Nat := if n < t + p then n else t + (n - t) % p
theorem fold_lt {t p n : Nat} (hp : 0 < p) : fold t p n < t + p := by
  unfold fold
  split
  · assumption
  · have := Nat.mod_lt (n - t) hp; omega
theorem fold_in {t p n : Nat} (h : n < t + p) : fold t p n = n := by simp [fold, h]
def den (t p : Nat) (b : Nat → Bool) : Nat → Bool := fun n => b (fold t p n)
def i32in (x lo hi : Int32) : Bool := decide (lo ≤ x) && decide (x ≤ hi)
def jw (way : Nat) (a b : Bool) : Bool := if way = 0 then a || b else if way = 1 then a && b else if way = 2 then a && !b else a != b
