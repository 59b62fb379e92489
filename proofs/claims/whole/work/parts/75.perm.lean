/-! orders as numbers -/
def dgm (n c m : Nat) : Nat := (c / n ^ m) % n
def usd (n c : Nat) : Nat → Nat
  | 0 => 0
  | m + 1 => usd n c m ||| 2 ^ dgm n c m
def isP (n c : Nat) : Bool := usd n c n == 2 ^ n - 1
def rowOf (n c : Nat) : List Nat := (List.range n).map (fun k => dgm n c (n - 1 - k))
def rowsTo (n c : Nat) : List (List Nat) := ((List.range c).filter (isP n)).map (rowOf n)
def plF (f : Nat → Nat) : Nat → Option Nat
  | 0 => none
  | m + 1 => if f m ≤ f (m + 1) then some m else plF f m
def otF (f : Nat → Nat) (p : Nat) : Nat → Nat
  | 0 => 0
  | o + 1 => if o + 1 ≤ p then o + 1 else if f p ≤ f (o + 1) then o + 1 else otF f p o
def swp (f : Nat → Nat) (a b : Nat) : Nat → Nat := fun k => if k = b then f a else if k = a then f b else f k
def rvF : Nat → (Nat → Nat) → Nat → Nat → Nat → Nat
  | 0, f, _, _ => f
  | u + 1, f, lo, hi => if hi ≤ lo then f else rvF u (swp f lo hi) (lo + 1) (hi - 1)
def fl (l : List Nat) : Nat → Nat := fun k => l.getD k 0
def tab (n : Nat) (f : Nat → Nat) : List Nat := (List.range n).map f
def nxtF (n : Nat) (f : Nat → Nat) (p : Nat) : Nat → Nat := rvF n (swp f p (otF f p (n - 1))) (p + 1) (n - 1)
def chainOk (n : Nat) : List (List Nat) → Bool
  | [] => false
  | [r] => decide (r.length = n) && (r.all (fun w => decide (w < n))) && (plF (fl r) (n - 1)).isNone
  | r :: r' :: t => decide (r.length = n) && (r.all (fun w => decide (w < n))) && (match plF (fl r) (n - 1) with
      | none => false
      | some p => decide (p < n) && (tab n (nxtF n (fl r) p) == r') && (r.take p == r'.take p)) && chainOk n (r' :: t)
theorem chain_all : ∀ n, n < 6 → chainOk n (rowsTo n (n ^ n)) = true ∧ (rowsTo n (n ^ n)).head? = some (tab n (fun k => k)) ∧ (rowsTo n (n ^ n)).length ≤ 120 := by decide +kernel
