/-! ways to live: places in the row of the houses that are lived in -/
def vcF (P w : Nat) : Nat → Nat := fun p => w / P ^ (P - 1 - p) % P
def vdF (P w : Nat) : Bool := decide (∀ p, p < P → ∀ q, q < P → vcF P w p = vcF P w q → p = q)
/-- the next way that is one; how many are left -/
def nvF (P : Nat) : Nat → Nat → Nat
  | 0, w => w
  | k + 1, w => if vdF P w = true then w else nvF P k (w + 1)
def cvF (P : Nat) : Nat → Nat → Nat
  | 0, _ => 0
  | k + 1, w => if vdF P w = true then cvF P k (w + 1) + 1 else cvF P k (w + 1)
/-- the class's next way -/
def lowF (g : Nat → Nat) : Nat → Nat
  | 0 => 0
  | k + 1 => if g k < g (k + 1) then k + 1 else lowF g k
def highF (g : Nat → Nat) (l : Nat) : Nat → Nat
  | 0 => 0
  | h + 1 => if h + 1 ≤ l then h + 1 else if g l < g (h + 1) then h + 1 else highF g l h
def exF (g : Nat → Nat) (i k : Nat) : Nat → Nat := fun j => if j = k then g i else if j = i then g k else g j
def revF : Nat → Nat → Nat → (Nat → Nat) → Nat → Nat
  | 0, _, _, g => g
  | f + 1, i, k, g => if k ≤ i then g else revF f (i + 1) (k - 1) (exF g i k)
def nxF (P : Nat) (g : Nat → Nat) : Option (Nat → Nat) := if lowF g (P - 1) = 0 then none else some (revF 5 (lowF g (P - 1)) (P - 1) (exF g (lowF g (P - 1) - 1) (highF g (lowF g (P - 1) - 1) (P - 1))))
def okF (P w : Nat) : Bool := if vdF P w = true then (match nxF P (vcF P w) with
  | none => decide (nvF P (P ^ P - (w + 1)) (w + 1) = P ^ P)
  | some g => decide (nvF P (P ^ P - (w + 1)) (w + 1) < P ^ P) && decide (∀ i, i < P → g i = vcF P (nvF P (P ^ P - (w + 1)) (w + 1)) i)) else true
theorem ok_4 : ∀ P, P < 5 → 0 < P → ∀ w, w < P ^ P → okF P w = true := by decide +kernel
theorem ok_5 : ∀ a, a < 25 → ∀ b, b < 25 → ∀ c, c < 5 → okF 5 (125 * a + 5 * b + c) = true := by decide +kernel
theorem st_all : ∀ P, P < 6 → cvF P (P ^ P) 0 ≤ 120 ∧ nvF P (P ^ P) 0 < P ^ P ∧ ∀ i, i < P → vcF P (nvF P (P ^ P) 0) i = i := by decide +kernel

