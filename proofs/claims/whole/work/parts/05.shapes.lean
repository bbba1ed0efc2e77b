def TexAt (sh : List Sh) : Prop := sh[1]? = some (.inr (2, [0, 0, 0, 0, 0, 0, 0, 4, 5, 0, 6])) ∧ sh[2]? = some (.inl (0, 960)) ∧ sh[3]? = some (.inl (0, 19)) ∧ sh[4]? = some (.inl (0, 64))
def TapAt (sh : List Sh) : Prop := sh[5]? = some (.inr (1, [0, 3, 8, 0, 0, 0, 0, 0])) ∧ sh[6]? = some (.inl (0, 160))
def VilAt (sh : List Sh) (v : Nat) : Prop := sh[v]? = some (.inr (3, [3, 0, 0, 0, 0, 0, 0, v + 1 + 2, v + 2 + 2, v + 3 + 2, v + 4 + 2, v + 5 + 2, v + 6 + 2, v + 7 + 2, v + 8 + 2])) ∧ sh[v + 1]? = some (.inl (0, 5)) ∧ sh[v + 2]? = some (.inl (0, 5)) ∧ sh[v + 3]? = some (.inl (0, 5)) ∧ sh[v + 4]? = some (.inl (0, 8)) ∧ sh[v + 5]? = some (.inl (0, 8)) ∧ sh[v + 6]? = some (.inl (0, 8)) ∧ sh[v + 7]? = some (.inl (0, 8)) ∧ sh[v + 8]? = some (.inl (0, 8))
def SheAt (sh : List Sh) (v : Nat) : Prop := sh[v]? = some (.inr (0, [0, 0, v + 1 + 2])) ∧ sh[v + 1]? = some (.inl (0, 40))
def TopAt (sh : List Sh) : Prop := sh[0]? = some (.inr (4, [3, 7, 9, 18, 27, 0, 37, 36])) ∧ TexAt sh ∧ TapAt sh ∧ VilAt sh 7 ∧ VilAt sh 16 ∧ VilAt sh 25 ∧ sh[34]? = some (.inl (0, 5)) ∧ sh[35]? = some (.inl (38, 4)) ∧ SheAt sh 36 ∧ SheAt sh 38 ∧ SheAt sh 40 ∧ SheAt sh 42
def ModAt (sh : List Sh) : Prop := sh[0]? = some (.inr (5, [0, 3, 4, 0, 0, 5, 0, 0, 0, 6, 0, 7, 0, 0, 0, 0, 0, 0, 0, 0, 0, 0, 0, 0, 0, 1, 0, 0, 0, 8, 9, 10, 11, 12, 13, 0, 0, 0, 0, 0, 14, 15, 16, 17])) ∧ sh[1]? = some (.inl (0, 960)) ∧ sh[2]? = some (.inl (0, 6)) ∧ sh[3]? = some (.inl (0, 160)) ∧ sh[4]? = some (.inl (0, 15)) ∧ sh[5]? = some (.inl (0, 40)) ∧ sh[6]? = some (.inl (0, 42)) ∧ sh[7]? = some (.inl (0, 5)) ∧ sh[8]? = some (.inl (0, 5)) ∧ sh[9]? = some (.inl (0, 15)) ∧ sh[10]? = some (.inl (0, 15)) ∧ sh[11]? = some (.inl (0, 40)) ∧ sh[12]? = some (.inl (1, 4)) ∧ sh[13]? = some (.inl (0, 4)) ∧ sh[14]? = some (.inl (0, 4)) ∧ sh[15]? = some (.inl (0, 160))
def isShe (a : Nat) : Bool := a == 36 || a == 38 || a == 40 || a == 42
theorem she_of {sh : List Sh} {a : Nat} (hs : TopAt sh) (h : isShe a = true) : SheAt sh a := by
  obtain ⟨-, -, -, -, -, -, -, -, h1, h2, h3, h4⟩ := hs
  simp only [isShe, Bool.or_eq_true, beq_iff_eq] at h
  rcases h with ((rfl | rfl) | rfl) | rfl
  · exact h1
  · exact h2
  · exact h3
  · exact h4
theorem CT.none {α : Type} {y : MethodName} {cc : ByteArray} {maxL : Nat} {ret : Option FieldType} {rm : Room} {G : Gx} {sh : List Sh} {argv : List Value} {rv : α → Option Value} {M : Mm} : CT y cc maxL ret rm G sh argv rv M (Option.none : Option (α × Mm)) := fun _ _ _ _ he => by cases he
def isStr (a : Nat) : Bool := decide (1000 ≤ a) && decide (a < 1013)
theorem st_of {a : Nat} (h : isStr a = true) : StOk a := by
  simp only [isStr, Bool.and_eq_true, decide_eq_true_eq] at h
  exact h
theorem st_i (i : Nat) (h : i < 13) : StOk (1000 + i) := ⟨by omega, by omega⟩
