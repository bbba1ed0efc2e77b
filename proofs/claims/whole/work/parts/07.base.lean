/-! plain facts on the mirrors' words -/
theorem bd_s {α β : Type} (a : α) (M : Mm) (f : α → Mm → Option β) : bd (some (a, M)) f = f a M := rfl
theorem gd_t {β : Type} (e : Option β) : gd true e = e := rfl
theorem fa_lit (n : Nat) : (OfNat.ofNat n : Int32) = nI n := rfl
theorem inr_n {i n : Nat} (h : i < n) (hn : n < 2 ^ 31) : inr (nI i) n = true := by
  have h1 : ¬ nI i < 0 := nI_pos (by omega)
  have h2 : (nI i).toNatClampNeg = i := nI_clamp (by omega)
  simp only [inr, Bool.not_eq_true', Bool.or_eq_false_iff, decide_eq_false_iff_not, h2]
  exact ⟨h1, by omega⟩
theorem FU_is : FU = 999000 + 1000 := rfl
theorem nI_m1 {a : Nat} (ha : a < 2 ^ 31) : ¬ nI a = (-1 : Int32) := by
  intro h
  have h1 := congrArg Int32.toInt h
  rw [nI_toInt ha] at h1
  have : ((-1 : Int32).toInt) = -1 := by decide
  omega
/-- a number below a bound, or none below it -/
theorem ix_cases (x : Int32) (n : Nat) (hn : n < 2 ^ 31) : (x < 0 ∨ nI n ≤ x) ∨ ∃ i, i < n ∧ x = nI i := by
  rcases pk_ix x hn with h | h | ⟨j, h, e⟩
  · exact Or.inl (Or.inl h)
  · exact Or.inl (Or.inr h)
  · exact Or.inr ⟨j, h, e⟩
def b2i (b : Bool) : Int32 := if b then 1 else 0
theorem b2i_0 (b : Bool) : (b2i b = 0) ↔ b = false := by cases b <;> decide
theorem b2i_t : b2i true = 1 := rfl
theorem b2i_f : b2i false = 0 := rfl
theorem z01_b (b : Bool) : z01 (b2i b) = true := by cases b <;> decide
/-! the memory -/
theorem up_s {M : Mm} {k j : Nat} {x : Int32} : up M k j x k j = x := by simp [up]
theorem up_j {M : Mm} {k j b : Nat} {x : Int32} (h : b ≠ j) : up M k j x k b = M k b := by simp [up, h]
theorem up_k {M : Mm} {k j a b : Nat} {x : Int32} (h : a ≠ k) : up M k j x a b = M a b := by simp [up, h]
/-! the abstract village: row 0: day 1, slip 2, rule 3, people 4, letters 5, keeping 6; rows 1 to 3 kind, number, house; rows 4 to 8 from, to, at, tone, read -/
abbrev Vs : Type := Nat → Nat → Int32
def vP (s : Vs) : Nat := (s 0 4).toNatClampNeg
def vL (s : Vs) : Nat := (s 0 5).toNatClampNeg
/-- nothing is kept of what is none such -/
def nrm (s : Vs) : Vs := fun i j => if i = 0 then (if 1 ≤ j ∧ j ≤ 6 then s 0 j else 0) else if i ≤ 3 then (if j < vP s then s i j else 0) else if i ≤ 8 then (if j < vL s then s i j else 0) else 0
/-- the class's village at v; the reference's -/
def vx (M : Mm) (v : Nat) : Vs := fun i j => M (v + i) j
def vm (M : Mm) : Vs := fun i j => match i with
  | 0 => (match j with
    | 1 => M 0 7 | 2 => M 0 8 | 3 => M 0 4 | 4 => M 0 10 | 5 => M 0 12 | 6 => M 0 13 | _ => 0)
  | 1 => M 4 (3 * j + 1) | 2 => M 4 (3 * j) | 3 => M 4 (3 * j + 2)
  | 4 => M 5 (5 * j + 1) | 5 => M 5 (5 * j + 2) | 6 => M 5 (5 * j + 3) | 7 => M 5 (5 * j) | 8 => M 5 (5 * j + 4)
  | _ => 0
def nx (M : Mm) (v : Nat) : Vs := nrm (vx M v)
def nm (M : Mm) : Vs := nrm (vm M)
theorem nrm_0 {s : Vs} {j : Nat} (h : 1 ≤ j ∧ j ≤ 6) : nrm s 0 j = s 0 j := by simp [nrm, h]
theorem nrm_P (s : Vs) : vP (nrm s) = vP s := by simp [vP, nrm]
theorem nrm_L (s : Vs) : vL (nrm s) = vL s := by simp [vL, nrm]
theorem nrm_p {s : Vs} {i j : Nat} (h1 : 1 ≤ i) (h3 : i ≤ 3) (h : j < vP s) : nrm s i j = s i j := by
  simp [nrm, show i ≠ 0 by omega, h3, h]
theorem nrm_l {s : Vs} {i j : Nat} (h1 : 4 ≤ i) (h3 : i ≤ 8) (h : j < vL s) : nrm s i j = s i j := by
  simp [nrm, show i ≠ 0 by omega, show ¬ i ≤ 3 by omega, h3, h]
/-- a change inside -/
theorem nrm_up {s : Vs} {i j : Nat} {x : Int32} (h : (i = 0 ∧ 1 ≤ j ∧ j ≤ 6 ∧ j ≠ 4 ∧ j ≠ 5) ∨ (1 ≤ i ∧ i ≤ 3 ∧ j < vP s) ∨ (4 ≤ i ∧ i ≤ 8 ∧ j < vL s)) : nrm (up s i j x) = up (nrm s) i j x := by
  have e4 : up s i j x 0 4 = s 0 4 := by
    unfold up
    split
    · split
      · omega
      · rfl
    · rfl
  have e5 : up s i j x 0 5 = s 0 5 := by
    unfold up
    split
    · split
      · omega
      · rfl
    · rfl
  have eP : vP (up s i j x) = vP s := by unfold vP; rw [e4]
  have eL : vL (up s i j x) = vL s := by unfold vL; rw [e5]
  funext a b
  unfold nrm
  rw [eP, eL]
  unfold up
  by_cases ha : a = i
  · subst ha
    by_cases hb : b = j
    · subst hb
      rcases h with h | h | h
      · simp [h]
      · simp [show a ≠ 0 by omega, h]
      · simp [show a ≠ 0 by omega, show ¬ a ≤ 3 by omega, h]
    · simp only [if_pos, hb, if_false]
      split
      · rename_i h0; subst h0; simp [hb]
      · simp
  · simp only [if_neg ha]
    split
    · rename_i h0; subst h0; simp [ha]
    · rfl
