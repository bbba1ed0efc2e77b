/-! the class's village, read -/
def CV (M : Mm) (v P L : Nat) : Prop := M v 4 = nI P ∧ P ≤ 5 ∧ M v 5 = nI L ∧ L ≤ 8
theorem CV.P {M : Mm} {v P L : Nat} (h : CV M v P L) : vP (nx M v) = P := by
  have h1 : vx M v 0 4 = nI P := h.1
  rw [nx, nrm_P, vP, h1, nI_clamp (by have := h.2.1; omega)]
theorem CV.L {M : Mm} {v P L : Nat} (h : CV M v P L) : vL (nx M v) = L := by
  have h1 : vx M v 0 5 = nI L := h.2.2.1
  rw [nx, nrm_L, vL, h1, nI_clamp (by have := h.2.2.2; omega)]
theorem CV.r {M : Mm} {v P L i p : Nat} (h : CV M v P L) (h1 : 1 ≤ i) (h3 : i ≤ 3) (hp : p < P) : nx M v i p = M (v + i) p := by
  have e := h.P
  rw [nx, nrm_P] at e
  rw [nx, nrm_p h1 h3 (by omega)]
  rfl
theorem CV.q {M : Mm} {v P L i l : Nat} (h : CV M v P L) (h1 : 4 ≤ i) (h3 : i ≤ 8) (hl : l < L) : nx M v i l = M (v + i) l := by
  have e := h.L
  rw [nx, nrm_L] at e
  rw [nx, nrm_l h1 h3 (by omega)]
  rfl
theorem nx_0 {M : Mm} {v j : Nat} (h : 1 ≤ j ∧ j ≤ 6) : nx M v 0 j = M v j := by
  rw [nx, nrm_0 h]; rfl
theorem x3_one_in {M : Mm} {v P L i : Nat} (h : CV M v P L) (hi : i < P) : m_X3_isOne v (nI i) M = some (1, M) := by
  obtain ⟨h1, h2, -, -⟩ := h
  have e1 : ¬ nI i < 0 := nI_pos (by omega)
  have e2 : ¬ nI P ≤ nI i := nI_ge hi (by omega)
  have e3 : ¬ (5 : Int32) ≤ nI i := nI_ge (b := 5) (by omega) (by omega)
  simp only [m_X3_isOne, h1, if_neg e1, if_neg e2, if_neg e3]
theorem x3_one_out {M : Mm} {v P L : Nat} {x : Int32} (h : CV M v P L) (hx : x < 0 ∨ nI P ≤ x) : m_X3_isOne v x M = some (0, M) := by
  obtain ⟨h1, h2, -, -⟩ := h
  unfold m_X3_isOne
  rw [h1]
  by_cases e : x < 0
  · rw [if_pos e]
  · rw [if_neg e, if_pos (hx.resolve_left e)]
theorem x3_let_in {M : Mm} {v P L i : Nat} (h : CV M v P L) (hi : i < L) : m_X3_isLetter v (nI i) M = some (1, M) := by
  obtain ⟨-, -, h1, h2⟩ := h
  have e1 : ¬ nI i < 0 := nI_pos (by omega)
  have e2 : ¬ nI L ≤ nI i := nI_ge hi (by omega)
  have e3 : ¬ (8 : Int32) ≤ nI i := nI_ge (b := 8) (by omega) (by omega)
  simp only [m_X3_isLetter, h1, if_neg e1, if_neg e2, if_neg e3]
theorem x3_let_out {M : Mm} {v P L : Nat} {x : Int32} (h : CV M v P L) (hx : x < 0 ∨ nI L ≤ x) : m_X3_isLetter v x M = some (0, M) := by
  obtain ⟨-, -, h1, h2⟩ := h
  unfold m_X3_isLetter
  rw [h1]
  by_cases e : x < 0
  · rw [if_pos e]
  · rw [if_neg e, if_pos (hx.resolve_left e)]
theorem one_ne0 : ¬ ((1 : Int32) = 0) := by decide
theorem x3_of_one {M : Mm} {v P L i : Nat} (h : CV M v P L) (hi : i < P) : m_X3_kindOf v (nI i) M = some (M (v + 1) i, M) ∧ m_X3_numberOf v (nI i) M = some (M (v + 2) i, M) ∧ m_X3_houseOf v (nI i) M = some (M (v + 3) i, M) := by
  have h5 := h.2.1
  have e := x3_one_in h hi
  have e2 : inr (nI i) 5 = true := inr_n (by omega) (by omega)
  have e3 : (nI i).toNatClampNeg = i := nI_clamp (by omega)
  refine ⟨?_, ?_, ?_⟩ <;> simp only [m_X3_kindOf, m_X3_numberOf, m_X3_houseOf, e, bd_s, if_neg one_ne0, e2, e3, gd_t]
theorem x3_of_let {M : Mm} {v P L i : Nat} (h : CV M v P L) (hi : i < L) : m_X3_fromWhom v (nI i) M = some (M (v + 4) i, M) ∧ m_X3_toWhom v (nI i) M = some (M (v + 5) i, M) ∧ m_X3_whereIs v (nI i) M = some (M (v + 6) i, M) ∧ m_X3_toneOf v (nI i) M = some (M (v + 7) i, M) ∧ m_X3_readBy v (nI i) M = some (M (v + 8) i, M) := by
  have h5 := h.2.2.2
  have e := x3_let_in h hi
  have e2 : inr (nI i) 8 = true := inr_n (by omega) (by omega)
  have e3 : (nI i).toNatClampNeg = i := nI_clamp (by omega)
  refine ⟨?_, ?_, ?_, ?_, ?_⟩ <;> simp only [m_X3_fromWhom, m_X3_toWhom, m_X3_whereIs, m_X3_toneOf, m_X3_readBy, e, bd_s, if_neg one_ne0, e2, e3, gd_t]
theorem x3_let_none {M : Mm} {v P L : Nat} {x : Int32} (h : CV M v P L) (hx : x < 0 ∨ nI L ≤ x) : m_X3_toneOf v x M = some (0, M) ∧ m_X3_readBy v x M = some (0, M) ∧ m_X3_whereIs v x M = some (-1, M) := by
  have e := x3_let_out h hx
  refine ⟨?_, ?_, ?_⟩ <;> simp only [m_X3_toneOf, m_X3_readBy, m_X3_whereIs, e, bd_s, if_pos]
/-! who lives in a house: the first one -/
def whoA (s : Vs) (h : Int32) : Nat → Nat → Int32
  | 0, _ => -1
  | k + 1, p => if s 3 p = h then nI p else whoA s h k (p + 1)
def whoS (s : Vs) (h : Int32) : Int32 := whoA s h (vP s) 0
theorem x3_livesIn_L {M : Mm} {v P L : Nat} (hc : CV M v P L) (h : Int32) : ∀ (k i n : Nat), k < n → i + k = P → m_X3_livesIn_L2 v n h (nI i) M = some (whoA (nx M v) h k i, M) := by
  have h5 := hc.2.1
  intro k
  induction k with
  | zero =>
    intro i n hn hi
    obtain ⟨n, rfl⟩ : ∃ m, n = m + 1 := ⟨n - 1, by omega⟩
    have e2 : nI P ≤ nI i := nI_le (by omega) (by omega)
    show m_X3_livesIn_B2 v (m_X3_livesIn_L2 v n) h (nI i) M = _
    rw [m_X3_livesIn_B2, hc.1, if_pos e2]
    rfl
  | succ k ih =>
    intro i n hn hi
    obtain ⟨n, rfl⟩ : ∃ m, n = m + 1 := ⟨n - 1, by omega⟩
    have e2 : ¬ nI P ≤ nI i := nI_ge (by omega) (by omega)
    have e3 : ¬ (5 : Int32) ≤ nI i := nI_ge (b := 5) (by omega) (by omega)
    show m_X3_livesIn_B2 v (m_X3_livesIn_L2 v n) h (nI i) M = _
    rw [m_X3_livesIn_B2, hc.1, if_neg e2, if_neg e3, inr_n (by omega) (by omega), gd_t, nI_clamp (by omega), whoA, hc.r (by omega) (by omega) (by omega)]
    split
    · rfl
    · simp only [lt1, nI_1]
      exact ih (i + 1) n (by omega) (by omega)
theorem x3_livesIn {M : Mm} {v P L : Nat} (hc : CV M v P L) (h : Int32) : m_X3_livesIn v h M = some (whoS (nx M v) h, M) := by
  have h5 := hc.2.1
  unfold m_X3_livesIn whoS
  rw [hc.P]
  exact x3_livesIn_L hc h P 0 FU (by unfold FU; omega) (by omega)
theorem whoA_in {s : Vs} {h : Int32} : ∀ (k i : Nat), whoA s h k i = -1 ∨ ∃ p, i ≤ p ∧ p < i + k ∧ s 3 p = h ∧ whoA s h k i = nI p := by
  intro k
  induction k with
  | zero => intro i; exact Or.inl rfl
  | succ k ih =>
    intro i
    unfold whoA
    split
    · rename_i e; exact Or.inr ⟨i, by omega, by omega, e, rfl⟩
    · rcases ih (i + 1) with q | ⟨p, q1, q2, q3, q4⟩
      · exact Or.inl q
      · exact Or.inr ⟨p, by omega, by omega, q3, q4⟩
theorem whoS_in {s : Vs} {h : Int32} : whoS s h = -1 ∨ ∃ p, p < vP s ∧ s 3 p = h ∧ whoS s h = nI p := by
  rcases whoA_in (s := s) (h := h) (vP s) 0 with q | ⟨p, q1, q2, q3, q4⟩
  · exact Or.inl q
  · exact Or.inr ⟨p, by omega, q3, q4⟩
/-! how many are home -/
def homA (s : Vs) : Nat → Nat → Int32 → Int32
  | 0, _, a => a
  | k + 1, l, a => homA s k (l + 1) (if s 6 l = -1 then a + 1 else a)
def homS (s : Vs) : Int32 := homA s (vL s) 0 0
theorem x3_homes_L {M : Mm} {v P L : Nat} (hc : CV M v P L) : ∀ (k i n : Nat) (a : Int32), k < n → i + k = L → m_X3_homes_L4 v n a (nI i) M = some (homA (nx M v) k i a, M) := by
  have h5 := hc.2.2.2
  intro k
  induction k with
  | zero =>
    intro i n a hn hi
    obtain ⟨n, rfl⟩ : ∃ m, n = m + 1 := ⟨n - 1, by omega⟩
    have e2 : nI L ≤ nI i := nI_le (by omega) (by omega)
    show m_X3_homes_B4 v (m_X3_homes_L4 v n) a (nI i) M = _
    rw [m_X3_homes_B4, hc.2.2.1, if_pos e2]
    rfl
  | succ k ih =>
    intro i n a hn hi
    obtain ⟨n, rfl⟩ : ∃ m, n = m + 1 := ⟨n - 1, by omega⟩
    have e2 : ¬ nI L ≤ nI i := nI_ge (by omega) (by omega)
    have e3 : ¬ (8 : Int32) ≤ nI i := nI_ge (b := 8) (by omega) (by omega)
    show m_X3_homes_B4 v (m_X3_homes_L4 v n) a (nI i) M = _
    rw [m_X3_homes_B4, hc.2.2.1, if_neg e2, if_neg e3, inr_n (by omega) (by omega), gd_t, nI_clamp (by omega), homA, hc.q (by omega) (by omega) (by omega)]
    simp only [m_X3_homes_J31, lt1, nI_1]
    split
    · exact ih (i + 1) n (a + 1) (by omega) (by omega)
    · exact ih (i + 1) n a (by omega) (by omega)
theorem x3_homes {M : Mm} {v P L : Nat} (hc : CV M v P L) : m_X3_homes v M = some (homS (nx M v), M) := by
  have h5 := hc.2.2.2
  unfold m_X3_homes homS
  rw [hc.L]
  exact x3_homes_L hc L 0 FU 0 (by unfold FU; omega) (by omega)
/-! what one knows -/
def knoA (s : Vs) (p : Int32) : Nat → Nat → Int32 → Int32
  | 0, _, a => a
  | k + 1, l, a => knoA s p k (l + 1) (if (shr (s 8 l) p) &&& 1 = 0 then a else a ||| shl 1 (nI l))
def knoS (s : Vs) (p : Int32) : Int32 := knoA s p (vL s) 0 0
theorem x3_known_L {M : Mm} {v P L : Nat} (hc : CV M v P L) (p : Int32) : ∀ (k i n : Nat) (a : Int32), k < n → i + k = L → m_X3_known_L4 v n p a (nI i) M = some (knoA (nx M v) p k i a, M) := by
  have h5 := hc.2.2.2
  intro k
  induction k with
  | zero =>
    intro i n a hn hi
    obtain ⟨n, rfl⟩ : ∃ m, n = m + 1 := ⟨n - 1, by omega⟩
    have e2 : nI L ≤ nI i := nI_le (by omega) (by omega)
    show m_X3_known_B4 v (m_X3_known_L4 v n) p a (nI i) M = _
    rw [m_X3_known_B4, hc.2.2.1, if_pos e2]
    rfl
  | succ k ih =>
    intro i n a hn hi
    obtain ⟨n, rfl⟩ : ∃ m, n = m + 1 := ⟨n - 1, by omega⟩
    have e2 : ¬ nI L ≤ nI i := nI_ge (by omega) (by omega)
    have e3 : ¬ (8 : Int32) ≤ nI i := nI_ge (b := 8) (by omega) (by omega)
    show m_X3_known_B4 v (m_X3_known_L4 v n) p a (nI i) M = _
    rw [m_X3_known_B4, hc.2.2.1, if_neg e2, if_neg e3, inr_n (by omega) (by omega), gd_t, nI_clamp (by omega), knoA, hc.q (by omega) (by omega) (by omega)]
    simp only [m_X3_known_J37, lt1, nI_1]
    split
    · exact ih (i + 1) n a (by omega) (by omega)
    · exact ih (i + 1) n _ (by omega) (by omega)
theorem x3_known {M : Mm} {v P L : Nat} (hc : CV M v P L) (p : Int32) : m_X3_known v p M = some (knoS (nx M v) p, M) := by
  have h5 := hc.2.2.2
  unfold m_X3_known knoS
  rw [hc.L]
  exact x3_known_L hc p L 0 FU 0 (by unfold FU; omega) (by omega)
