/-! the reference, read -/
def MV (M : Mm) (P L : Nat) : Prop := M 0 10 = nI P ∧ P ≤ 5 ∧ M 0 12 = nI L ∧ L ≤ 8
theorem MV.P {M : Mm} {P L : Nat} (h : MV M P L) : vP (nm M) = P := by
  have h1 : vm M 0 4 = nI P := h.1
  rw [nm, nrm_P, vP, h1, nI_clamp (by have := h.2.1; omega)]
theorem MV.L {M : Mm} {P L : Nat} (h : MV M P L) : vL (nm M) = L := by
  have h1 : vm M 0 5 = nI L := h.2.2.1
  rw [nm, nrm_L, vL, h1, nI_clamp (by have := h.2.2.2; omega)]
theorem MV.r {M : Mm} {P L p : Nat} (h : MV M P L) (hp : p < P) : nm M 1 p = M 4 (3 * p + 1) ∧ nm M 2 p = M 4 (3 * p) ∧ nm M 3 p = M 4 (3 * p + 2) := by
  have e := h.P
  rw [nm, nrm_P] at e
  refine ⟨?_, ?_, ?_⟩ <;> (rw [nm, nrm_p (by omega) (by omega) (by omega)]; rfl)
theorem MV.q {M : Mm} {P L l : Nat} (h : MV M P L) (hl : l < L) : nm M 4 l = M 5 (5 * l + 1) ∧ nm M 5 l = M 5 (5 * l + 2) ∧ nm M 6 l = M 5 (5 * l + 3) ∧ nm M 7 l = M 5 (5 * l) ∧ nm M 8 l = M 5 (5 * l + 4) := by
  have e := h.L
  rw [nm, nrm_L] at e
  refine ⟨?_, ?_, ?_, ?_, ?_⟩ <;> (rw [nm, nrm_l (by omega) (by omega) (by omega)]; rfl)
theorem nm_0 {M : Mm} : nm M 0 1 = M 0 7 ∧ nm M 0 2 = M 0 8 ∧ nm M 0 3 = M 0 4 ∧ nm M 0 4 = M 0 10 ∧ nm M 0 5 = M 0 12 ∧ nm M 0 6 = M 0 13 := by
  refine ⟨?_, ?_, ?_, ?_, ?_, ?_⟩ <;> (rw [nm, nrm_0 (by omega)]; rfl)
theorem cmp_lt0 {x y : Int64} : (lg_cmp x y < 0) ↔ x < y := by
  unfold lg_cmp
  split
  · rename_i h; constructor
    · intro q; exact absurd q (by decide)
    · intro q; exact absurd q (lg_lt_not h)
  · split
    · rename_i h1 h2; subst h2; constructor
      · intro q; exact absurd q (by decide)
      · intro q; exact absurd q h1
    · rename_i h1 h2; constructor
      · intro _
        have h1 : ¬ y < x := h1
        rw [Int64.lt_iff_toInt_lt] at h1 ⊢
        have : ¬ x.toInt = y.toInt := fun q => h2 (Int64.toInt_inj.mp q)
        omega
      · intro _; decide
theorem cmp_0lt {x y : Int64} : (0 < lg_cmp x y) ↔ y < x := by
  unfold lg_cmp
  split
  · rename_i h; constructor
    · intro q; exact h
    · intro q; decide
  · split
    · rename_i h1 h2; constructor
      · intro q; exact absurd q (by decide)
      · intro q; exact absurd q h1
    · rename_i h1 h2; constructor
      · intro q; exact absurd q (by decide)
      · intro q; exact absurd q h1
theorem x5_in {M : Mm} {x a b : Int64} : m_X5_in x a b M = some (b2i (decide (a.toInt ≤ x.toInt ∧ x.toInt ≤ b.toInt)), M) := by
  unfold m_X5_in
  by_cases h1 : x < a
  · rw [if_pos (cmp_lt0.mpr h1)]
    rw [Int64.lt_iff_toInt_lt] at h1
    rw [show decide (a.toInt ≤ x.toInt ∧ x.toInt ≤ b.toInt) = false from decide_eq_false (by omega)]
    rfl
  · rw [if_neg (fun q => h1 (cmp_lt0.mp q))]
    by_cases h2 : b < x
    · rw [if_pos (cmp_0lt.mpr h2)]
      rw [Int64.lt_iff_toInt_lt] at h2
      rw [show decide (a.toInt ≤ x.toInt ∧ x.toInt ≤ b.toInt) = false from decide_eq_false (by omega)]
      rfl
    · rw [if_neg (fun q => h2 (cmp_0lt.mp q))]
      rw [Int64.lt_iff_toInt_lt] at h1 h2
      rw [show decide (a.toInt ≤ x.toInt ∧ x.toInt ≤ b.toInt) = true from decide_eq_true (by omega)]
      rfl
theorem toL {x : Int32} : x.toInt64.toInt = x.toInt := Int32.toInt_toInt64 x
/-- within 0 .. n -/
theorem x5_in_in {M : Mm} {i n : Nat} {b : Int64} (hb : b.toInt = (n : Int)) (h : i ≤ n) (hn : n < 2 ^ 31) : m_X5_in (nI i).toInt64 (0 : Int64) b M = some (1, M) := by
  rw [x5_in, toL, nI_toInt (by omega), hb, show ((0 : Int64).toInt) = 0 from rfl, decide_eq_true (by omega)]
  rfl
theorem x5_in_out {M : Mm} {x : Int32} {n : Nat} {b : Int64} (hb : b.toInt + 1 = (n : Int)) (hn : n < 2 ^ 31) (h : x < 0 ∨ nI n ≤ x) : m_X5_in x.toInt64 (0 : Int64) b M = some (0, M) := by
  rw [x5_in, toL, show ((0 : Int64).toInt) = 0 from rfl, decide_eq_false]
  · rfl
  · rcases h with h | h
    · rw [Int32.lt_iff_toInt_lt] at h
      have : ((0 : Int32).toInt) = 0 := rfl
      omega
    · rw [Int32.le_iff_toInt_le, nI_toInt hn] at h
      omega
theorem nI_sub1 {P : Nat} (h : P < 2 ^ 30) : (nI P - 1).toInt64.toInt = (P : Int) - 1 := by
  rw [toL]
  have := pk_sub_toInt (a := P) (b := 1) h (by omega)
  exact this
theorem x5_one_in {M : Mm} {P L i : Nat} (h : MV M P L) (hi : i < P) : m_X5_isOne (nI i) M = some (1, M) := by
  obtain ⟨h1, h2, -, -⟩ := h
  unfold m_X5_isOne
  rw [h1, x5_in_in (n := P - 1) (by rw [nI_sub1 (by omega)]; omega) (by omega) (by omega)]
  rfl
theorem x5_one_out {M : Mm} {P L : Nat} {x : Int32} (h : MV M P L) (hx : x < 0 ∨ nI P ≤ x) : m_X5_isOne x M = some (0, M) := by
  obtain ⟨h1, h2, -, -⟩ := h
  unfold m_X5_isOne
  rw [h1, x5_in_out (n := P) (by rw [nI_sub1 (by omega)]; omega) (by omega) hx]
  rfl
theorem x5_let_in {M : Mm} {P L i : Nat} (h : MV M P L) (hi : i < L) : m_X5_isLetter (nI i) M = some (1, M) := by
  obtain ⟨-, -, h1, h2⟩ := h
  unfold m_X5_isLetter
  rw [h1, x5_in_in (n := L - 1) (by rw [nI_sub1 (by omega)]; omega) (by omega) (by omega)]
  rfl
theorem x5_let_out {M : Mm} {P L : Nat} {x : Int32} (h : MV M P L) (hx : x < 0 ∨ nI L ≤ x) : m_X5_isLetter x M = some (0, M) := by
  obtain ⟨-, -, h1, h2⟩ := h
  unfold m_X5_isLetter
  rw [h1, x5_in_out (n := L) (by rw [nI_sub1 (by omega)]; omega) (by omega) hx]
  rfl
/-! places in the rows -/
theorem pl3 (i : Nat) : (3 : Int32) * nI i = nI (3 * i) := pk_mul 3 i
theorem pl5 (i : Nat) : (5 : Int32) * nI i = nI (5 * i) := pk_mul 5 i
theorem pla1 (i : Nat) : nI i + (1 : Int32) = nI (i + 1) := nI_add i 1
theorem pla2 (i : Nat) : nI i + (2 : Int32) = nI (i + 2) := nI_add i 2
theorem pla3 (i : Nat) : nI i + (3 : Int32) = nI (i + 3) := nI_add i 3
theorem pla4 (i : Nat) : nI i + (4 : Int32) = nI (i + 4) := nI_add i 4
/-! who lives in a house: the last one, which is the first where no two live in one -/
def whoB (s : Vs) (h : Int32) : Nat → Nat → Int32 → Int32
  | 0, _, a => a
  | k + 1, p, a => whoB s h k (p + 1) (if s 3 p = h then nI p else a)
def Apart (s : Vs) : Prop := ∀ p q, p < vP s → q < vP s → s 3 p = s 3 q → p = q
theorem whoB_none {s : Vs} {h : Int32} : ∀ (k i : Nat) (a : Int32), (∀ p, i ≤ p → p < i + k → s 3 p ≠ h) → whoB s h k i a = a := by
  intro k
  induction k with
  | zero => intro i a _; rfl
  | succ k ih =>
    intro i a hn
    unfold whoB
    rw [if_neg (hn i (by omega) (by omega))]
    exact ih (i + 1) a (fun p h1 h2 => hn p (by omega) (by omega))
theorem whoB_A {s : Vs} {h : Int32} (hd : Apart s) : ∀ (k i : Nat), i + k = vP s → whoB s h k i (-1) = whoA s h k i := by
  intro k
  induction k with
  | zero => intro i _; rfl
  | succ k ih =>
    intro i hi
    unfold whoB whoA
    split
    · rename_i e
      exact whoB_none k (i + 1) _ (fun p h1 h2 h3 => by have := hd i p (by omega) (by omega) (by rw [e, h3]); omega)
    · exact ih (i + 1) (by omega)
theorem x5_whoIn_L {M : Mm} {P L : Nat} (hc : MV M P L) (h : Int32) : ∀ (k i n : Nat) (a : Int32), k < n → i + k = P → m_X5_whoIn_L4 n h a (nI i) M = some (whoB (nm M) h k i a, M) := by
  have h5 := hc.2.1
  intro k
  induction k with
  | zero =>
    intro i n a hn hi
    obtain ⟨n, rfl⟩ : ∃ m, n = m + 1 := ⟨n - 1, by omega⟩
    have e2 : nI P ≤ nI i := nI_le (by omega) (by omega)
    show m_X5_whoIn_B4 (m_X5_whoIn_L4 n) h a (nI i) M = _
    rw [m_X5_whoIn_B4, hc.1, if_pos e2]
    rfl
  | succ k ih =>
    intro i n a hn hi
    obtain ⟨n, rfl⟩ : ∃ m, n = m + 1 := ⟨n - 1, by omega⟩
    have e2 : ¬ nI P ≤ nI i := nI_ge (by omega) (by omega)
    show m_X5_whoIn_B4 (m_X5_whoIn_L4 n) h a (nI i) M = _
    rw [m_X5_whoIn_B4, hc.1, if_neg e2, pl3, pla2, inr_n (by omega) (by omega), gd_t, nI_clamp (by omega), whoB, (hc.r (p := i) (by omega)).2.2]
    simp only [m_X5_whoIn_J31, lt1, nI_1]
    split
    · exact ih (i + 1) n _ (by omega) (by omega)
    · exact ih (i + 1) n _ (by omega) (by omega)
theorem x5_whoIn {M : Mm} {P L : Nat} (hc : MV M P L) (hd : Apart (nm M)) (h : Int32) : m_X5_whoIn h M = some (whoS (nm M) h, M) := by
  have h5 := hc.2.1
  have h6 := x5_whoIn_L hc h P 0 FU (-1) (by unfold FU; omega) (by omega)
  rw [whoB_A hd P 0 (by rw [hc.P]; omega)] at h6
  unfold m_X5_whoIn whoS
  rw [hc.P]
  exact h6
/-! bits counted -/
def pcS (x : Int32) : Int32 :=
  let y1 := x - ((ushr x 1) &&& 1431655765)
  let y2 := (y1 &&& 858993459) + ((ushr y1 2) &&& 858993459)
  let y3 := (y2 + ushr y2 4) &&& 252645135
  let y4 := y3 + ushr y3 8
  let y5 := y4 + ushr y4 16
  y5 &&& 63
theorem j6_pc {M : Mm} {x : Int32} : m_J6_bitCount_0f7a4 x M = some (pcS x, M) := rfl
def pcL : Nat → Int32 → Int32 → Option Int32
  | 0, _, _ => none
  | n + 1, a, x => if x = 0 then some a else pcL n (a + 1) (x &&& (x - 1))
theorem x5_bits_L {M : Mm} : ∀ (n m : Nat) (a x r : Int32), pcL n a x = some r → m_X5_bitsOf_L4 (n + m) a x M = some (r, M) := by
  intro n
  induction n with
  | zero => intro m a x r h; cases h
  | succ n ih =>
    intro m a x r h
    rw [show n + 1 + m = (n + m) + 1 by omega]
    show m_X5_bitsOf_B4 (m_X5_bitsOf_L4 (n + m)) a x M = _
    unfold m_X5_bitsOf_B4
    unfold pcL at h
    by_cases hx : x = 0
    · rw [if_pos hx] at h ⊢
      cases h; rfl
    · rw [if_neg hx] at h ⊢
      exact ih m _ _ r h
theorem pc_all : ∀ b, b < 256 → pcL 9 0 (nI b) = some (pcS (nI b)) := by decide +kernel
theorem x5_bits {M : Mm} {b : Nat} (h : b < 256) : m_X5_bitsOf (nI b) M = some (pcS (nI b), M) := by
  have := x5_bits_L (M := M) 9 (FU - 9) 0 (nI b) _ (pc_all b h)
  rw [show 9 + (FU - 9) = FU by unfold FU; omega] at this
  exact this
/-! who is home: a set, counted -/
def hosA (s : Vs) : Nat → Nat → Int32 → Int32
  | 0, _, a => a
  | k + 1, l, a => hosA s k (l + 1) (a ||| shl (if s 6 l = -1 then 1 else 0) (nI l))
def hosS (s : Vs) : Int32 := hosA s (vL s) 0 0
theorem x5_homeSet_L {M : Mm} {P L : Nat} (hc : MV M P L) : ∀ (k i n : Nat) (a : Int32), k < n → i + k = L → m_X5_homeSet_L4 n a (nI i) M = some (hosA (nm M) k i a, M) := by
  have h5 := hc.2.2.2
  intro k
  induction k with
  | zero =>
    intro i n a hn hi
    obtain ⟨n, rfl⟩ : ∃ m, n = m + 1 := ⟨n - 1, by omega⟩
    have e2 : nI L ≤ nI i := nI_le (by omega) (by omega)
    show m_X5_homeSet_B4 (m_X5_homeSet_L4 n) a (nI i) M = _
    rw [m_X5_homeSet_B4, hc.2.2.1, if_pos e2]
    rfl
  | succ k ih =>
    intro i n a hn hi
    obtain ⟨n, rfl⟩ : ∃ m, n = m + 1 := ⟨n - 1, by omega⟩
    have e2 : ¬ nI L ≤ nI i := nI_ge (by omega) (by omega)
    show m_X5_homeSet_B4 (m_X5_homeSet_L4 n) a (nI i) M = _
    rw [m_X5_homeSet_B4, hc.2.2.1, if_neg e2, pl5, pla3, inr_n (by omega) (by omega), gd_t, nI_clamp (by omega), hosA, (hc.q (l := i) (by omega)).2.2.1]
    simp only [m_X5_homeSet_J32, lt1, nI_1]
    split
    · exact ih (i + 1) n _ (by omega) (by omega)
    · exact ih (i + 1) n _ (by omega) (by omega)
theorem x5_homeSet {M : Mm} {P L : Nat} (hc : MV M P L) : m_X5_homeSet M = some (hosS (nm M), M) := by
  have h5 := hc.2.2.2
  unfold m_X5_homeSet hosS
  rw [hc.L]
  exact x5_homeSet_L hc L 0 FU 0 (by unfold FU; omega) (by omega)
/-- a set of few, step by step, as a number: bits below l -/
theorem ho_step : ∀ l, l < 8 → ∀ b, b < 2 ^ l → ((nI b ||| shl 0 (nI l)) = nI b ∧ (nI b ||| shl 1 (nI l)) = nI (b + 2 ^ l) ∧ pcS (nI (b + 2 ^ l)) = pcS (nI b) + 1) := by decide +kernel
theorem hos_hom {s : Vs} : ∀ (k l : Nat) (b : Nat), l + k ≤ 8 → b < 2 ^ l → ∃ c, c < 2 ^ (l + k) ∧ hosA s k l (nI b) = nI c ∧ homA s k l (pcS (nI b)) = pcS (nI c) := by
  intro k
  induction k with
  | zero => intro l b h1 h2; exact ⟨b, h2, rfl, rfl⟩
  | succ k ih =>
    intro l b h1 h2
    obtain ⟨g1, g2, g3⟩ := ho_step l (by omega) b h2
    have h3 : 2 ^ (l + 1) = 2 ^ l + 2 ^ l := by rw [Nat.pow_succ]; omega
    unfold hosA homA
    by_cases e : s 6 l = -1
    · rw [if_pos e, if_pos e, g2, ← g3]
      obtain ⟨c, c1, c2, c3⟩ := ih (l + 1) (b + 2 ^ l) (by omega) (by omega)
      exact ⟨c, by rw [show l + (k + 1) = l + 1 + k by omega]; exact c1, c2, c3⟩
    · rw [if_neg e, if_neg e, g1]
      obtain ⟨c, c1, c2, c3⟩ := ih (l + 1) b (by omega) (by omega)
      exact ⟨c, by rw [show l + (k + 1) = l + 1 + k by omega]; exact c1, c2, c3⟩
theorem hos_n {s : Vs} (h : vL s ≤ 8) : ∃ c, c < 256 ∧ hosS s = nI c ∧ homS s = pcS (nI c) := by
  obtain ⟨c, c1, c2, c3⟩ := hos_hom (s := s) (vL s) 0 0 (by omega) (by decide)
  refine ⟨c, Nat.lt_of_lt_of_le c1 ?_, c2, c3⟩
  rw [Nat.zero_add]
  exact Nat.le_trans (Nat.pow_le_pow_right (by decide) h) (by decide)
theorem x5_homeMany {M : Mm} {P L : Nat} (hc : MV M P L) : m_X5_homeMany M = some (homS (nm M), M) := by
  obtain ⟨c, c1, c2, c3⟩ := hos_n (s := nm M) (by rw [hc.L]; exact hc.2.2.2)
  unfold m_X5_homeMany
  rw [x5_homeSet hc, bd_s, c2, x5_bits c1, bd_s, c3]
/-! what one knows -/
theorem and1 (x : Int32) : x &&& 1 = 0 ∨ x &&& 1 = 1 := by
  obtain ⟨j, h1, h2⟩ := pk_andE x (m := 1) 1 (by decide)
  rcases (show j = 0 ∨ j = 1 by omega) with rfl | rfl
  · exact Or.inl h2
  · exact Or.inr h2
theorem or_0 (x : Int32) : x ||| 0 = x := by
  apply Int32.toBitVec_inj.mp
  simp
theorem shl_0 : ∀ l, l < 8 → shl 0 (nI l) = 0 := by decide +kernel
theorem x5_known_L {M : Mm} {P L : Nat} (hc : MV M P L) (p : Int32) : ∀ (k i n : Nat) (a : Int32), k < n → i + k = L → m_X5_known_L4 n p a (nI i) M = some (knoA (nm M) p k i a, M) := by
  have h5 := hc.2.2.2
  intro k
  induction k with
  | zero =>
    intro i n a hn hi
    obtain ⟨n, rfl⟩ : ∃ m, n = m + 1 := ⟨n - 1, by omega⟩
    have e2 : nI L ≤ nI i := nI_le (by omega) (by omega)
    show m_X5_known_B4 (m_X5_known_L4 n) p a (nI i) M = _
    rw [m_X5_known_B4, hc.2.2.1, if_pos e2]
    rfl
  | succ k ih =>
    intro i n a hn hi
    obtain ⟨n, rfl⟩ : ∃ m, n = m + 1 := ⟨n - 1, by omega⟩
    have e2 : ¬ nI L ≤ nI i := nI_ge (by omega) (by omega)
    show m_X5_known_B4 (m_X5_known_L4 n) p a (nI i) M = _
    rw [m_X5_known_B4, hc.2.2.1, if_neg e2, pl5, pla4, inr_n (by omega) (by omega), gd_t, nI_clamp (by omega), knoA, (hc.q (l := i) (by omega)).2.2.2.2]
    simp only [lt1, nI_1]
    rcases and1 (shr (M 5 (5 * i + 4)) p) with e | e
    · rw [e, shl_0 i (by omega), or_0, if_pos rfl]
      exact ih (i + 1) n _ (by omega) (by omega)
    · rw [e, if_neg one_ne0]
      exact ih (i + 1) n _ (by omega) (by omega)
theorem x5_known {M : Mm} {P L : Nat} (hc : MV M P L) (p : Int32) : m_X5_known p M = some (knoS (nm M) p, M) := by
  have h5 := hc.2.2.2
  unfold m_X5_known knoS
  rw [hc.L]
  exact x5_known_L hc p L 0 FU 0 (by unfold FU; omega) (by omega)
