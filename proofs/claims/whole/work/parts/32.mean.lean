/-! lowest terms -/
theorem irm_n {a b : Nat} (ha : a < 2 ^ 31) (h0 : 0 < b) (hb : b < 2 ^ 31) : irm (nI a) (nI b) = nI (a % b) := pk_rem ha h0 hb
theorem lrm_n {a b : Nat} (ha : a < 2 ^ 31) (h0 : 0 < b) (hb : b < 2 ^ 31) : lrm (lN a) (lN b) = lN (a % b) := pk_lRem (by omega) h0 (by omega)
theorem gcd_st (a b : Nat) : Nat.gcd b (a % b) = Nat.gcd a b := by
  rw [Nat.gcd_comm a b, Nat.gcd_rec b a, Nat.gcd_comm]
theorem x4_low_L {x0 x1 x2 : Int32} {M : Mm} : ∀ (k a b t n : Nat), b ≤ k → k < n → t + k < 64 → a < 2 ^ 31 → b < 2 ^ 31 → m_X4_inLowestTerms_L8 n x0 x1 x2 (nI a) (nI b) (nI t) M = m_X4_inLowestTerms_J39 x0 x1 x2 (nI (Nat.gcd a b)) M := by
  intro k
  induction k with
  | zero =>
    intro a b t n hb hn ht ha hb2
    obtain ⟨n, rfl⟩ : ∃ m, n = m + 1 := ⟨n - 1, by omega⟩
    have : b = 0 := by omega
    subst this
    show m_X4_inLowestTerms_B8 (m_X4_inLowestTerms_L8 n) x0 x1 x2 (nI a) (nI 0) (nI t) M = _
    rw [m_X4_inLowestTerms_B8, if_neg (show ¬ (64 : Int32) ≤ nI t from nI_ge (b := 64) (by omega) (by omega)), if_pos nI_0, Nat.gcd_zero_right]
  | succ k ih =>
    intro a b t n hb hn ht ha hb2
    obtain ⟨n, rfl⟩ : ∃ m, n = m + 1 := ⟨n - 1, by omega⟩
    show m_X4_inLowestTerms_B8 (m_X4_inLowestTerms_L8 n) x0 x1 x2 (nI a) (nI b) (nI t) M = _
    rw [m_X4_inLowestTerms_B8, if_neg (show ¬ (64 : Int32) ≤ nI t from nI_ge (b := 64) (by omega) (by omega))]
    by_cases e : b = 0
    · subst e
      rw [if_pos nI_0, Nat.gcd_zero_right]
    · have nb : ¬ nI b = 0 := nI_ne0 (by omega) hb2
      have hm : a % b < b := Nat.mod_lt _ (by omega)
      rw [if_neg nb, decide_eq_false nb, show (!false) = true from rfl, gd_t, lt1_d, lt1_d, lt1_d, lt1_d, irm_n ha (by omega) hb2, nI_1, ih b (a % b) (t + 1) n (by omega) (by omega) (by omega) hb2 (by omega), gcd_st]
theorem x4_low {a b w : Nat} {M : Mm} (ha : a ≤ 1000) (h0 : 0 < b) (hb : b ≤ 20) (hw : w < 2) : m_X4_inLowestTerms (nI a) (nI b) (nI w) M = some (lN ((if w = 0 then a else b) / Nat.gcd a b), M) := by
  have hg : 0 < Nat.gcd a b := Nat.gcd_pos_of_pos_right _ h0
  have hg2 : Nat.gcd a b ≤ b := Nat.gcd_le_right _ h0
  have ng : ¬ nI (Nat.gcd a b) = 0 := nI_ne0 hg (by omega)
  unfold m_X4_inLowestTerms
  rw [lt1_d, lt1_d, lt1_d, ← nI_0, x4_low_L b a b 0 FU (Nat.le_refl _) (by unfold FU; omega) (by omega) (by omega) (by omega)]
  unfold m_X4_inLowestTerms_J39
  rw [if_neg ng, decide_eq_false ng, show (!false) = true from rfl, gd_t, gd_t, pk_div (by omega) hg (by omega), pk_div (by omega) hg (by omega), nI_l (by have := Nat.div_le_self a (Nat.gcd a b); omega), nI_l (by have := Nat.div_le_self b (Nat.gcd a b); omega)]
  rcases (show w = 0 ∨ w = 1 by omega) with rfl | rfl
  · rw [if_pos nI_0, if_pos rfl]
  · rw [if_neg (by decide), if_neg (by decide)]
theorem cmp_0 {x y : Int64} : (lg_cmp x y = 0) ↔ x = y := by
  unfold lg_cmp
  split
  · rename_i h; constructor
    · intro q; exact absurd q (by decide)
    · intro q; subst q; exact absurd (show x < x from h) (by rw [Int64.lt_iff_toInt_lt]; omega)
  · split
    · rename_i h1 h2; exact ⟨fun _ => h2, fun _ => rfl⟩
    · rename_i h1 h2; constructor
      · intro q; exact absurd q (by decide)
      · intro q; exact absurd q h2
theorem x5_low_L {x0 x2 : Int64} {w : Int32} {M : Mm} : ∀ (k a b n : Nat), b ≤ k → k < n → a < 2 ^ 31 → b < 2 ^ 31 → 0 < Nat.gcd a b → m_X5_lowest_L6 n x0 x2 w (lN a) (lN b) M = (if w = 0 then some (x0 / lN (Nat.gcd a b), M) else some (x2 / lN (Nat.gcd a b), M)) := by
  intro k
  have base : ∀ (a n : Nat), a < 2 ^ 31 → 0 < a → m_X5_lowest_B6 (m_X5_lowest_L6 n) x0 x2 w (lN a) (lN 0) M = (if w = 0 then some (x0 / lN a, M) else some (x2 / lN a, M)) := by
    intro a n ha h0
    have na : ¬ lN a = 0 := fun z => by have := (lN_eq (b := 0) ha (by omega)).mp z; omega
    rw [m_X5_lowest_B6, if_pos (cmp_0.mpr (show lN 0 = 0 from rfl)), decide_eq_false na, show (!false) = true from rfl, gd_t, gd_t]
  induction k with
  | zero =>
    intro a b n hb hn ha hb2 hg
    obtain ⟨n, rfl⟩ : ∃ m, n = m + 1 := ⟨n - 1, by omega⟩
    have : b = 0 := by omega
    subst this
    rw [Nat.gcd_zero_right] at hg ⊢
    exact base a n ha hg
  | succ k ih =>
    intro a b n hb hn ha hb2 hg
    obtain ⟨n, rfl⟩ : ∃ m, n = m + 1 := ⟨n - 1, by omega⟩
    by_cases e : b = 0
    · subst e
      rw [Nat.gcd_zero_right] at hg ⊢
      exact base a n ha hg
    · have nb : ¬ lN b = 0 := fun z => by have := (lN_eq (b := 0) hb2 (by omega)).mp z; omega
      have hm : a % b < b := Nat.mod_lt _ (by omega)
      show m_X5_lowest_B6 (m_X5_lowest_L6 n) x0 x2 w (lN a) (lN b) M = _
      rw [m_X5_lowest_B6, if_neg (fun z => nb (cmp_0.mp z)), decide_eq_false nb, show (!false) = true from rfl, gd_t, lt1_d, lt1_d, lt1_d, lrm_n ha (by omega) hb2, ih b (a % b) n (by omega) (by omega) hb2 (by omega) (by rw [gcd_st]; exact hg), gcd_st]
theorem x5_low {a b w : Nat} {M : Mm} (ha : a ≤ 1000) (h0 : 0 < b) (hb : b ≤ 20) (hw : w < 2) : m_X5_lowest (lN a) (lN b) (nI w) M = some (lN ((if w = 0 then a else b) / Nat.gcd a b), M) := by
  have hg : 0 < Nat.gcd a b := Nat.gcd_pos_of_pos_right _ h0
  have hg2 : Nat.gcd a b ≤ b := Nat.gcd_le_right _ h0
  unfold m_X5_lowest
  rw [lt1_d, lt1_d, x5_low_L b a b FU (Nat.le_refl _) (by unfold FU; omega) (by omega) (by omega) hg, pk_lDiv (by omega) hg (by omega), pk_lDiv (by omega) hg (by omega)]
  rcases (show w = 0 ∨ w = 1 by omega) with rfl | rfl
  · rw [if_pos nI_0, if_pos rfl]
  · rw [if_neg (by decide), if_neg (by decide)]
theorem mean_L {T w : Nat} {Mx Mr : Mm} (hV : RelV T Mx Mr) (hw : w < 2) (h0 : 0 < vL (nm Mr)) : ∀ (k i fx fm c : Nat), k < fx → k < fm → i + k = vL (nm Mr) → c ≤ 100 * i → ∃ v, m_X4_mean_L27 fx (nI w) (nI c) (nI i) Mx = some (v, Mx) ∧ m_X5_mean_L25 fm (nI w) (nI c) (nI i) Mr = some (v, Mr) := by
  have cx := hV.cx
  have cm := hV.cm
  have h8 := cm.2.2.2
  intro k
  induction k with
  | zero =>
    intro i fx fm c h1 h2 hi hc
    obtain ⟨fx, rfl⟩ : ∃ m, fx = m + 1 := ⟨fx - 1, by omega⟩
    obtain ⟨fm, rfl⟩ : ∃ m, fm = m + 1 := ⟨fm - 1, by omega⟩
    show ∃ v, m_X4_mean_B27 (m_X4_mean_L27 fx) (nI w) (nI c) (nI i) Mx = _ ∧ m_X5_mean_B25 (m_X5_mean_L25 fm) (nI w) (nI c) (nI i) Mr = _
    rw [m_X4_mean_B27, m_X5_mean_B25, cx.2.2.1, cm.2.2.1, if_pos (nI_le (by omega) (by omega)), if_pos (nI_le (by omega) (by omega)), nI_l (by omega), nI_l (by omega), x4_low (by omega) h0 (by omega) hw, x5_low (by omega) h0 (by omega) hw, bd_s, bd_s]
    exact ⟨_, rfl, rfl⟩
  | succ k ih =>
    intro i fx fm c h1 h2 hi hc
    obtain ⟨fx, rfl⟩ : ∃ m, fx = m + 1 := ⟨fx - 1, by omega⟩
    obtain ⟨fm, rfl⟩ : ∃ m, fm = m + 1 := ⟨fm - 1, by omega⟩
    have il : i < vL (nm Mr) := by omega
    obtain ⟨-, -, -, ⟨t, t1, t2⟩, -⟩ := hV.2.1.2.2.2.2 i il
    have e1 : Mr 5 (5 * i) = nI t := by rw [← (cm.q il).2.2.2.1, t2]
    show ∃ v, m_X4_mean_B27 (m_X4_mean_L27 fx) (nI w) (nI c) (nI i) Mx = _ ∧ m_X5_mean_B25 (m_X5_mean_L25 fm) (nI w) (nI c) (nI i) Mr = _
    rw [m_X4_mean_B27, m_X5_mean_B25, cx.2.2.1, cm.2.2.1, if_neg (nI_ge (by omega) (by omega)), if_neg (nI_ge (by omega) (by omega)), (x3_of_let cx il).2.2.2.1, bd_s, lt1_d, lt1_d, pl5, inr_n (show 5 * i < 40 by omega) (by omega), gd_t, lt1_d, lt1_d, nI_clamp (show 5 * i < 2 ^ 31 by omega), (hV.lt il).2.2.2.1, e1, nI_add, nI_1]
    exact ih (i + 1) fx fm (c + t) (by omega) (by omega) (by omega) (by omega)
theorem call_mean {Mx Mr : Mm} (h : Rel Mx Mr) (x : Int32) : Ans (m_X4_mean x Mx) (m_X5_mean x Mr) := by
  obtain ⟨T, tx, hR, hV⟩ := id h
  have cx := hV.cx
  have cm := hV.cm
  have h8 := cm.2.2.2
  unfold m_X4_mean m_X5_mean
  rcases ix_cases x 2 (by omega) with q | ⟨w, w1, rfl⟩
  · rw [x5_in_out (n := 2) (b := 1) (by decide) (by omega) q, bd_s, if_pos rfl]
    rcases rg_out (n := 1) (by omega) q with q | ⟨q1, q2, q3⟩
    · rw [if_pos q]
      exact ⟨_, _, _, rfl, rfl, h⟩
    · rw [if_neg q1, if_pos (show (1 : Int32) < x from q3)]
      exact ⟨_, _, _, rfl, rfl, h⟩
  have rw' := rg_in (n := 1) w1 (by omega)
  rw [x5_in_in (n := 1) (b := 1) (by decide) (by omega) (by omega), bd_s, if_neg one_ne0, if_neg rw'.1, if_neg (show ¬ (1 : Int32) < nI w from rw'.2.2), cx.2.2.1, cm.2.2.1]
  by_cases e : vL (nm Mr) = 0
  · rw [e, if_pos nI_0, if_pos nI_0]
    exact ⟨_, _, _, rfl, rfl, h⟩
  · have nz : ¬ nI (vL (nm Mr)) = 0 := nI_ne0 (by omega) (by omega)
    rw [if_neg nz, if_neg nz, lt1_d, lt1_d, lt1_d, lt1_d]
    obtain ⟨v, a, b⟩ := mean_L hV w1 (by omega) (vL (nm Mr)) 0 FU FU 0 (by unfold FU; omega) (by unfold FU; omega) (by omega) (by omega)
    rw [nI_0] at a b
    exact ⟨v, Mx, Mr, a, b, h⟩
/-! chance -/
theorem chn_L {T m k0 w : Nat} {tx : Tx} {z : Int32} (hm0 : 0 < m) (hm : m ≤ 20) (hw : w < 2) : ∀ (k i fx fm c : Nat) (A R : Mm), k < fx → k < fm → i + k = m → c ≤ i → Rest T tx A R → RelV T A R → Ans (m_X4_chance_L42 fx z (nI m) (nI k0) (nI w) (nI c) (nI i) A) (m_X5_chance_L45 fm z (nI m) (nI k0) (nI w) (lN c) (nI i) R) := by
  intro k
  induction k with
  | zero =>
    intro i fx fm c A R h1 h2 hi hc hR hV
    obtain ⟨fx, rfl⟩ : ∃ m, fx = m + 1 := ⟨fx - 1, by omega⟩
    obtain ⟨fm, rfl⟩ : ∃ m, fm = m + 1 := ⟨fm - 1, by omega⟩
    show Ans (m_X4_chance_B42 (m_X4_chance_L42 fx) z (nI m) (nI k0) (nI w) (nI c) (nI i) A) (m_X5_chance_B45 (m_X5_chance_L45 fm) z (nI m) (nI k0) (nI w) (lN c) (nI i) R)
    rw [m_X4_chance_B42, m_X5_chance_B45, if_pos (nI_le (by omega) (by omega)), if_pos (nI_le (by omega) (by omega)), nI_l (by omega), x4_low (by omega) hm0 hm hw, x5_low (by omega) hm0 hm hw, bd_s, bd_s]
    exact ⟨_, _, _, rfl, rfl, T, tx, hR, hV⟩
  | succ k ih =>
    intro i fx fm c A R h1 h2 hi hc hR hV
    obtain ⟨fx, rfl⟩ : ∃ m, fx = m + 1 := ⟨fx - 1, by omega⟩
    obtain ⟨fm, rfl⟩ : ∃ m, fm = m + 1 := ⟨fm - 1, by omega⟩
    obtain ⟨r, A1, R1, a, b, c1, d1⟩ := drw_R (z + nI i) (N := 10) (by omega) hR hV
    have hR' := hR.keep (c1.xk (Or.inr rfl)) d1.rk
    have hV' := hV.thought c1 d1
    show Ans (m_X4_chance_B42 (m_X4_chance_L42 fx) z (nI m) (nI k0) (nI w) (nI c) (nI i) A) (m_X5_chance_B45 (m_X5_chance_L45 fm) z (nI m) (nI k0) (nI w) (lN c) (nI i) R)
    rw [m_X4_chance_B42, m_X5_chance_B45, if_neg (nI_ge (by omega) (by omega)), if_neg (nI_ge (by omega) (by omega)), show m_X4_homesDrawn (z + nI i) (10 : Int32) A = some (r, A1) from a, show m_X5_homeDrawn (z + nI i) (10 : Int32) R = some (r, R1) from b, bd_s, bd_s]
    unfold m_X4_chance_J65 m_X5_chance_J72
    by_cases e : r < nI k0
    · rw [if_pos e, if_pos e, lt1_d, lt1_d, lt1_d, Int64.add_zero, nI_1]
      exact ih (i + 1) fx fm c A1 R1 (by omega) (by omega) (by omega) (by omega) hR' hV'
    · rw [if_neg e, if_neg e, lt1_d, lt1_d, lt1_d, lt1_d, lN_1, nI_1, nI_1]
      exact ih (i + 1) fx fm (c + 1) A1 R1 (by omega) (by omega) (by omega) (by omega) hR' hV'
theorem in_1 {x : Int32} {M : Mm} : m_X5_in x.toInt64 (1 : Int64) (20 : Int64) M = some (b2i (decide (1 ≤ x.toInt ∧ x.toInt ≤ 20)), M) := by
  rw [x5_in, toL]
  rfl
theorem call_chance {Mx Mr : Mm} (h : Rel Mx Mr) (x y z u : Int32) : Ans (m_X4_chance x y z u Mx) (m_X5_chance x y z u Mr) := by
  obtain ⟨T, tx, hR, hV⟩ := id h
  unfold m_X4_chance m_X5_chance
  rw [in_1, bd_s]
  have o1 : ((1 : Int32).toInt) = 1 := by decide
  have o20 : ((20 : Int32).toInt) = 20 := by decide
  by_cases y1 : y < 1
  · rw [if_pos y1]
    rw [Int32.lt_iff_toInt_lt, o1] at y1
    rw [decide_eq_false (by omega), if_pos (by decide)]
    exact ⟨_, _, _, rfl, rfl, h⟩
  rw [if_neg y1]
  by_cases y2 : 20 < y
  · rw [if_pos y2]
    rw [Int32.lt_iff_toInt_lt, o20] at y2
    rw [decide_eq_false (by omega), if_pos (by decide)]
    exact ⟨_, _, _, rfl, rfl, h⟩
  rw [if_neg y2]
  obtain ⟨m, m1, m2, rfl⟩ : ∃ m, 0 < m ∧ m ≤ 20 ∧ y = nI m := by
    rw [Int32.lt_iff_toInt_lt, o1] at y1
    rw [Int32.lt_iff_toInt_lt, o20] at y2
    refine ⟨y.toInt.toNat, by omega, by omega, Int32.toInt_inj.mp ?_⟩
    rw [nI_toInt (by omega)]
    omega
  rw [decide_eq_true (by rw [nI_toInt (by omega)]; omega), if_neg (show ¬ b2i true = 0 by decide)]
  rcases ix_cases z 9 (by omega) with q | ⟨k0, k1, rfl⟩
  · rw [x5_in_out (n := 9) (b := 8) (by decide) (by omega) q, bd_s, if_pos rfl]
    rcases rg_out (n := 8) (by omega) q with q | ⟨q1, q2, q3⟩
    · rw [if_pos q]
      exact ⟨_, _, _, rfl, rfl, h⟩
    · rw [if_neg q1, if_pos (show (8 : Int32) < z from q3)]
      exact ⟨_, _, _, rfl, rfl, h⟩
  have rk := rg_in (n := 8) k1 (by omega)
  rw [x5_in_in (n := 8) (b := 8) (by decide) (by omega) (by omega), bd_s, if_neg one_ne0, if_neg rk.1, if_neg (show ¬ (8 : Int32) < nI k0 from rk.2.2)]
  rcases ix_cases u 2 (by omega) with q | ⟨w, w1, rfl⟩
  · rw [x5_in_out (n := 2) (b := 1) (by decide) (by omega) q, bd_s, if_pos rfl]
    rcases rg_out (n := 1) (by omega) q with q | ⟨q1, q2, q3⟩
    · rw [if_pos q]
      exact ⟨_, _, _, rfl, rfl, h⟩
    · rw [if_neg q1, if_neg (show ¬ u ≤ (1 : Int32) from q2)]
      exact ⟨_, _, _, rfl, rfl, h⟩
  have rw' := rg_in (n := 1) w1 (by omega)
  rw [x5_in_in (n := 1) (b := 1) (by decide) (by omega) (by omega), bd_s, if_neg one_ne0, if_neg rw'.1, if_pos (show nI w ≤ (1 : Int32) from rw'.2.1), lt1_d, lt1_d, lt1_d, lt1_d]
  have := chn_L (T := T) (tx := tx) (m := m) (k0 := k0) (w := w) (z := x) m1 m2 w1 m 0 FU FU 0 Mx Mr (by unfold FU; omega) (by unfold FU; omega) (by omega) (by omega) hR hV
  rw [nI_0, show lN 0 = 0 from rfl] at this
  exact this
