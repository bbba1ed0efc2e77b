/-! copy -/
theorem sub_ti {z m : Nat} (hz : z < 2 ^ 31) (hm : m < 2 ^ 31) : (nI z - nI m).toInt = (z : Int) - m := by
  rw [Int32.toInt_sub, nI_toInt hz, nI_toInt hm]
  exact Int.bmod_eq_of_le (by omega) (by omega)
theorem run_in {v a m z : Nat} {M : Mm} (h : M v 1 = nI z) (hz : z ≤ 40) (hr : a + m ≤ z) : m_X0_hasRun v (nI a) (nI m) M = some (1, M) := by
  unfold m_X0_hasRun
  rw [h, if_neg (nI_pos (by omega)), if_neg (nI_pos (by omega)), if_neg (nI_nlt (by omega) (by omega)), pk_sub (by omega), if_neg (nI_nlt (by omega) (by omega))]
theorem run_out {v a m z : Nat} {M : Mm} (ha : a < 2 ^ 31) (hm : m < 2 ^ 31) (h : M v 1 = nI z) (hz : z ≤ 40) (hr : z < a + m) : m_X0_hasRun v (nI a) (nI m) M = some (0, M) := by
  unfold m_X0_hasRun
  rw [h, if_neg (nI_pos (by omega)), if_neg (nI_pos (by omega))]
  by_cases e : z < a
  · rw [if_pos (nI_lt e (by omega))]
  · rw [if_neg (nI_nlt (by omega) (by omega)), pk_sub (by omega), if_pos (nI_lt (by omega) (by omega))]
theorem run_neg {v : Nat} {x n : Int32} {M : Mm} (h : x < 0 ∨ n < 0) : m_X0_hasRun v x n M = some (0, M) := by
  unfold m_X0_hasRun
  by_cases e : x < 0
  · rw [if_pos e]
  · rw [if_neg e, if_pos (h.resolve_left e)]
theorem run_or {v : Nat} {x n : Int32} {M : Mm} : m_X0_hasRun v x n M = some (0, M) ∨ m_X0_hasRun v x n M = some (1, M) := by
  unfold m_X0_hasRun
  split
  · exact Or.inl rfl
  split
  · exact Or.inl rfl
  split
  · exact Or.inl rfl
  split
  · exact Or.inl rfl
  · exact Or.inr rfl
theorem pl40 (i : Nat) : (40 : Int32) * nI i = nI (40 * i) := pk_mul 40 i
theorem x5_cp_up {s o i j N : Nat} (hs : s < 4) (ho : o < 4) (hi : i + N ≤ 40) (hj : j + N ≤ 40) (hd : s ≠ o ∨ j ≤ i) : ∀ (k t n : Nat) (M : Mm), k < n → t + k = N → ∃ M', m_X5_copy_L121 n (nI s) (nI i) (nI o) (nI j) (nI N) 0 (nI t) M = some (nI N, M') ∧ (∀ a, M' 15 a = if 40 * o + j + t ≤ a ∧ a < 40 * o + j + N then M 15 (40 * s + i + (a - (40 * o + j))) else M 15 a) ∧ ∀ a, a ≠ 15 → M' a = M a := by
  intro k
  induction k with
  | zero =>
    intro t n M hn ht
    obtain ⟨n, rfl⟩ : ∃ m, n = m + 1 := ⟨n - 1, by omega⟩
    show ∃ M', m_X5_copy_B121 (m_X5_copy_L121 n) (nI s) (nI i) (nI o) (nI j) (nI N) 0 (nI t) M = _ ∧ _
    rw [m_X5_copy_B121, if_pos (nI_le (by omega) (by omega))]
    exact ⟨M, rfl, fun a => by rw [if_neg (by omega)], fun _ _ => rfl⟩
  | succ k ih =>
    intro t n M hn ht
    obtain ⟨n, rfl⟩ : ∃ m, n = m + 1 := ⟨n - 1, by omega⟩
    show ∃ M', m_X5_copy_B121 (m_X5_copy_L121 n) (nI s) (nI i) (nI o) (nI j) (nI N) 0 (nI t) M = _ ∧ _
    rw [m_X5_copy_B121, if_neg (nI_ge (by omega) (by omega)), if_pos rfl]
    unfold m_X5_copy_J145
    rw [lt1_d, pl40, pl40, nI_add, nI_add, nI_add, nI_add, inr_n (by omega) (by omega), inr_n (by omega) (by omega), gd_t, gd_t, lt1_d, lt1_d, nI_1, nI_clamp (by omega), nI_clamp (by omega)]
    obtain ⟨M', m1, m2, m3⟩ := ih (t + 1) n (up M 15 (40 * o + j + t) (M 15 (40 * s + i + t))) (by omega) (by omega)
    refine ⟨M', m1, fun a => ?_, fun a ha => by rw [m3 a ha]; funext b; exact up_k ha⟩
    rw [m2 a]
    by_cases e1 : 40 * o + j + (t + 1) ≤ a ∧ a < 40 * o + j + N
    · rw [if_pos e1, if_pos (by omega), up_j (by omega)]
    · rw [if_neg e1]
      by_cases e2 : a = 40 * o + j + t
      · subst e2
        rw [up_s, if_pos (by omega)]
        congr 1
        omega
      · rw [up_j e2, if_neg (by omega)]
theorem x5_cp_dn {s i j N : Nat} (hs : s < 4) (hi : i + N ≤ 40) (hj : j + N ≤ 40) (hd : i < j) : ∀ (k t n : Nat) (M : Mm), k < n → t + k = N → ∃ M', m_X5_copy_L121 n (nI s) (nI i) (nI s) (nI j) (nI N) 1 (nI t) M = some (nI N, M') ∧ (∀ a, M' 15 a = if 40 * s + j ≤ a ∧ a < 40 * s + j + k then M 15 (40 * s + i + (a - (40 * s + j))) else M 15 a) ∧ ∀ a, a ≠ 15 → M' a = M a := by
  intro k
  induction k with
  | zero =>
    intro t n M hn ht
    obtain ⟨n, rfl⟩ : ∃ m, n = m + 1 := ⟨n - 1, by omega⟩
    show ∃ M', m_X5_copy_B121 (m_X5_copy_L121 n) (nI s) (nI i) (nI s) (nI j) (nI N) 1 (nI t) M = _ ∧ _
    rw [m_X5_copy_B121, if_pos (nI_le (by omega) (by omega))]
    exact ⟨M, rfl, fun a => by rw [if_neg (by omega)], fun _ _ => rfl⟩
  | succ k ih =>
    intro t n M hn ht
    obtain ⟨n, rfl⟩ : ∃ m, n = m + 1 := ⟨n - 1, by omega⟩
    show ∃ M', m_X5_copy_B121 (m_X5_copy_L121 n) (nI s) (nI i) (nI s) (nI j) (nI N) 1 (nI t) M = _ ∧ _
    rw [m_X5_copy_B121, if_neg (nI_ge (by omega) (by omega)), if_neg one_ne0]
    unfold m_X5_copy_J145
    have ek : nI N - 1 - nI t = nI k := by
      rw [show (1 : Int32) = nI 1 from rfl, pk_sub (by omega), pk_sub (by omega)]
      congr 1
      omega
    rw [lt1_d, ek, pl40, nI_add, nI_add, nI_add, nI_add, inr_n (show 40 * s + i + k < 160 by omega) (by omega), inr_n (show 40 * s + j + k < 160 by omega) (by omega), gd_t, gd_t, lt1_d, lt1_d, nI_1, nI_clamp (by omega), nI_clamp (by omega)]
    obtain ⟨M', m1, m2, m3⟩ := ih (t + 1) n (up M 15 (40 * s + j + k) (M 15 (40 * s + i + k))) (by omega) (by omega)
    refine ⟨M', m1, fun a => ?_, fun a ha => by rw [m3 a ha]; funext b; exact up_k ha⟩
    rw [m2 a]
    by_cases e1 : 40 * s + j ≤ a ∧ a < 40 * s + j + k
    · rw [if_pos e1, if_pos (by omega), up_j (by omega)]
    · rw [if_neg e1]
      by_cases e2 : a = 40 * s + j + k
      · subst e2
        rw [up_s, if_pos (by omega)]
        congr 1
        omega
      · rw [up_j e2, if_neg (by omega)]
theorem call_copy {Mx Mr : Mm} (h : Rel Mx Mr) (x1 x2 x3 x4 x5 : Int32) : Ans (m_X4_copy x1 x2 x3 x4 x5 Mx) (m_X5_copy x1 x2 x3 x4 x5 Mr) := by
  obtain ⟨T, tx, hR, hV⟩ := h
  have fin : Rel Mx Mr := ⟨T, tx, hR, hV⟩
  unfold m_X4_copy m_X5_copy
  rcases ix_cases x1 4 (by omega) with q | ⟨s, s1, rfl⟩
  · rw [x4_sn_out q, x5_is_out q, bd_s, bd_s, rc_n, if_pos rfl]
    rcases ix_cases x3 4 (by omega) with q | ⟨o, o1, rfl⟩
    · rw [x4_sn_out q, bd_s, rc_n]
      exact ⟨_, _, _, rfl, rfl, fin⟩
    · rw [(x4_sn_in o1).1, bd_s, rc_s, (x4_sn_in (M := Mx) o1).2, gd_t]
      exact ⟨_, _, _, rfl, rfl, fin⟩
  rw [(x4_sn_in s1).1, x5_is_in s1, bd_s, bd_s, rc_s, (x4_sn_in (M := Mx) s1).2, gd_t, if_neg one_ne0]
  rcases ix_cases x3 4 (by omega) with q | ⟨o, o1, rfl⟩
  · rw [x4_sn_out q, x5_is_out q, bd_s, bd_s, rc_n, if_pos rfl]
    exact ⟨_, _, _, rfl, rfl, fin⟩
  rw [(x4_sn_in o1).1, x5_is_in o1, bd_s, bd_s, rc_s, (x4_sn_in (M := Mx) o1).2, gd_t, if_neg one_ne0, inr_n s1 (by omega), inr_n o1 (by omega), gd_t, nI_clamp (by omega), nI_clamp (by omega)]
  rcases ShR.mi (hR.2.2.1 s s1) with ⟨a, b⟩ | ⟨a, b, ⟨k, k1, k2, k3⟩, z, n1, n2, n3, n4⟩
  · rw [b, bd_s, if_neg one_ne0, if_pos a]
    exact ⟨_, _, _, rfl, rfl, fin⟩
  rw [b, bd_s, if_pos rfl, a, if_neg one_ne0, gd_t]
  rcases ShR.mi (hR.2.2.1 o o1) with ⟨a', b'⟩ | ⟨a', b', ⟨k', k1', k2', k3'⟩, z', n1', n2', n3', n4'⟩
  · rw [b', bd_s, if_neg one_ne0, if_pos a']
    exact ⟨_, _, _, rfl, rfl, fin⟩
  rw [b', bd_s, if_pos rfl, a', if_neg one_ne0, gd_t, gd_t, k2, k3, k2', k3', n2, n2']
  by_cases ek' : ¬ nI k = nI k'
  · rw [if_neg ek', if_neg ek']
    exact ⟨_, _, _, rfl, rfl, fin⟩
  have ek : nI k = nI k' := Classical.not_not.mp ek'
  rw [if_pos ek, if_pos ek]
  have kk : k = k' := (nI_eq (by omega) (by omega)).mp ek
  subst kk
  by_cases en : x5 < 0
  · rw [if_pos en, run_neg (Or.inr en), bd_s, if_pos rfl]
    exact ⟨_, _, _, rfl, rfl, fin⟩
  rw [if_neg en]
  by_cases ei : x2 < 0
  · rw [if_pos ei, run_neg (Or.inl ei), bd_s, if_pos rfl]
    exact ⟨_, _, _, rfl, rfl, fin⟩
  rw [if_neg ei]
  by_cases ej : x4 < 0
  · rw [if_pos ej]
    rcases run_or (v := 36 + 2 * s) (x := x2) (n := x5) (M := Mx) with e | e
    · rw [e, bd_s, if_pos rfl]
      exact ⟨_, _, _, rfl, rfl, fin⟩
    · rw [e, bd_s, if_neg one_ne0, run_neg (Or.inl ej), bd_s, if_pos rfl]
      exact ⟨_, _, _, rfl, rfl, fin⟩
  rw [if_neg ej]
  obtain ⟨N, N1, rfl⟩ := nI_of en
  obtain ⟨i, i1, rfl⟩ := nI_of ei
  obtain ⟨j, j1, rfl⟩ := nI_of ej
  rw [gd_t]
  by_cases r1 : z < i + N
  · rw [run_out i1 N1 n3 n1 r1, bd_s, if_pos rfl, if_pos (show nI z - nI N < nI i by rw [Int32.lt_iff_toInt_lt, sub_ti (by omega) N1, nI_toInt i1]; omega)]
    exact ⟨_, _, _, rfl, rfl, fin⟩
  rw [run_in n3 n1 (by omega), bd_s, if_neg one_ne0, if_neg (show ¬ nI z - nI N < nI i by rw [Int32.lt_iff_toInt_lt, sub_ti (by omega) N1, nI_toInt i1]; omega), gd_t]
  by_cases r2 : z' < j + N
  · rw [run_out j1 N1 n3' n1' r2, bd_s, if_pos rfl, if_neg (show ¬ nI j ≤ nI z' - nI N by rw [Int32.le_iff_toInt_le, sub_ti (by omega) N1, nI_toInt j1]; omega)]
    exact ⟨_, _, _, rfl, rfl, fin⟩
  rw [run_in n3' n1' (by omega), bd_s, if_neg one_ne0, if_pos (show nI j ≤ nI z' - nI N by rw [Int32.le_iff_toInt_le, sub_ti (by omega) N1, nI_toInt j1]; omega)]
  have hi : i + N ≤ 40 := by omega
  have hj : j + N ≤ 40 := by omega
  have hcp : cpok (nI i) (nI j) (nI N) 40 40 = true := by
    unfold cpok
    rw [decide_eq_false (nI_pos (by omega)), decide_eq_false (nI_pos (by omega)), decide_eq_false (nI_pos (by omega)), nI_clamp (by omega), nI_clamp (by omega), nI_clamp (by omega), decide_eq_true hi, decide_eq_true hj]
    rfl
  rw [hcp, gd_t, lt1_d, nI_clamp (by omega), nI_clamp (by omega), nI_clamp (by omega)]
  have key : ∃ M', (if nI s = nI o then if nI j ≤ nI i then m_X5_copy_J115 (nI s) (nI i) (nI o) (nI j) (nI N) Mr else m_X5_copy_J116 (nI s) (nI i) (nI o) (nI j) (nI N) 1 Mr else m_X5_copy_J115 (nI s) (nI i) (nI o) (nI j) (nI N) Mr) = some (nI N, M') ∧ (∀ a, M' 15 a = if 40 * o + j ≤ a ∧ a < 40 * o + j + N then Mr 15 (40 * s + i + (a - (40 * o + j))) else Mr 15 a) ∧ ∀ a, a ≠ 15 → M' a = Mr a := by
    unfold m_X5_copy_J115 m_X5_copy_J116
    by_cases es : s = o
    · subst es
      rw [if_pos rfl]
      by_cases eij : j ≤ i
      · rw [if_pos (nI_le eij (by omega)), lt1_d, lt1_d]
        obtain ⟨M', m1, m2, m3⟩ := x5_cp_up s1 o1 hi hj (Or.inr eij) N 0 FU Mr (by unfold FU; omega) (by omega)
        rw [nI_0] at m1
        exact ⟨M', m1, m2, m3⟩
      · rw [if_neg (nI_ge (by omega) (by omega)), lt1_d, lt1_d]
        obtain ⟨M', m1, m2, m3⟩ := x5_cp_dn s1 hi hj (by omega) N 0 FU Mr (by unfold FU; omega) (by omega)
        rw [nI_0] at m1
        exact ⟨M', m1, m2, m3⟩
    · rw [if_neg (fun q => es ((nI_eq (by omega) (by omega)).mp q)), lt1_d, lt1_d]
      obtain ⟨M', m1, m2, m3⟩ := x5_cp_up s1 o1 hi hj (Or.inl es) N 0 FU Mr (by unfold FU; omega) (by omega)
      rw [nI_0] at m1
      exact ⟨M', m1, m2, m3⟩
  obtain ⟨M', m1, m2, m3⟩ := key
  rw [m1]
  refine ⟨_, _, _, rfl, rfl, Rel.sh1 hR hV o1 (fun a _ a2 => upr_ne (by omega)) ⟨fun a ha => m3 a (by omega), fun b _ => by rw [m3 12 (by decide), m3 13 (by decide), m3 14 (by decide)]; exact ⟨rfl, rfl, rfl⟩, fun b hb => by rw [m2, if_neg (by omega)]⟩ (Or.inr ⟨?_, ⟨k, k1', ?_, ?_⟩, z', n1', ?_, ?_, fun b hb => ?_⟩)⟩
  · rw [m3 12 (by decide)]; exact a'
  · rw [m3 13 (by decide)]; exact k2'
  · rw [upr_ne (by omega)]; exact k3'
  · rw [m3 14 (by decide)]; exact n2'
  · rw [upr_ne (by omega)]; exact n3'
  · rw [m2, show 37 + 2 * o = 36 + 2 * o + 1 by omega]
    show (upr Mx (36 + 2 * o + 1) _) (36 + 2 * o + 1) b = _
    unfold upr
    rw [if_pos rfl]
    by_cases e : j ≤ b ∧ b < j + N
    · rw [pk_cpy_in e.1 e.2, if_pos (by omega), show 36 + 2 * s + 1 = 37 + 2 * s by omega, n4 _ (by omega)]
      congr 1
      omega
    · rw [pk_cpy_out (by omega), if_neg (by omega), show 36 + 2 * o + 1 = 37 + 2 * o by omega, n4' _ hb]
/-! one more comes to live there -/
theorem up_ck {M : Mm} {k k' a b : Nat} {x y : Int32} (h : k ≠ k') : up (up M k a x) k' b y = up (up M k' b y) k a x := by
  funext i j
  by_cases e : i = k
  · subst e
    rw [up_k h]
    by_cases e1 : j = a
    · subst e1; rw [up_s, up_s]
    · rw [up_j e1, up_j e1, up_k h]
  · rw [up_k (a := i) (k := k) e]
    by_cases e2 : i = k'
    · subst e2
      by_cases e1 : j = b
      · subst e1; rw [up_s, up_s]
      · rw [up_j e1, up_j e1, up_k e]
    · rw [up_k e2, up_k e2, up_k e]
def addP (s : Vs) (k n h : Int32) : Vs := up (up (up (up s 1 (vP s) k) 2 (vP s) n) 3 (vP s) h) 0 4 (nI (vP s + 1))
theorem addP_P {s : Vs} {k n h : Int32} (hp : vP s < 5) : vP (addP s k n h) = vP s + 1 ∧ vL (addP s k n h) = vL s := by
  unfold addP
  refine ⟨?_, ?_⟩
  · show (up _ 0 4 _ 0 4).toNatClampNeg = _
    rw [up_s, nI_clamp (by omega)]
  · rw [vL_up0 (by decide), vL_up (by decide), vL_up (by decide), vL_up (by decide)]
theorem addP_0 {s : Vs} {k n h : Int32} {j : Nat} (hj : j ≠ 4) : addP s k n h 0 j = s 0 j := by
  unfold addP
  rw [up_j hj, up_k (by decide), up_k (by decide), up_k (by decide)]
theorem addP_4 {s : Vs} {k n h : Int32} {i j : Nat} (hi : 4 ≤ i) : addP s k n h i j = s i j := by
  unfold addP
  rw [up_k (by omega), up_k (by omega), up_k (by omega), up_k (by omega)]
theorem addP_r {s : Vs} {k n h : Int32} {i j : Nat} (h1 : 1 ≤ i) (h3 : i ≤ 3) : addP s k n h i j = if j = vP s then (if i = 1 then k else if i = 2 then n else h) else s i j := by
  unfold addP
  rw [up_k (by omega)]
  by_cases e : j = vP s
  · subst e
    rw [if_pos rfl]
    rcases (show i = 1 ∨ i = 2 ∨ i = 3 by omega) with rfl | rfl | rfl
    · rw [up_k (by decide), up_k (by decide), up_s, if_pos rfl]
    · rw [up_k (by decide), up_s, if_neg (by decide), if_pos rfl]
    · rw [up_s, if_neg (by decide), if_neg (by decide)]
  · rw [if_neg e]
    have : ∀ (t : Vs) (a : Nat) (x : Int32), up t a (vP s) x i j = t i j := by
      intro t a x
      by_cases q : i = a
      · subst q; exact up_j e
      · exact up_k q
    rw [this, this, this]
theorem nrm_addP {s : Vs} {k n h : Int32} (hp : vP s < 5) : nrm (addP s k n h) = addP (nrm s) k n h := by
  obtain ⟨p1, p2⟩ := addP_P (s := s) (k := k) (n := n) (h := h) hp
  funext i j
  by_cases i0 : i = 0
  · subst i0
    by_cases j4 : j = 4
    · subst j4
      rw [nrm_0 (by omega)]
      unfold addP
      rw [up_s, up_s, nrm_P]
    · rw [addP_0 j4]
      by_cases hj : 1 ≤ j ∧ j ≤ 6
      · rw [nrm_0 hj, nrm_0 hj, addP_0 j4]
      · simp [nrm, hj]
  · by_cases i3 : i ≤ 3
    · rw [addP_r (by omega) i3, nrm_P]
      by_cases hj : j < vP s + 1
      · rw [nrm_p (by omega) i3 (by omega), addP_r (by omega) i3]
        by_cases e : j = vP s
        · rw [if_pos e, if_pos e]
        · rw [if_neg e, if_neg e, nrm_p (by omega) i3 (by omega)]
      · rw [if_neg (by omega)]
        simp [nrm, i0, i3, p1, hj, show ¬ j < vP s by omega]
    · rw [addP_4 (by omega)]
      by_cases i8 : i ≤ 8
      · by_cases hj : j < vL s
        · rw [nrm_l (by omega) i8 (by omega), nrm_l (by omega) i8 hj, addP_4 (by omega)]
        · simp [nrm, i0, i3, i8, p2, hj]
      · simp [nrm, i0, i3, i8]
theorem who_no {s : Vs} {x : Int32} (h : whoS s x = -1) (h5 : vP s ≤ 5) : ∀ p, p < vP s → s 3 p ≠ x := by
  have : ∀ (k i : Nat), i + k ≤ 5 → whoA s x k i = -1 → ∀ p, i ≤ p → p < i + k → s 3 p ≠ x := by
    intro k
    induction k with
    | zero => intro i _ _ p h1 h2; exact absurd h2 (by omega)
    | succ k ih =>
      intro i h5 hw p h1 h2 e
      unfold whoA at hw
      by_cases q : s 3 i = x
      · rw [if_pos q] at hw
        exact nI_m1 (by omega) hw
      · rw [if_neg q] at hw
        by_cases r : p = i
        · subst r; exact q e
        · exact ih (i + 1) (by omega) hw p (by omega) (by omega) e
  intro p hp
  exact this (vP s) 0 (by omega) h p (by omega) (by omega)
theorem WF.adp {T : Nat} {s : Vs} {k n h : Int32} (hw : WF T s) (hp : vP s < 5) (hk : ∃ a, a < 6 ∧ k = nI a) (hn : ∃ a, a < 10 ∧ n = nI a) (hh : ∃ a, a < 8 ∧ h = nI a) (hno : whoS s h = -1) : WF T (addP s k n h) := by
  obtain ⟨p1, p2⟩ := addP_P (s := s) (k := k) (n := n) (h := h) hp
  obtain ⟨h1, h2, h3, h4, h5⟩ := hw
  have no := who_no hno (by omega)
  have e3 : ∀ p, addP s k n h 3 p = if p = vP s then h else s 3 p := fun p => by rw [addP_r (by omega) (by omega), if_neg (show ¬ (3 : Nat) = 1 by decide), if_neg (show ¬ (3 : Nat) = 2 by decide)]
  have e2 : ∀ p, addP s k n h 2 p = if p = vP s then n else s 2 p := fun p => by rw [addP_r (by omega) (by omega), if_neg (show ¬ (2 : Nat) = 1 by decide), if_pos rfl]
  have e1 : ∀ p, addP s k n h 1 p = if p = vP s then k else s 1 p := fun p => by rw [addP_r (by omega) (by omega), if_pos rfl]
  have e04 : addP s k n h 0 4 = nI (vP s + 1) := by unfold addP; exact up_s
  unfold WF Apart KIND
  rw [p1, p2]
  refine ⟨⟨e04, by omega, ?_, h1.2.2.2⟩, ?_, ?_, ?_, ?_⟩
  · rw [addP_0 (by decide)]; exact h1.2.2.1
  · rw [addP_0 (by decide), addP_0 (by decide)]; exact h2
  · intro p q
    rw [e1, e2, e3]
    by_cases e : p = vP s
    · rw [if_pos e, if_pos e, if_pos e]; exact ⟨hk, hn, hh⟩
    · rw [if_neg e, if_neg e, if_neg e]; exact h3 p (by omega)
  · intro p q hp' hq'
    rw [e3, e3]
    intro e
    by_cases a : p = vP s
    · by_cases b : q = vP s
      · omega
      · rw [if_pos a, if_neg b] at e
        exact absurd e.symm (no q (by omega))
    · by_cases b : q = vP s
      · rw [if_neg a, if_pos b] at e
        exact absurd e (no p (by omega))
      · rw [if_neg a, if_neg b] at e
        exact h4 p q (by omega) (by omega) e
  · intro m hm
    rw [addP_4 (by omega), addP_4 (by omega), addP_4 (by omega), addP_4 (by omega), addP_4 (by omega)]
    obtain ⟨⟨a, a1, a2⟩, ⟨b, b1, b2⟩, g⟩ := h5 m hm
    exact ⟨⟨a, by omega, a2⟩, ⟨b, by omega, b2⟩, g⟩
theorem x3_ctl {M : Mm} {v P L : Nat} {k n h : Int32} (hc : CV M v P L) (hp : P < 5) (hv : 7 ≤ v) : ∃ M', m_X3_comesToLive v k n h M = some (nI P, M') ∧ nx M' v = addP (nx M v) k n h ∧ FV v M M' := by
  have e4 : ∀ (a : Nat) (x : Int32), a ≠ v → ∀ N : Mm, up N a P x v 4 = N v 4 := fun a x ha N => up_k (Ne.symm ha)
  refine ⟨up (up (up (up M (v + 1) P k) (v + 2) P n) (v + 3) P h) v 4 (nI (P + 1)), ?_, ?_, ?_⟩
  · unfold m_X3_comesToLive
    rw [lt1_d, hc.1, if_neg (nI_pos (by omega)), if_pos (show nI P < (5 : Int32) from nI_lt (b := 5) (by omega) (by omega)), inr_n hp (by omega), gd_t, lt1_d, gd_t, lt1_d, gd_t, lt1_d, lt1_d, nI_clamp (by omega), e4 _ _ (by omega), e4 _ _ (by omega), e4 _ _ (by omega), hc.1, nI_1]
  · have eP : vP (vx M v) = P := by have := hc.P; rw [nx, nrm_P] at this; exact this
    have : vx (up (up (up (up M (v + 1) P k) (v + 2) P n) (v + 3) P h) v 4 (nI (P + 1))) v = addP (vx M v) k n h := by
      unfold addP
      rw [eP]
      show vx (up (up (up (up M (v + 1) P k) (v + 2) P n) (v + 3) P h) (v + 0) 4 (nI (P + 1))) v = _
      rw [vx_up, vx_up, vx_up, vx_up]
    unfold nx
    rw [this, nrm_addP (by omega)]
  · exact ((FV.up (i := 1) hv (by omega)).tr (FV.up (i := 2) hv (by omega))).tr ((FV.up (i := 3) hv (by omega)).tr (FV.up (v := v) (i := 0) hv (by omega)))
theorem person_R {Mx Mr : Mm} (h : Rel Mx Mr) (x y z : Int32) : ∃ (r : Int32) (Mx' Mr' : Mm), m_X4_person x y z Mx = some (r, Mx') ∧ m_X5_person x y z Mr = some (r, Mr') ∧ Rel Mx' Mr' ∧ (∀ k, 36 ≤ k → Mx' k = Mx k) ∧ ∀ k, 12 ≤ k → Mr' k = Mr k := by
  obtain ⟨T, tx, hR, hV⟩ := h
  obtain ⟨v1, v2, v3, hdd⟩ := id hV
  have hw : WF T (nx Mx 7) := by rw [v1]; exact v2
  have cx := hV.cx
  have cm := hV.cm
  have h5 := cm.2.1
  have h8 := cm.2.2.2
  have fin : Rel Mx Mr := ⟨T, tx, hR, hV⟩
  unfold m_X4_person m_X5_person
  rcases ix_cases x 6 (by omega) with q | ⟨a, a1, rfl⟩
  · rw [x5_in_out (n := 6) (b := 5) (by decide) (by omega) q, bd_s, if_pos rfl]
    rcases rg_out (n := 5) (by omega) q with q | ⟨q1, q2, q3⟩
    · rw [if_pos q]
      exact ⟨_, _, _, rfl, rfl, fin, fun _ _ => rfl, fun _ _ => rfl⟩
    · rw [if_neg q1, if_pos (show (5 : Int32) < x from q3)]
      exact ⟨_, _, _, rfl, rfl, fin, fun _ _ => rfl, fun _ _ => rfl⟩
  have ra := rg_in (n := 5) a1 (by omega)
  rw [x5_in_in (n := 5) (b := 5) (by decide) (by omega) (by omega), bd_s, if_neg one_ne0, if_neg ra.1, if_neg (show ¬ (5 : Int32) < nI a from ra.2.2)]
  rcases ix_cases y 10 (by omega) with q | ⟨b, b1, rfl⟩
  · rw [x5_in_out (n := 10) (b := 9) (by decide) (by omega) q, bd_s, if_pos rfl]
    rcases rg_out (n := 9) (by omega) q with q | ⟨q1, q2, q3⟩
    · rw [if_pos q]
      exact ⟨_, _, _, rfl, rfl, fin, fun _ _ => rfl, fun _ _ => rfl⟩
    · rw [if_neg q1, if_neg (show ¬ y ≤ (9 : Int32) from q2)]
      exact ⟨_, _, _, rfl, rfl, fin, fun _ _ => rfl, fun _ _ => rfl⟩
  have rb := rg_in (n := 9) b1 (by omega)
  rw [x5_in_in (n := 9) (b := 9) (by decide) (by omega) (by omega), bd_s, if_neg one_ne0, if_neg rb.1, if_pos (show nI b ≤ (9 : Int32) from rb.2.1)]
  rcases ix_cases z 8 (by omega) with q | ⟨c, c1, rfl⟩
  · rw [x5_in_out (n := 8) (b := 7) (by decide) (by omega) q, bd_s, if_pos rfl]
    by_cases q1 : z < 0
    · rw [if_pos q1]
      exact ⟨_, _, _, rfl, rfl, fin, fun _ _ => rfl, fun _ _ => rfl⟩
    · rw [if_neg q1, if_pos (show (8 : Int32) ≤ z from q.resolve_left q1)]
      exact ⟨_, _, _, rfl, rfl, fin, fun _ _ => rfl, fun _ _ => rfl⟩
  rw [x5_in_in (n := 7) (b := 7) (by decide) (by omega) (by omega), bd_s, if_neg one_ne0, if_neg (nI_pos (by omega)), if_neg (show ¬ (8 : Int32) ≤ nI c from nI_ge (b := 8) (by omega) (by omega)), x3_livesIn cx, x5_whoIn cm v2.2.2.2.1, bd_s, bd_s, v1]
  by_cases hno : whoS (nm Mr) (nI c) = -1
  · rw [if_pos hno, if_pos hno, cm.1]
    by_cases e5 : vP (nm Mr) = 5
    · rw [if_pos (by rw [e5]; rfl)]
      unfold m_X3_comesToLive
      rw [lt1_d, cx.1, if_neg (nI_pos (by omega)), if_neg (show ¬ nI (vP (nm Mr)) < (5 : Int32) from nI_nlt (b := 5) (by omega) (by omega)), bd_s]
      exact ⟨_, _, _, rfl, rfl, fin, fun _ _ => rfl, fun _ _ => rfl⟩
    · rw [if_neg (show ¬ nI (vP (nm Mr)) = (5 : Int32) from fun q => e5 ((nI_eq (b := 5) (by omega) (by omega)).mp q))]
      obtain ⟨M', m1, m2, m3⟩ := x3_ctl (k := nI a) (n := nI b) (h := nI c) cx (by omega) (by omega)
      rw [v1] at m2
      have eP : vP (vm Mr) = vP (nm Mr) := by unfold nm; rw [nrm_P]
      have v2p := v2.adp (by omega) ⟨a, a1, rfl⟩ ⟨b, b1, rfl⟩ ⟨c, c1, rfl⟩ hno
      have c1' := cm.1
      generalize vP (nm Mr) = P at m1 eP c1' h5 e5 ⊢
      have g1 : up Mr 4 (3 * P) (nI b) 0 10 = nI P := by rw [up_k (by decide), c1']
      have g2 : up (up Mr 4 (3 * P) (nI b)) 4 (3 * P + 1) (nI a) 0 10 = nI P := by rw [up_k (by decide), g1]
      have g3 : up (up (up Mr 4 (3 * P) (nI b)) 4 (3 * P + 1) (nI a)) 4 (3 * P + 2) (nI c) 0 10 = nI P := by rw [up_k (by decide), g2]
      rw [m1, bd_s, pl3, inr_n (by omega) (by omega), gd_t, lt1_d, nI_clamp (by omega), g1, pl3, pla1, inr_n (by omega) (by omega), gd_t, lt1_d, nI_clamp (by omega), g2, pl3, pla2, inr_n (by omega) (by omega), gd_t, lt1_d, nI_clamp (by omega), g3, nI_1, lt1_d, up_s, nI_pred]
      refine ⟨_, _, _, rfl, rfl, Rel.chg (s := addP (nm Mr) (nI a) (nI b) (nI c)) hR m3 ((((RK.upr (Or.inl rfl)).tr (RK.upr (Or.inl rfl))).tr (RK.upr (Or.inl rfl))).tr (RK.up0 (by omega))) m2 ?_ ?_ ?_ ?_, fun k hk => m3.1 k (by omega) (by omega) (by omega), fun k hk => ?_⟩
      · have : vm (up (up (up (up Mr 4 (3 * P) (nI b)) 4 (3 * P + 1) (nI a)) 4 (3 * P + 2) (nI c)) 0 10 (nI (P + 1))) = addP (vm Mr) (nI a) (nI b) (nI c) := by
          unfold addP
          rw [vm_up0 (r := 4) (by omega), vm_upr (c := 2) (r := 3) (by omega), vm_upr (c := 1) (r := 1) (by omega), eP]
          have := vm_upr (M := Mr) (l := P) (c := 0) (r := 2) (x := nI b) (by omega)
          rw [Nat.add_zero] at this
          rw [this, up_ck (show (2 : Nat) ≠ 1 by decide)]
        unfold nm
        rw [this, nrm_addP (by omega)]
      · exact v2p
      · rw [addP_0 (by decide)]; exact v3
      · rw [addP_0 (by decide)]; exact hdd
      · funext i
        rw [up_k (by omega), up_k (by omega), up_k (by omega), up_k (by omega)]
  · rw [if_neg hno, if_neg hno]
    exact ⟨_, _, _, rfl, rfl, fin, fun _ _ => rfl, fun _ _ => rfl⟩
theorem call_person {Mx Mr : Mm} (h : Rel Mx Mr) (x y z : Int32) : Ans (m_X4_person x y z Mx) (m_X5_person x y z Mr) := by
  obtain ⟨r, Mx', Mr', a, b, c, -, -⟩ := person_R h x y z
  exact ⟨r, Mx', Mr', a, b, c⟩
/-! hill -/
theorem x0_item {v i z : Nat} {M : Mm} (h : M v 1 = nI z) (hz : z ≤ 40) (hi : i < z) : m_X0_item v (nI i) M = some (M (v + 1) i, M) := by
  have hs : m_X0_has v (nI i) M = some (1, M) := by
    unfold m_X0_has
    rw [h, if_neg (nI_pos (by omega)), if_neg (nI_ge hi (by omega)), if_neg (show ¬ (40 : Int32) ≤ nI i from nI_ge (b := 40) (by omega) (by omega))]
  unfold m_X0_item
  rw [hs, bd_s, if_neg one_ne0, inr_n (by omega) (by omega), gd_t, nI_clamp (by omega)]
theorem hill_L {s N z : Nat} {f : Int32} (hs : s < 4) (hN : N ≤ 5) (hz : z ≤ 40) : ∀ (k t fx fm c : Nat) (A R : Mm), k < fx → k < fm → t + k = N → Rel A R → R 14 s = nI z → A (36 + 2 * s) 1 = nI z → (∀ j, j < z → A (36 + 2 * s + 1) j = R 15 (40 * s + j)) → (t = 0 ∨ ∃ a, f = nI a ∧ a + 3 * t ≤ z) → Ans (m_X4_hill_L75 (36 + 2 * s) fx (nI N) (nI c) (f + nI (3 * t)) (nI t) A) (m_X5_hill_L75 fm (nI s) f (nI N) (nI c) (nI t) R) := by
  intro k
  induction k with
  | zero =>
    intro t fx fm c A R h1 h2 ht hr s14 z1 it hf
    obtain ⟨fx, rfl⟩ : ∃ m, fx = m + 1 := ⟨fx - 1, by omega⟩
    obtain ⟨fm, rfl⟩ : ∃ m, fm = m + 1 := ⟨fm - 1, by omega⟩
    show Ans (m_X4_hill_B75 (36 + 2 * s) (m_X4_hill_L75 (36 + 2 * s) fx) (nI N) (nI c) (f + nI (3 * t)) (nI t) A) (m_X5_hill_B75 (m_X5_hill_L75 fm) (nI s) f (nI N) (nI c) (nI t) R)
    rw [m_X4_hill_B75, m_X5_hill_B75, if_pos (nI_le (by omega) (by omega)), if_pos (nI_le (by omega) (by omega))]
    exact ⟨_, _, _, rfl, rfl, hr⟩
  | succ k ih =>
    intro t fx fm c A R h1 h2 ht hr s14 z1 it hf
    obtain ⟨fx, rfl⟩ : ∃ m, fx = m + 1 := ⟨fx - 1, by omega⟩
    obtain ⟨fm, rfl⟩ : ∃ m, fm = m + 1 := ⟨fm - 1, by omega⟩
    show Ans (m_X4_hill_B75 (36 + 2 * s) (m_X4_hill_L75 (36 + 2 * s) fx) (nI N) (nI c) (f + nI (3 * t)) (nI t) A) (m_X5_hill_B75 (m_X5_hill_L75 fm) (nI s) f (nI N) (nI c) (nI t) R)
    rw [m_X4_hill_B75, m_X5_hill_B75, if_neg (nI_ge (by omega) (by omega)), if_neg (nI_ge (by omega) (by omega)), inr_n hs (by omega), gd_t, nI_clamp (by omega), s14, pl3]
    have hf2 : (f < 0 ∧ f + nI (3 * t) < 0) ∨ ∃ a, f = nI a ∧ a + 3 * t < 2 ^ 31 ∧ (t = 0 ∨ a + 3 * t ≤ z) := by
      rcases hf with rfl | ⟨a, a1, a2⟩
      · by_cases e : f < 0
        · refine Or.inl ⟨e, ?_⟩
          rw [show 3 * 0 = 0 from rfl, nI_0, Int32.add_zero]; exact e
        · obtain ⟨a, a1, a2⟩ := nI_of e
          exact Or.inr ⟨a, a2, by omega, Or.inl rfl⟩
      · exact Or.inr ⟨a, a1, by omega, Or.inr a2⟩
    rcases hf2 with ⟨e1, e2⟩ | ⟨a, rfl, a1, a2⟩
    · rw [if_pos e1, run_neg (Or.inl e2), bd_s, if_pos rfl]
      exact ⟨_, _, _, rfl, rfl, hr⟩
    rw [if_neg (nI_pos (by omega)), nI_add]
    have e3 : nI z - nI (3 * t) - (3 : Int32) = nI z - nI (3 * t + 3) := by
      rw [show (3 : Int32) = nI 3 from rfl, ← nI_add, Int32.sub_sub]
    rw [e3]
    by_cases r : a + 3 * t + 3 ≤ z
    · rw [show m_X0_hasRun (36 + 2 * s) (nI (a + 3 * t)) (3 : Int32) A = some (1, A) from run_in (m := 3) z1 hz r, bd_s, if_neg one_ne0, if_pos (show nI a ≤ nI z - nI (3 * t + 3) by rw [pk_sub (by omega)]; exact nI_le (by omega) (by omega)), x0_item z1 hz (by omega), bd_s, pla1, x0_item z1 hz (by omega), bd_s, pla2, x0_item z1 hz (by omega), bd_s, lt1_d, pl40, nI_add, nI_add]
      simp only [pla1, pla2]
      rw [inr_n (by omega) (by omega), inr_n (by omega) (by omega), inr_n (by omega) (by omega), gd_t, gd_t, gd_t, nI_clamp (by omega), nI_clamp (by omega), nI_clamp (by omega), it _ (by omega), it _ (by omega), it _ (by omega)]
      rw [show 40 * s + (a + 3 * t) = 40 * s + a + 3 * t by omega, show 40 * s + (a + 3 * t + 1) = 40 * s + a + 3 * t + 1 by omega, show 40 * s + (a + 3 * t + 2) = 40 * s + a + 3 * t + 2 by omega]
      obtain ⟨p, A', R', p1, p2, p3, p4, p5⟩ := person_R hr (R 15 (40 * s + a + 3 * t)) (R 15 (40 * s + a + 3 * t + 1)) (R 15 (40 * s + a + 3 * t + 2))
      rw [p1, p2, bd_s, bd_s]
      unfold m_X4_hill_J131 m_X5_hill_J158
      have step : ∀ c, Ans (m_X4_hill_L75 (36 + 2 * s) fx (nI N) (nI c) (nI (a + 3 * t) + 3) (nI t + 1) A') (m_X5_hill_L75 fm (nI s) (nI a) (nI N) (nI c) (nI t + 1) R') := by
        intro c
        rw [nI_1, pla3]
        have := ih (t + 1) fx fm c A' R' (by omega) (by omega) (by omega) p3 (by rw [p5 14 (by decide)]; exact s14) (by rw [p4 _ (by omega)]; exact z1) (fun j hj => by rw [p4 _ (by omega), p5 15 (by decide)]; exact it j hj) (Or.inr ⟨a, rfl, by omega⟩)
        rw [nI_add, show a + 3 * (t + 1) = a + 3 * t + 3 by omega] at this
        exact this
      by_cases e : p < 0
      · rw [if_pos e, if_pos e, lt1_d, lt1_d, lt1_d, lt1_d, Int32.add_zero]
        exact step c
      · rw [if_neg e, if_neg e, lt1_d, lt1_d, lt1_d, lt1_d, lt1_d, nI_1 c]
        exact step (c + 1)
    · rw [show m_X0_hasRun (36 + 2 * s) (nI (a + 3 * t)) (3 : Int32) A = some (0, A) from run_out (m := 3) a1 (by omega) z1 hz (by omega), bd_s, if_pos rfl, if_neg (show ¬ nI a ≤ nI z - nI (3 * t + 3) by rw [Int32.le_iff_toInt_le, sub_ti (by omega) (by omega), nI_toInt (by omega)]; omega)]
      exact ⟨_, _, _, rfl, rfl, hr⟩
theorem call_hill {Mx Mr : Mm} (h : Rel Mx Mr) (x y f w : Int32) : Ans (m_X4_hill x y f w Mx) (m_X5_hill x y f w Mr) := by
  obtain ⟨T, tx, hR, hV⟩ := id h
  unfold m_X4_hill m_X5_hill
  rcases ix_cases x 4 (by omega) with q | ⟨s, s1, rfl⟩
  · rw [x4_sn_out q, x5_is_out q, bd_s, bd_s, rc_n, if_pos rfl]
    exact ⟨_, _, _, rfl, rfl, h⟩
  rw [(x4_sn_in s1).1, x5_is_in s1, bd_s, bd_s, rc_s, (x4_sn_in (M := Mx) s1).2, gd_t, if_neg one_ne0]
  rcases ix_cases y 3 (by omega) with q | ⟨c, c1, rfl⟩
  · rw [x5_in_out (n := 3) (b := 2) (by decide) (by omega) q, bd_s, if_pos rfl]
    rcases rg_out (n := 2) (by omega) q with q | ⟨q1, q2, q3⟩
    · rw [if_pos q]
      exact ⟨_, _, _, rfl, rfl, h⟩
    · rw [if_neg q1, if_pos (show (2 : Int32) < y from q3)]
      exact ⟨_, _, _, rfl, rfl, h⟩
  have rc := rg_in (n := 2) c1 (by omega)
  rw [x5_in_in (n := 2) (b := 2) (by decide) (by omega) (by omega), bd_s, if_neg one_ne0, if_neg rc.1, if_neg (show ¬ (2 : Int32) < nI c from rc.2.2)]
  rcases ix_cases w 6 (by omega) with q | ⟨N, N1, rfl⟩
  · rw [x5_in_out (n := 6) (b := 5) (by decide) (by omega) q, bd_s, if_pos rfl]
    rcases rg_out (n := 5) (by omega) q with q | ⟨q1, q2, q3⟩
    · rw [if_pos q]
      exact ⟨_, _, _, rfl, rfl, h⟩
    · rw [if_neg q1, if_neg (show ¬ w ≤ (5 : Int32) from q2)]
      exact ⟨_, _, _, rfl, rfl, h⟩
  have rN := rg_in (n := 5) N1 (by omega)
  rw [x5_in_in (n := 5) (b := 5) (by decide) (by omega) (by omega), bd_s, if_neg one_ne0, if_neg rN.1, if_pos (show nI N ≤ (5 : Int32) from rN.2.1), inr_n s1 (by omega), gd_t, nI_clamp (by omega)]
  unfold m_X4_hill_J55 m_X5_hill_J57
  rcases ShR.mi (hR.2.2.1 s s1) with ⟨a, b⟩ | ⟨a, b, ⟨k, k1, k2, k3⟩, z, n1, n2, n3, n4⟩
  · rw [b, bd_s, if_neg one_ne0, b, bd_s, if_neg one_ne0, if_pos a, inr_n s1 (by omega), gd_t, nI_clamp (by omega), if_pos a]
    exact ⟨_, _, _, rfl, rfl, h⟩
  rw [b, bd_s, if_pos rfl, a, if_neg one_ne0, gd_t, k2, k3]
  by_cases e : nI k = nI c
  · rw [if_pos e, if_pos e, b, bd_s, if_pos rfl, inr_n s1 (by omega), gd_t, nI_clamp (by omega), a, if_neg one_ne0, lt1_d, lt1_d, lt1_d, lt1_d, lt1_d]
    have := hill_L (s := s) (N := N) (z := z) (f := f) s1 (by omega) n1 N 0 FU FU 0 Mx Mr (by unfold FU; omega) (by unfold FU; omega) (by omega) h n2 n3 (fun j hj => by rw [show 36 + 2 * s + 1 = 37 + 2 * s by omega]; exact n4 j hj) (Or.inl rfl)
    rw [show 3 * 0 = 0 from rfl, nI_0, Int32.add_zero] at this
    exact this
  · rw [if_neg e, if_neg e]
    exact ⟨_, _, _, rfl, rfl, h⟩
