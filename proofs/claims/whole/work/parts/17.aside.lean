/-! the class: a village taken over by another one -/
theorem x3_take_L96 {v w : Nat} (hd : v + 8 < w ∨ w + 8 < v) : ∀ (k i n : Nat) (M : Mm), k < n → i + k = 8 → ∃ M', m_X3_takeOver_L96 v w n (nI i) M = some ((), M') ∧ (∀ r j, 4 ≤ r → r ≤ 8 → i ≤ j → j < 8 → M' (v + r) j = M (w + r) j) ∧ ∀ a b, ¬ (v + 4 ≤ a ∧ a ≤ v + 8 ∧ i ≤ b ∧ b < 8) → M' a b = M a b := by
  intro k
  induction k with
  | zero =>
    intro i n M hn hi
    obtain ⟨n, rfl⟩ : ∃ m, n = m + 1 := ⟨n - 1, by omega⟩
    have e2 : (8 : Int32) ≤ nI i := nI_le (a := 8) (by omega) (by omega)
    show ∃ M', m_X3_takeOver_B96 v w (m_X3_takeOver_L96 v w n) (nI i) M = _ ∧ _
    rw [m_X3_takeOver_B96, if_pos e2]
    exact ⟨M, rfl, fun r j _ _ _ _ => absurd ‹j < 8› (by omega), fun _ _ _ => rfl⟩
  | succ k ih =>
    intro i n M hn hi
    obtain ⟨n, rfl⟩ : ∃ m, n = m + 1 := ⟨n - 1, by omega⟩
    have e2 : ¬ (8 : Int32) ≤ nI i := nI_ge (b := 8) (by omega) (by omega)
    show ∃ M', m_X3_takeOver_B96 v w (m_X3_takeOver_L96 v w n) (nI i) M = _ ∧ _
    rw [m_X3_takeOver_B96, if_neg e2, inr_n (by omega) (by omega), nI_clamp (by omega)]
    simp only [gd_t, lt1_d, nI_1]
    generalize h4 : up M (v + 4) i (M (w + 4) i) = M4
    generalize h5 : up M4 (v + 5) i (M4 (w + 5) i) = M5
    generalize h6 : up M5 (v + 6) i (M5 (w + 6) i) = M6
    generalize h7 : up M6 (v + 7) i (M6 (w + 7) i) = M7
    generalize h8 : up M7 (v + 8) i (M7 (w + 8) i) = M8
    obtain ⟨M', m1, m2, m3⟩ := ih (i + 1) n M8 (by omega) (by omega)
    have ew : ∀ r j, 4 ≤ r → r ≤ 8 → M8 (w + r) j = M (w + r) j ∧ M7 (w + r) j = M (w + r) j ∧ M6 (w + r) j = M (w + r) j ∧ M5 (w + r) j = M (w + r) j ∧ M4 (w + r) j = M (w + r) j := by
      intro r j r1 r2
      have a4 : M4 (w + r) j = M (w + r) j := by rw [← h4, up_k (by omega)]
      have a5 : M5 (w + r) j = M (w + r) j := by rw [← h5, up_k (by omega), a4]
      have a6 : M6 (w + r) j = M (w + r) j := by rw [← h6, up_k (by omega), a5]
      have a7 : M7 (w + r) j = M (w + r) j := by rw [← h7, up_k (by omega), a6]
      have a8 : M8 (w + r) j = M (w + r) j := by rw [← h8, up_k (by omega), a7]
      exact ⟨a8, a7, a6, a5, a4⟩
    refine ⟨M', m1, ?_, ?_⟩
    · intro r j r1 r2 j1 j2
      by_cases e : j = i
      · subst e
        rw [m3 (v + r) j (by omega)]
        rcases (show r = 4 ∨ r = 5 ∨ r = 6 ∨ r = 7 ∨ r = 8 by omega) with rfl | rfl | rfl | rfl | rfl
        · rw [← h8, up_k (by omega), ← h7, up_k (by omega), ← h6, up_k (by omega), ← h5, up_k (by omega), ← h4, up_s]
        · rw [← h8, up_k (by omega), ← h7, up_k (by omega), ← h6, up_k (by omega), ← h5, up_s, (ew 5 j (by omega) (by omega)).2.2.2.2]
        · rw [← h8, up_k (by omega), ← h7, up_k (by omega), ← h6, up_s, (ew 6 j (by omega) (by omega)).2.2.2.1]
        · rw [← h8, up_k (by omega), ← h7, up_s, (ew 7 j (by omega) (by omega)).2.2.1]
        · rw [← h8, up_s, (ew 8 j (by omega) (by omega)).2.1]
      · rw [m2 r j r1 r2 (by omega) j2, (ew r j r1 r2).1]
    · intro a b hab
      rw [m3 a b (by omega)]
      have nk : ∀ (N : Mm) (r : Nat) (x : Int32), 4 ≤ r → r ≤ 8 → up N (v + r) i x a b = N a b := by
        intro N r x r1 r2
        by_cases q : a = v + r
        · subst q; exact up_j (by omega)
        · exact up_k q
      rw [← h8, nk _ 8 _ (by omega) (by omega), ← h7, nk _ 7 _ (by omega) (by omega), ← h6, nk _ 6 _ (by omega) (by omega), ← h5, nk _ 5 _ (by omega) (by omega), ← h4, nk _ 4 _ (by omega) (by omega)]
theorem x3_take_L47 {v w : Nat} (hd : v + 8 < w ∨ w + 8 < v) : ∀ (k i n : Nat) (M : Mm), k < n → i + k = 5 → ∃ M', m_X3_takeOver_L47 v w n (nI i) M = some ((), M') ∧ (∀ r j, 4 ≤ r → r ≤ 8 → j < 8 → M' (v + r) j = M (w + r) j) ∧ (∀ r j, 1 ≤ r → r ≤ 3 → i ≤ j → j < 5 → M' (v + r) j = M (w + r) j) ∧ ∀ a b, ¬ (v + 4 ≤ a ∧ a ≤ v + 8 ∧ b < 8) → ¬ (v + 1 ≤ a ∧ a ≤ v + 3 ∧ i ≤ b ∧ b < 5) → M' a b = M a b := by
  intro k
  induction k with
  | zero =>
    intro i n M hn hi
    obtain ⟨n, rfl⟩ : ∃ m, n = m + 1 := ⟨n - 1, by omega⟩
    have e2 : (5 : Int32) ≤ nI i := nI_le (a := 5) (by omega) (by omega)
    show ∃ M', m_X3_takeOver_B47 v w (m_X3_takeOver_L47 v w n) (nI i) M = _ ∧ _
    rw [m_X3_takeOver_B47, if_pos e2, lt1_d]
    obtain ⟨M', m1, m2, m3⟩ := x3_take_L96 hd 8 0 FU M (by unfold FU; omega) (by omega)
    exact ⟨M', m1, fun r j a b c => m2 r j a b (by omega) c, fun r j _ _ _ _ => absurd ‹j < 5› (by omega), fun a b h1 h2 => m3 a b (by omega)⟩
  | succ k ih =>
    intro i n M hn hi
    obtain ⟨n, rfl⟩ : ∃ m, n = m + 1 := ⟨n - 1, by omega⟩
    have e2 : ¬ (5 : Int32) ≤ nI i := nI_ge (b := 5) (by omega) (by omega)
    show ∃ M', m_X3_takeOver_B47 v w (m_X3_takeOver_L47 v w n) (nI i) M = _ ∧ _
    rw [m_X3_takeOver_B47, if_neg e2, inr_n (by omega) (by omega), nI_clamp (by omega)]
    simp only [gd_t, lt1_d, nI_1]
    generalize h1 : up M (v + 1) i (M (w + 1) i) = M1
    generalize h2 : up M1 (v + 2) i (M1 (w + 2) i) = M2
    generalize h3 : up M2 (v + 3) i (M2 (w + 3) i) = M3
    obtain ⟨M', m1, m2, m3, m4⟩ := ih (i + 1) n M3 (by omega) (by omega)
    have ew : ∀ r j, 1 ≤ r → r ≤ 8 → M3 (w + r) j = M (w + r) j ∧ M2 (w + r) j = M (w + r) j ∧ M1 (w + r) j = M (w + r) j := by
      intro r j r1 r2
      have a1 : M1 (w + r) j = M (w + r) j := by rw [← h1, up_k (by omega)]
      have a2 : M2 (w + r) j = M (w + r) j := by rw [← h2, up_k (by omega), a1]
      have a3 : M3 (w + r) j = M (w + r) j := by rw [← h3, up_k (by omega), a2]
      exact ⟨a3, a2, a1⟩
    refine ⟨M', m1, ?_, ?_, ?_⟩
    · intro r j r1 r2 j2
      rw [m2 r j r1 r2 j2, (ew r j (by omega) r2).1]
    · intro r j r1 r2 j1 j2
      by_cases e : j = i
      · subst e
        rw [m4 (v + r) j (by omega) (by omega)]
        rcases (show r = 1 ∨ r = 2 ∨ r = 3 by omega) with rfl | rfl | rfl
        · rw [← h3, up_k (by omega), ← h2, up_k (by omega), ← h1, up_s]
        · rw [← h3, up_k (by omega), ← h2, up_s, (ew 2 j (by omega) (by omega)).2.2]
        · rw [← h3, up_s, (ew 3 j (by omega) (by omega)).2.1]
      · rw [m3 r j r1 r2 (by omega) j2, (ew r j r1 (by omega)).1]
    · intro a b hab hab2
      rw [m4 a b hab (by omega)]
      have nk : ∀ (N : Mm) (r : Nat) (x : Int32), 1 ≤ r → r ≤ 3 → up N (v + r) i x a b = N a b := by
        intro N r x r1 r2
        by_cases q : a = v + r
        · subst q; exact up_j (by omega)
        · exact up_k q
      rw [← h3, nk _ 3 _ (by omega) (by omega), ← h2, nk _ 2 _ (by omega) (by omega), ← h1, nk _ 1 _ (by omega) (by omega)]
/-- all of w is in v then, with no keeping; nothing else changes -/
theorem x3_take {M : Mm} {v w T : Nat} (hv : 7 ≤ v) (hd : v + 8 < w ∨ w + 8 < v) (hw : WF T (nx M w)) : ∃ M', m_X3_takeOver v w M = some ((), M') ∧ nx M' v = up (nx M w) 0 6 0 ∧ FV v M M' := by
  have hc := hw.cv
  generalize hM1 : up (up (up (up (up (up M v 1 (M w 1)) v 2 (M w 2)) v 3 (M w 3)) v 4 (M w 4)) v 5 (M w 5)) v 6 0 = M1
  have ew : ∀ r j, M1 (w + r) j = if r ≤ 8 then M (w + r) j else M1 (w + r) j := by
    intro r j
    split
    · rw [← hM1, up_k (by omega), up_k (by omega), up_k (by omega), up_k (by omega), up_k (by omega), up_k (by omega)]
    · rfl
  have eo : ∀ a b, a ≠ v → M1 a b = M a b := by
    intro a b h
    rw [← hM1, up_k h, up_k h, up_k h, up_k h, up_k h, up_k h]
  obtain ⟨M', m1, m2, m3, m4⟩ := x3_take_L47 hd 5 0 FU M1 (by unfold FU; omega) (by omega)
  have body : m_X3_takeOver v w M = m_X3_takeOver_L47 v w FU (nI 0) M1 := by
    unfold m_X3_takeOver
    rw [lt1_d, lt1_d, lt1_d, lt1_d, lt1_d, lt1_d, lt1_d]
    simp only [up_k (show w ≠ v by omega)]
    rw [hM1, nI_0]
  refine ⟨M', by rw [body]; exact m1, ?_, ?_⟩
  · have s0 : ∀ j, 1 ≤ j → j ≤ 6 → M' v j = if j = 6 then 0 else M w j := by
      intro j j1 j2
      rw [m4 v j (by omega) (by omega), ← hM1]
      rcases (show j = 1 ∨ j = 2 ∨ j = 3 ∨ j = 4 ∨ j = 5 ∨ j = 6 by omega) with rfl | rfl | rfl | rfl | rfl | rfl <;> simp [up]
    have eP : vP (vx M' v) = vP (nx M w) := by
      unfold vP
      rw [nx_0 (by omega)]
      show (M' v 4).toNatClampNeg = _
      rw [s0 4 (by omega) (by omega), if_neg (by decide)]
    have eL : vL (vx M' v) = vL (nx M w) := by
      unfold vL
      rw [nx_0 (by omega)]
      show (M' v 5).toNatClampNeg = _
      rw [s0 5 (by omega) (by omega), if_neg (by decide)]
    have h5 := hc.2.1
    have h8 := hc.2.2.2
    funext i j
    unfold nx
    show nrm (vx M' v) i j = up (nx M w) 0 6 0 i j
    by_cases hi : i = 0
    · subst hi
      by_cases hj : 1 ≤ j ∧ j ≤ 6
      · rw [nrm_0 hj]
        show M' v j = _
        rw [s0 j hj.1 hj.2]
        by_cases h6 : j = 6
        · subst h6; rw [if_pos rfl, up_s]
        · rw [if_neg h6, up_j h6, nx_0 hj]
      · rw [up_j (by omega)]
        simp [nx, nrm, hj]
    · rw [up_k hi]
      by_cases h3 : i ≤ 3
      · by_cases hj : j < vP (nx M w)
        · rw [nrm_p (by omega) h3 (by omega), hc.r (by omega) h3 hj]
          show M' (v + i) j = _
          rw [m3 i j (by omega) h3 (by omega) (by omega), eo _ _ (by omega)]
        · have hj2 : ¬ j < vP (vx M' v) := by omega
          have hj3 : ¬ j < vP (vx M w) := by rw [nx, nrm_P] at hj; exact hj
          simp [nx, nrm, hi, h3, hj2, hj3]
      · by_cases h9 : i ≤ 8
        · by_cases hj : j < vL (nx M w)
          · rw [nrm_l (by omega) h9 (by omega), hc.q (by omega) h9 hj]
            show M' (v + i) j = _
            rw [m2 i j (by omega) h9 (by omega), eo _ _ (by omega)]
          · have hj2 : ¬ j < vL (vx M' v) := by omega
            have hj3 : ¬ j < vL (vx M w) := by rw [nx, nrm_L] at hj; exact hj
            simp [nx, nrm, hi, h3, h9, hj2, hj3]
        · simp [nx, nrm, hi, h3, h9]
  · refine ⟨fun k _ _ c => ?_, fun j _ => ?_⟩
    · funext b
      rw [m4 k b (by omega) (by omega), eo _ _ (by omega)]
    · rw [m4 1 j (by omega) (by omega), eo _ _ (by omega)]
theorem FV.nxe {v u : Nat} {M M' : Mm} (h : FV v M M') (hu : 5 ≤ u) (hd : u + 8 < v ∨ v + 8 < u) : nx M' u = nx M u := by
  have e : ∀ i j, i ≤ 8 → vx M' u i j = vx M u i j := by
    intro i j hi
    show M' (u + i) j = M (u + i) j
    rw [h.1 (u + i) (by omega) (by omega) (by omega)]
  have eP : vP (vx M' u) = vP (vx M u) := by unfold vP; rw [e 0 4 (by omega)]
  have eL : vL (vx M' u) = vL (vx M u) := by unfold vL; rw [e 0 5 (by omega)]
  funext i j
  show nrm (vx M' u) i j = nrm (vx M u) i j
  unfold nrm
  rw [eP, eL]
  by_cases h8 : i ≤ 8
  · by_cases hi : i = 0
    · subst hi
      rw [if_pos rfl, if_pos rfl, e 0 j (by omega)]
    · rw [if_neg hi, if_neg hi, e i j h8]
  · simp [show ¬ i = 0 by omega, show ¬ i ≤ 3 by omega, h8]
