/-! an image, and back -/
theorem TXx.kp {M M' : Mm} {T : Nat} {tx : Tx} (h : TXx M T tx) (e1 : M' 1 0 = M 1 0) (e2 : M' 2 = M 2) (e3 : M' 3 = M 3) : TXx M' T tx := by
  obtain ⟨h1, h2, h3⟩ := h
  refine ⟨by rw [e1]; exact h1, h2, fun N a b c => h3 N ?_ ?_ ?_⟩
  · rw [a, e1]
  · rw [b, e2]
  · rw [c, e3]
theorem TXm.kp {M M' : Mm} {T : Nat} {tx : Tx} (h : TXm M T tx) (e1 : M' 0 3 = M 0 3) (e2 : M' 1 = M 1) (e3 : M' 2 = M 2) : TXm M' T tx := by
  obtain ⟨h1, h2, h3⟩ := h
  refine ⟨by rw [e1]; exact h1, h2, fun N a b c => h3 N ?_ ?_ ?_⟩
  · rw [a, e1]
  · rw [b, e2]
  · rw [c, e3]
theorem RelS.kp {Mx Mr Mx' Mr' : Mm} (h : RelS Mx Mr) (hx : ∀ k, 36 ≤ k → k ≤ 43 → Mx' k = Mx k) (hr : ∀ k, 12 ≤ k → k ≤ 15 → Mr' k = Mr k) : RelS Mx' Mr' := by
  intro s hs
  have := h s hs
  rw [hx (36 + 2 * s) (by omega) (by omega), hx (37 + 2 * s) (by omega) (by omega), hr 12 (by omega) (by omega), hr 13 (by omega) (by omega), hr 14 (by omega) (by omega), hr 15 (by omega) (by omega)]
  exact this
theorem RelT.kp {Mx Mr Mx' Mr' : Mm} (h : RelT Mx Mr) (h5 : Mx' 5 = Mx 5) (h6 : Mx' 6 = Mx 6) (h0 : Mr' 0 6 = Mr 0 6) (h3 : Mr' 3 = Mr 3) : RelT Mx' Mr' := by
  unfold RelT at h ⊢
  rw [h5, h6, h0, h3]
  exact h
theorem nrm_cong {s t : Vs} (h0 : ∀ j, 1 ≤ j → j ≤ 6 → s 0 j = t 0 j) (hp : ∀ i j, 1 ≤ i → i ≤ 3 → j < vP t → s i j = t i j) (hl : ∀ i j, 4 ≤ i → i ≤ 8 → j < vL t → s i j = t i j) : nrm s = nrm t := by
  have eP : vP s = vP t := by unfold vP; rw [h0 4 (by omega) (by omega)]
  have eL : vL s = vL t := by unfold vL; rw [h0 5 (by omega) (by omega)]
  funext i j
  by_cases i0 : i = 0
  · subst i0
    by_cases hj : 1 ≤ j ∧ j ≤ 6
    · rw [nrm_0 hj, nrm_0 hj, h0 j hj.1 hj.2]
    · simp [nrm, hj]
  · by_cases i3 : i ≤ 3
    · by_cases hj : j < vP t
      · rw [nrm_p (by omega) i3 (by omega), nrm_p (by omega) i3 hj, hp i j (by omega) i3 hj]
      · simp [nrm, i0, i3, eP, hj]
    · by_cases i8 : i ≤ 8
      · by_cases hj : j < vL t
        · rw [nrm_l (by omega) i8 (by omega), nrm_l (by omega) i8 hj, hl i j (by omega) i8 hj]
        · simp [nrm, i0, i3, i8, eL, hj]
      · simp [nrm, i0, i3, i8]
theorem x5_img_L28 : ∀ (k i n : Nat) (M : Mm), k < n → i + k = 40 → ∃ M', m_X5_image_L28 n (nI i) M = some (M 0 10, M') ∧ (∀ j, i ≤ j → j < 40 → M' 11 j = M 5 j) ∧ (∀ j, j < i → M' 11 j = M 11 j) ∧ (M' 0 35 = M 0 10 ∧ M' 0 36 = M 0 12 ∧ M' 0 37 = M 0 7 ∧ M' 0 38 = M 0 8 ∧ M' 0 39 = M 0 4) ∧ (∀ a, a ≠ 0 → a ≠ 11 → M' a = M a) ∧ ∀ j, j < 35 → M' 0 j = M 0 j := by
  intro k
  induction k with
  | zero =>
    intro i n M hn hi
    obtain ⟨n, rfl⟩ : ∃ m, n = m + 1 := ⟨n - 1, by omega⟩
    show ∃ M', m_X5_image_B28 (m_X5_image_L28 n) (nI i) M = _ ∧ _
    rw [m_X5_image_B28, if_pos (show (40 : Int32) ≤ nI i from nI_le (a := 40) (by omega) (by omega)), lt1_d, lt1_d, lt1_d, lt1_d, lt1_d]
    simp only [up_j (show (12 : Nat) ≠ 35 by decide), up_j (show (7 : Nat) ≠ 36 by decide), up_j (show (7 : Nat) ≠ 35 by decide), up_j (show (8 : Nat) ≠ 37 by decide), up_j (show (8 : Nat) ≠ 36 by decide), up_j (show (8 : Nat) ≠ 35 by decide), up_j (show (4 : Nat) ≠ 38 by decide), up_j (show (4 : Nat) ≠ 37 by decide), up_j (show (4 : Nat) ≠ 36 by decide), up_j (show (4 : Nat) ≠ 35 by decide), up_j (show (10 : Nat) ≠ 39 by decide), up_j (show (10 : Nat) ≠ 38 by decide), up_j (show (10 : Nat) ≠ 37 by decide), up_j (show (10 : Nat) ≠ 36 by decide), up_j (show (10 : Nat) ≠ 35 by decide)]
    refine ⟨_, rfl, fun j _ _ => absurd ‹j < 40› (by omega), fun j _ => ?_, ⟨?_, ?_, ?_, ?_, ?_⟩, fun a a0 _ => ?_, fun j hj => ?_⟩
    · rw [up_k (by decide), up_k (by decide), up_k (by decide), up_k (by decide), up_k (by decide)]
    · rw [up_j (by decide), up_j (by decide), up_j (by decide), up_j (by decide), up_s]
    · rw [up_j (by decide), up_j (by decide), up_j (by decide), up_s]
    · rw [up_j (by decide), up_j (by decide), up_s]
    · rw [up_j (by decide), up_s]
    · rw [up_s]
    · funext b; rw [up_k a0, up_k a0, up_k a0, up_k a0, up_k a0]
    · rw [up_j (by omega), up_j (by omega), up_j (by omega), up_j (by omega), up_j (by omega)]
  | succ k ih =>
    intro i n M hn hi
    obtain ⟨n, rfl⟩ : ∃ m, n = m + 1 := ⟨n - 1, by omega⟩
    show ∃ M', m_X5_image_B28 (m_X5_image_L28 n) (nI i) M = _ ∧ _
    rw [m_X5_image_B28, if_neg (show ¬ (40 : Int32) ≤ nI i from nI_ge (b := 40) (by omega) (by omega)), inr_n (by omega) (by omega), gd_t, gd_t, lt1_d, lt1_d, nI_1, nI_clamp (by omega)]
    obtain ⟨M', m1, m2, m3, m4, m5, m6⟩ := ih (i + 1) n (up M 11 i (M 5 i)) (by omega) (by omega)
    refine ⟨M', ?_, fun j h1 h2 => ?_, fun j h1 => ?_, ?_, fun a a0 a1 => ?_, fun j hj => ?_⟩
    · rw [m1, up_k (by decide)]
    · by_cases e : j = i
      · subst e; rw [m3 j (by omega), up_s]
      · rw [m2 j (by omega) h2, up_k (by decide)]
    · rw [m3 j (by omega), up_j (by omega)]
    · rw [up_k (by decide), up_k (by decide), up_k (by decide), up_k (by decide), up_k (by decide)] at m4
      exact m4
    · rw [m5 a a0 a1]; funext b; exact up_k a1
    · rw [m6 j hj, up_k (by decide)]
theorem x5_img_L2 : ∀ (k i n : Nat) (M : Mm), k < n → i + k = 15 → ∃ M', m_X5_image_L2 n (nI i) M = some (M 0 10, M') ∧ (∀ j, i ≤ j → j < 15 → M' 10 j = M 4 j) ∧ (∀ j, j < i → M' 10 j = M 10 j) ∧ (∀ j, j < 40 → M' 11 j = M 5 j) ∧ (M' 0 35 = M 0 10 ∧ M' 0 36 = M 0 12 ∧ M' 0 37 = M 0 7 ∧ M' 0 38 = M 0 8 ∧ M' 0 39 = M 0 4) ∧ (∀ a, a ≠ 0 → a ≠ 10 → a ≠ 11 → M' a = M a) ∧ ∀ j, j < 35 → M' 0 j = M 0 j := by
  intro k
  induction k with
  | zero =>
    intro i n M hn hi
    obtain ⟨n, rfl⟩ : ∃ m, n = m + 1 := ⟨n - 1, by omega⟩
    show ∃ M', m_X5_image_B2 (m_X5_image_L2 n) (nI i) M = _ ∧ _
    rw [m_X5_image_B2, if_pos (show (15 : Int32) ≤ nI i from nI_le (a := 15) (by omega) (by omega)), lt1_d]
    obtain ⟨M', m1, m2, m3, m4, m5, m6⟩ := x5_img_L28 40 0 FU M (by unfold FU; omega) (by omega)
    rw [nI_0] at m1
    exact ⟨M', m1, fun j _ _ => absurd ‹j < 15› (by omega), fun j _ => by rw [m5 10 (by decide) (by decide)], fun j hj => m2 j (by omega) hj, m4, fun a a0 a1 a2 => m5 a a0 a2, m6⟩
  | succ k ih =>
    intro i n M hn hi
    obtain ⟨n, rfl⟩ : ∃ m, n = m + 1 := ⟨n - 1, by omega⟩
    show ∃ M', m_X5_image_B2 (m_X5_image_L2 n) (nI i) M = _ ∧ _
    rw [m_X5_image_B2, if_neg (show ¬ (15 : Int32) ≤ nI i from nI_ge (b := 15) (by omega) (by omega)), inr_n (by omega) (by omega), gd_t, gd_t, lt1_d, lt1_d, nI_1, nI_clamp (by omega)]
    obtain ⟨M', m1, m2, m3, m3b, m4, m5, m6⟩ := ih (i + 1) n (up M 10 i (M 4 i)) (by omega) (by omega)
    refine ⟨M', ?_, fun j h1 h2 => ?_, fun j h1 => ?_, fun j hj => ?_, ?_, fun a a0 a1 a2 => ?_, fun j hj => ?_⟩
    · rw [m1, up_k (by decide)]
    · by_cases e : j = i
      · subst e; rw [m3 j (by omega), up_s]
      · rw [m2 j (by omega) h2, up_k (by decide)]
    · rw [m3 j (by omega), up_j (by omega)]
    · rw [m3b j hj, up_k (by decide)]
    · rw [up_k (by decide), up_k (by decide), up_k (by decide), up_k (by decide), up_k (by decide)] at m4
      exact m4
    · rw [m5 a a0 a1 a2]; funext b; exact up_k a1
    · rw [m6 j hj, up_k (by decide)]
theorem call_image {Mx Mr : Mm} (h : Rel Mx Mr) : Ans (m_X4_image Mx) (m_X5_image Mr) := by
  obtain ⟨T, tx, hR, hV⟩ := id h
  obtain ⟨v1, v2, v3, hdd⟩ := id hV
  have hw : WF T (nx Mx 7) := by rw [v1]; exact v2
  have cx := hV.cx
  have cm := hV.cm
  have h5 := cm.2.1
  have h8 := cm.2.2.2
  obtain ⟨A, a1, a2, a3⟩ := x3_take (M := Mx) (v := 25) (w := 7) (by omega) (by omega) hw
  rw [v1, keep0 v3] at a2
  obtain ⟨R, b1, b2, -, b3, ⟨b35, b36, b37, b38, b39⟩, b5, b6⟩ := x5_img_L2 15 0 FU Mr (by unfold FU; omega) (by omega)
  rw [nI_0] at b1
  have n7 : nx (up A 0 5 1) 7 = nm Mr := by
    rw [nx_same (M := Mx) (fun i hi => by funext j; rw [up_k (by omega), a3.1 (7 + i) (by omega) (by omega) (by omega)]), v1]
  have n25 : nx (up A 0 5 1) 25 = nm Mr := by
    rw [nx_same (M := A) (fun i hi => by funext j; rw [up_k (by omega)]), a2]
  have nr : nm R = nm Mr := nm_same (fun j hj => b6 j (by omega)) (b5 4 (by decide) (by decide) (by decide)) (b5 5 (by decide) (by decide) (by decide))
  have eP : vP (vm Mr) = vP (nm Mr) := by unfold nm; rw [nrm_P]
  have eL : vL (vm Mr) = vL (nm Mr) := by unfold nm; rw [nrm_L]
  have nk : nmk R = nm Mr := by
    refine nrm_cong (fun j h1 h2 => ?_) (fun i j h1 h2 h3 => ?_) (fun i j h1 h2 h3 => ?_)
    · rcases (show j = 1 ∨ j = 2 ∨ j = 3 ∨ j = 4 ∨ j = 5 ∨ j = 6 by omega) with rfl | rfl | rfl | rfl | rfl | rfl
      · exact b37
      · exact b38
      · exact b39
      · exact b35
      · exact b36
      · show (0 : Int32) = Mr 0 13
        rw [← v3, (nm_0 (M := Mr)).2.2.2.2.2]
    · rcases (show i = 1 ∨ i = 2 ∨ i = 3 by omega) with rfl | rfl | rfl
      · exact b2 (3 * j + 1) (by omega) (by omega)
      · exact b2 (3 * j) (by omega) (by omega)
      · exact b2 (3 * j + 2) (by omega) (by omega)
    · rcases (show i = 4 ∨ i = 5 ∨ i = 6 ∨ i = 7 ∨ i = 8 by omega) with rfl | rfl | rfl | rfl | rfl
      · exact b3 (5 * j + 1) (by omega)
      · exact b3 (5 * j + 2) (by omega)
      · exact b3 (5 * j + 3) (by omega)
      · exact b3 (5 * j) (by omega)
      · exact b3 (5 * j + 4) (by omega)
  have e4 : up A 0 5 1 7 4 = Mr 0 10 := by
    rw [up_k (by decide), a3.1 7 (by omega) (by omega) (by omega)]
    exact hV.hd.2.2.2.1
  unfold m_X4_image m_X5_image
  rw [a1, bd_s, lt1_d, e4, lt1_d, b1]
  refine ⟨_, _, _, rfl, rfl, T, tx, ⟨⟨?_, ?_⟩, Or.inr ⟨up_s, ?_, ?_, ?_⟩, ?_, ?_⟩, ?_, ?_, ?_, ?_⟩
  · exact (FV.tx (v := 25) (by omega) hR.1.1 a3).kp (up_k (by decide)) (by funext b; exact up_k (by decide)) (by funext b; exact up_k (by decide))
  · exact hR.1.2.kp (b6 3 (by decide)) (b5 1 (by decide) (by decide) (by decide)) (b5 2 (by decide) (by decide) (by decide))
  · rw [n25, nk]
  · rw [nk]; exact v2
  · rw [nk]; exact hdd
  · exact hR.2.2.1.kp (fun k h1 h2 => by funext b; rw [up_k (by omega), a3.1 k (by omega) (by omega) (by omega)]) (fun k h1 h2 => b5 k (by omega) (by omega) (by omega))
  · exact hR.2.2.2.kp (by funext b; rw [up_k (by omega), a3.1 5 (by omega) (by omega) (by omega)]) (by funext b; rw [up_k (by omega), a3.1 6 (by omega) (by omega) (by omega)]) (b6 6 (by decide)) (b5 3 (by decide) (by decide) (by decide))
  · rw [n7, nr]
  · rw [nr]; exact v2
  · rw [nr]; exact v3
  · rw [nr]; exact hdd
theorem x5_bk_L39 : ∀ (k i n : Nat) (M : Mm), k < n → i + k = 40 → ∃ M', m_X5_back_L39 n (nI i) M = some (M 0 35, M') ∧ (∀ j, i ≤ j → j < 40 → M' 5 j = M 11 j) ∧ (∀ j, j < i → M' 5 j = M 5 j) ∧ (M' 0 10 = M 0 35 ∧ M' 0 12 = M 0 36 ∧ M' 0 7 = M 0 37 ∧ M' 0 8 = M 0 38 ∧ M' 0 4 = M 0 39) ∧ (∀ a, a ≠ 0 → a ≠ 5 → M' a = M a) ∧ ∀ j, j ≠ 10 → j ≠ 12 → j ≠ 7 → j ≠ 8 → j ≠ 4 → M' 0 j = M 0 j := by
  intro k
  induction k with
  | zero =>
    intro i n M hn hi
    obtain ⟨n, rfl⟩ : ∃ m, n = m + 1 := ⟨n - 1, by omega⟩
    show ∃ M', m_X5_back_B39 (m_X5_back_L39 n) (nI i) M = _ ∧ _
    rw [m_X5_back_B39, if_pos (show (40 : Int32) ≤ nI i from nI_le (a := 40) (by omega) (by omega)), lt1_d, lt1_d, lt1_d, lt1_d, lt1_d]
    simp only [up_j (show (36 : Nat) ≠ 10 by decide), up_j (show (37 : Nat) ≠ 12 by decide), up_j (show (37 : Nat) ≠ 10 by decide), up_j (show (38 : Nat) ≠ 7 by decide), up_j (show (38 : Nat) ≠ 12 by decide), up_j (show (38 : Nat) ≠ 10 by decide), up_j (show (39 : Nat) ≠ 8 by decide), up_j (show (39 : Nat) ≠ 7 by decide), up_j (show (39 : Nat) ≠ 12 by decide), up_j (show (39 : Nat) ≠ 10 by decide), up_j (show (10 : Nat) ≠ 4 by decide), up_j (show (10 : Nat) ≠ 8 by decide), up_j (show (10 : Nat) ≠ 7 by decide), up_j (show (10 : Nat) ≠ 12 by decide), up_s]
    refine ⟨_, rfl, fun j _ _ => absurd ‹j < 40› (by omega), fun j _ => ?_, ⟨?_, ?_, ?_, ?_, ?_⟩, fun a a0 _ => ?_, fun j h1 h2 h3 h4 h5 => ?_⟩
    · rw [up_k (by decide), up_k (by decide), up_k (by decide), up_k (by decide), up_k (by decide)]
    · rw [up_j (by decide), up_j (by decide), up_j (by decide), up_j (by decide), up_s]
    · rw [up_j (by decide), up_j (by decide), up_j (by decide), up_s]
    · rw [up_j (by decide), up_j (by decide), up_s]
    · rw [up_j (by decide), up_s]
    · rw [up_s]
    · funext b; rw [up_k a0, up_k a0, up_k a0, up_k a0, up_k a0]
    · rw [up_j h5, up_j h4, up_j h3, up_j h2, up_j h1]
  | succ k ih =>
    intro i n M hn hi
    obtain ⟨n, rfl⟩ : ∃ m, n = m + 1 := ⟨n - 1, by omega⟩
    show ∃ M', m_X5_back_B39 (m_X5_back_L39 n) (nI i) M = _ ∧ _
    rw [m_X5_back_B39, if_neg (show ¬ (40 : Int32) ≤ nI i from nI_ge (b := 40) (by omega) (by omega)), inr_n (by omega) (by omega), gd_t, gd_t, lt1_d, lt1_d, nI_1, nI_clamp (by omega)]
    obtain ⟨M', m1, m2, m3, m4, m5, m6⟩ := ih (i + 1) n (up M 5 i (M 11 i)) (by omega) (by omega)
    refine ⟨M', ?_, fun j h1 h2 => ?_, fun j h1 => ?_, ?_, fun a a0 a1 => ?_, fun j h1 h2 h3 h4 h5 => ?_⟩
    · rw [m1, up_k (by decide)]
    · by_cases e : j = i
      · subst e; rw [m3 j (by omega), up_s]
      · rw [m2 j (by omega) h2, up_k (by decide)]
    · rw [m3 j (by omega), up_j (by omega)]
    · rw [up_k (by decide), up_k (by decide), up_k (by decide), up_k (by decide), up_k (by decide)] at m4
      exact m4
    · rw [m5 a a0 a1]; funext b; exact up_k a1
    · rw [m6 j h1 h2 h3 h4 h5, up_k (by decide)]
theorem x5_bk_L13 : ∀ (k i n : Nat) (M : Mm), k < n → i + k = 15 → ∃ M', m_X5_back_L13 n (nI i) M = some (M 0 35, M') ∧ (∀ j, i ≤ j → j < 15 → M' 4 j = M 10 j) ∧ (∀ j, j < i → M' 4 j = M 4 j) ∧ (∀ j, j < 40 → M' 5 j = M 11 j) ∧ (M' 0 10 = M 0 35 ∧ M' 0 12 = M 0 36 ∧ M' 0 7 = M 0 37 ∧ M' 0 8 = M 0 38 ∧ M' 0 4 = M 0 39) ∧ (∀ a, a ≠ 0 → a ≠ 4 → a ≠ 5 → M' a = M a) ∧ ∀ j, j ≠ 10 → j ≠ 12 → j ≠ 7 → j ≠ 8 → j ≠ 4 → M' 0 j = M 0 j := by
  intro k
  induction k with
  | zero =>
    intro i n M hn hi
    obtain ⟨n, rfl⟩ : ∃ m, n = m + 1 := ⟨n - 1, by omega⟩
    show ∃ M', m_X5_back_B13 (m_X5_back_L13 n) (nI i) M = _ ∧ _
    rw [m_X5_back_B13, if_pos (show (15 : Int32) ≤ nI i from nI_le (a := 15) (by omega) (by omega)), lt1_d]
    obtain ⟨M', m1, m2, m3, m4, m5, m6⟩ := x5_bk_L39 40 0 FU M (by unfold FU; omega) (by omega)
    rw [nI_0] at m1
    exact ⟨M', m1, fun j _ _ => absurd ‹j < 15› (by omega), fun j _ => by rw [m5 4 (by decide) (by decide)], fun j hj => m2 j (by omega) hj, m4, fun a a0 a1 a2 => m5 a a0 a2, m6⟩
  | succ k ih =>
    intro i n M hn hi
    obtain ⟨n, rfl⟩ : ∃ m, n = m + 1 := ⟨n - 1, by omega⟩
    show ∃ M', m_X5_back_B13 (m_X5_back_L13 n) (nI i) M = _ ∧ _
    rw [m_X5_back_B13, if_neg (show ¬ (15 : Int32) ≤ nI i from nI_ge (b := 15) (by omega) (by omega)), inr_n (by omega) (by omega), gd_t, gd_t, lt1_d, lt1_d, nI_1, nI_clamp (by omega)]
    obtain ⟨M', m1, m2, m3, m3b, m4, m5, m6⟩ := ih (i + 1) n (up M 4 i (M 10 i)) (by omega) (by omega)
    refine ⟨M', ?_, fun j h1 h2 => ?_, fun j h1 => ?_, fun j hj => ?_, ?_, fun a a0 a1 a2 => ?_, fun j h1 h2 h3 h4 h5 => ?_⟩
    · rw [m1, up_k (by decide)]
    · by_cases e : j = i
      · subst e; rw [m3 j (by omega), up_s]
      · rw [m2 j (by omega) h2, up_k (by decide)]
    · rw [m3 j (by omega), up_j (by omega)]
    · rw [m3b j hj, up_k (by decide)]
    · rw [up_k (by decide), up_k (by decide), up_k (by decide), up_k (by decide), up_k (by decide)] at m4
      exact m4
    · rw [m5 a a0 a1 a2]; funext b; exact up_k a1
    · rw [m6 j h1 h2 h3 h4 h5, up_k (by decide)]
theorem call_back {Mx Mr : Mm} (h : Rel Mx Mr) : Ans (m_X4_back Mx) (m_X5_back Mr) := by
  obtain ⟨T, tx, hR, hV⟩ := id h
  obtain ⟨v1, v2, v3, hdd⟩ := id hV
  unfold m_X4_back m_X5_back
  rcases hR.2.1 with ⟨k1, k2⟩ | ⟨k1, k2, k3, k4⟩
  · rw [k1, k2, if_pos rfl, if_pos rfl]
    exact ⟨_, _, _, rfl, rfl, h⟩
  · have k6 : nmk Mr 0 6 = 0 := by
      show nrm (vmk Mr) 0 6 = 0
      rw [nrm_0 (by omega)]
      rfl
    have e35 : Mr 0 35 = nI (vP (nmk Mr)) := by
      have := k3.1.1
      rw [← this]
      show _ = nrm (vmk Mr) 0 4
      rw [nrm_0 (by omega)]
      rfl
    have h5 := k3.1.2.1
    have h8 := k3.1.2.2.2
    obtain ⟨A, a1, a2, a3⟩ := x3_take (M := Mx) (v := 7) (w := 25) (T := T) (by omega) (by omega) (by rw [k2]; exact k3)
    rw [k2, keep0 k6] at a2
    obtain ⟨R, b1, b2, -, b3, ⟨b10, b12, b7, b8, b4⟩, b5, b6⟩ := x5_bk_L13 15 0 FU Mr (by unfold FU; omega) (by omega)
    rw [nI_0] at b1
    have eP : vP (vmk Mr) = vP (nmk Mr) := by unfold nmk; rw [nrm_P]
    have eL : vL (vmk Mr) = vL (nmk Mr) := by unfold nmk; rw [nrm_L]
    have nr : nm R = nmk Mr := by
      refine nrm_cong (fun j h1 h2 => ?_) (fun i j h1 h2 h3 => ?_) (fun i j h1 h2 h3 => ?_)
      · rcases (show j = 1 ∨ j = 2 ∨ j = 3 ∨ j = 4 ∨ j = 5 ∨ j = 6 by omega) with rfl | rfl | rfl | rfl | rfl | rfl
        · exact b7
        · exact b8
        · exact b4
        · exact b10
        · exact b12
        · show R 0 13 = (0 : Int32)
          rw [b6 13 (by decide) (by decide) (by decide) (by decide) (by decide), ← v3, (nm_0 (M := Mr)).2.2.2.2.2]
      · rcases (show i = 1 ∨ i = 2 ∨ i = 3 by omega) with rfl | rfl | rfl
        · exact b2 (3 * j + 1) (by omega) (by omega)
        · exact b2 (3 * j) (by omega) (by omega)
        · exact b2 (3 * j + 2) (by omega) (by omega)
      · rcases (show i = 4 ∨ i = 5 ∨ i = 6 ∨ i = 7 ∨ i = 8 by omega) with rfl | rfl | rfl | rfl | rfl
        · exact b3 (5 * j + 1) (by omega)
        · exact b3 (5 * j + 2) (by omega)
        · exact b3 (5 * j + 3) (by omega)
        · exact b3 (5 * j) (by omega)
        · exact b3 (5 * j + 4) (by omega)
    have rk : RK Mr R := ⟨fun k hk => b5 k (by omega) (by omega) (by omega), fun j hj => b6 j (by omega) (by omega) (by omega) (by omega) (by omega)⟩
    have e74 : A 7 4 = Mr 0 35 := by
      rw [e35, ← k3.1.1, ← a2, nx_0 (by omega)]
    rw [k1, if_neg one_ne0, e35, if_neg (nI_m1 (by omega)), a1, bd_s, e74, lt1_d, b1]
    exact ⟨_, _, _, rfl, rfl, Rel.chg hR a3 rk a2 nr k3 k6 k4⟩
