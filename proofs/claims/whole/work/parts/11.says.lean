theorem neg1_lt : (-1 : Int32) < 0 := by decide
theorem lt1_d {α β : Type} (x : α) (f : α → β) : lt1 x f = f x := rfl
theorem pc_0 : pcS 0 = 0 := by decide +kernel
theorem j6_0 {M : Mm} : m_J6_bitCount_0f7a4 0 M = some (0, M) := by rw [j6_pc, pc_0]
theorem x3_ruled_N {M : Mm} {v P L T part p : Nat} {tx : Tx} (hx : TXx M T tx) (hv : 5 ≤ v) (hc : CV M v P L) (hp : part < 3) (hr : ∃ t, M v 3 = nI t ∧ t < T) (h1 : p < P) : ∃ M', m_X3_ruled v (nI part) (nI p) (-1) M = some (rulN tx (nx M v) part p, M') ∧ Fr M M' := by
  obtain ⟨t, hr, ht⟩ := hr
  have f1 : Fr M (up M 1 1 0) := Fr.up (by omega)
  generalize hM1 : up M 1 1 0 = M1 at f1
  have f2 : Fr M1 (up M1 1 2 (M (v + 3) p)) := Fr.up (by omega)
  generalize hM2 : up M1 1 2 (M (v + 3) p) = M2 at f2
  have f3 : Fr M2 (up M2 1 3 (M (v + 2) p)) := Fr.up (by omega)
  generalize hM3 : up M2 1 3 (M (v + 2) p) = M3 at f3
  have f4 : Fr M3 (up M3 1 4 (M v 1)) := Fr.up (by omega)
  generalize hM4 : up M3 1 4 (M v 1) = M4 at f4
  have f5 : Fr M4 (up M4 1 5 0) := Fr.up (by omega)
  generalize hM5 : up M4 1 5 0 = M5 at f5
  have g2 := f1.tr f2
  have g3 := g2.tr f3
  have g4 := g3.tr f4
  have g5 := g4.tr f5
  have a1 : M5 1 1 = 0 := by rw [← hM5, up_j (by decide), ← hM4, up_j (by decide), ← hM3, up_j (by decide), ← hM2, up_j (by decide), ← hM1, up_s]
  have a2 : M5 1 2 = M (v + 3) p := by rw [← hM5, up_j (by decide), ← hM4, up_j (by decide), ← hM3, up_j (by decide), ← hM2, up_s]
  have a3 : M5 1 3 = M (v + 2) p := by rw [← hM5, up_j (by decide), ← hM4, up_j (by decide), ← hM3, up_s]
  have a4 : M5 1 4 = M v 1 := by rw [← hM5, up_j (by decide), ← hM4, up_s]
  have a5 : M5 1 5 = 0 := by rw [← hM5, up_s]
  have b1 := x3_let_none hc (x := -1) (Or.inl neg1_lt)
  have b2 := x3_of_one (f1.cv hv hc) h1
  have b3 := x3_of_one (g2.cv hv hc) h1
  have b5 := x3_let_none (g4.cv hv hc) (x := -1) (Or.inl neg1_lt)
  have b6 := x3_let_out (g5.cv hv hc) (x := -1) (Or.inl neg1_lt)
  obtain ⟨M', e, f⟩ := x3_ruled_end (z := 0) (hx.fr g5) hv hp (by rw [g5.at hv]; exact hr) ht
  rw [a1, a2, a3, a4, a5] at e
  have hR : vR (nx M v) = t := by unfold vR; rw [nx_0 (by omega), hr, nI_clamp (by have := hx.2.1; omega)]
  have spec : rulN tx (nx M v) part p = bndS (loS part) (tx t part 0 (M (v + 3) p) (M (v + 2) p) (M v 1) 0 0) := by
    unfold rulN
    rw [hR, hc.r (by omega) (by omega) h1, hc.r (by omega) (by omega) h1, nx_0 (by omega)]
  have n1 : ((0 : Int32) = 0) := rfl
  have body : m_X3_ruled v (nI part) (nI p) (-1) M = m_X3_ruled_J89 v (nI part) 0 M5 := by
    unfold m_X3_ruled m_X3_ruled_J88
    rw [b1.1, bd_s, lt1_d, hM1, b2.2.2, bd_s, f1.at (show 5 ≤ v + 3 by omega), lt1_d, hM2, b3.2.1, bd_s, g2.at (show 5 ≤ v + 2 by omega), lt1_d, hM3, g3.at hv, lt1_d, hM4, b5.2.1, bd_s, j6_0, bd_s, lt1_d, hM5, b6, bd_s, if_pos rfl]
  refine ⟨M', ?_, g5.tr f⟩
  rw [body, e, spec]
/-! the reference -/
theorem x5_says_end {M : Mm} {T part t : Nat} {tx : Tx} {z : Int32} (hx : TXm M T tx) (hp : part < 3) (hr : M 0 4 = nI t) (ht : t < T) : ∃ M', m_X5_says_J106 (nI part) z M = some (bndS (loS part) (tx t part (M 0 14) (M 0 15) (M 0 16) (M 0 17) (M 0 18) z), M') ∧ Gr M M' := by
  obtain ⟨M2, e, f, f2⟩ := (hx.2.2 (up M 0 19 z) (up_j (by decide)) (by funext b; exact up_k (by decide)) (by funext b; exact up_k (by decide))).2 t part ht hp
  refine ⟨M2, ?_, (Gr.up (by omega)).tr f⟩
  unfold m_X5_says_J106 m_X5_says_J129
  simp only [lt1]
  rw [up_j (show (4 : Nat) ≠ 19 by decide), hr, e, bd_s]
  rw [up_j (show (14 : Nat) ≠ 19 by decide), up_j (show (15 : Nat) ≠ 19 by decide), up_j (show (16 : Nat) ≠ 19 by decide), up_j (show (17 : Nat) ≠ 19 by decide), up_j (show (18 : Nat) ≠ 19 by decide), up_s]
  unfold loS
  by_cases h2 : part = 2
  · rw [if_pos ((nI_2 hp).mpr h2), if_pos h2, x5_wi (by decide), bd_s]
  · rw [if_neg (fun q => h2 ((nI_2 hp).mp q)), if_neg h2, x5_wi (by decide), bd_s]
theorem x5_says_L {M : Mm} {P L T part p l b : Nat} {tx : Tx} (hx : TXm M T tx) (hc : MV M P L) (hp : part < 3) (hr : ∃ t, M 0 4 = nI t ∧ t < T) (h1 : p < P) (h2 : l < L) (hb : M 5 (5 * l + 4) = nI b) (hb2 : b < 256) : ∃ M', m_X5_says (nI part) (nI p) (nI l) M = some (rulL tx (nm M) part p l, M') ∧ Gr M M' := by
  obtain ⟨t, hr, ht⟩ := hr
  have h5 := hc.2.1
  have h8 := hc.2.2.2
  have f1 : Gr M (up M 0 14 (M 5 (5 * l))) := Gr.up (by omega)
  generalize hM1 : up M 0 14 (M 5 (5 * l)) = M1 at f1
  have f2 : Gr M1 (up M1 0 15 (M 4 (3 * p + 2))) := Gr.up (by omega)
  generalize hM2 : up M1 0 15 (M 4 (3 * p + 2)) = M2 at f2
  have f3 : Gr M2 (up M2 0 16 (M 4 (3 * p))) := Gr.up (by omega)
  generalize hM3 : up M2 0 16 (M 4 (3 * p)) = M3 at f3
  have f4 : Gr M3 (up M3 0 17 (M 0 7)) := Gr.up (by omega)
  generalize hM4 : up M3 0 17 (M 0 7) = M4 at f4
  have f5 : Gr M4 (up M4 0 18 (pcS (nI b))) := Gr.up (by omega)
  generalize hM5 : up M4 0 18 (pcS (nI b)) = M5 at f5
  have g2 := f1.tr f2
  have g3 := g2.tr f3
  have g4 := g3.tr f4
  have g5 := g4.tr f5
  have a1 : M5 0 14 = M 5 (5 * l) := by rw [← hM5, up_j (by decide), ← hM4, up_j (by decide), ← hM3, up_j (by decide), ← hM2, up_j (by decide), ← hM1, up_s]
  have a2 : M5 0 15 = M 4 (3 * p + 2) := by rw [← hM5, up_j (by decide), ← hM4, up_j (by decide), ← hM3, up_j (by decide), ← hM2, up_s]
  have a3 : M5 0 16 = M 4 (3 * p) := by rw [← hM5, up_j (by decide), ← hM4, up_j (by decide), ← hM3, up_s]
  have a4 : M5 0 17 = M 0 7 := by rw [← hM5, up_j (by decide), ← hM4, up_s]
  have a5 : M5 0 18 = pcS (nI b) := by rw [← hM5, up_s]
  have key : ∀ z, ∃ M', m_X5_says_J106 (nI part) z M5 = some (bndS (loS part) (tx t part (M 5 (5 * l)) (M 4 (3 * p + 2)) (M 4 (3 * p)) (M 0 7) (pcS (nI b)) z), M') ∧ Gr M M' := by
    intro z
    obtain ⟨M', e, f⟩ := x5_says_end (z := z) (hx.gr g5) hp (by rw [g5.2 4 (by omega)]; exact hr) ht
    rw [a1, a2, a3, a4, a5] at e
    exact ⟨M', e, g5.tr f⟩
  have hR : vR (nm M) = t := by unfold vR; rw [nm_0.2.2.1, hr, nI_clamp (by have := hx.2.1; omega)]
  have r1 := hc.r h1
  have q1 := hc.q h2
  have spec : rulL tx (nm M) part p l = bndS (loS part) (tx t part (M 5 (5 * l)) (M 4 (3 * p + 2)) (M 4 (3 * p)) (M 0 7) (pcS (nI b)) (if M 5 (5 * l + 1) = nI p then 1 else 0)) := by
    unfold rulL
    rw [hR, q1.2.2.2.1, r1.2.2, r1.2.1, nm_0.1, q1.2.2.2.2, q1.1, hb]
  have n1 : ¬ nI l = (-1 : Int32) := nI_m1 (by omega)
  have body : m_X5_says (nI part) (nI p) (nI l) M = (if M 5 (5 * l + 1) = nI p then m_X5_says_J106 (nI part) 1 M5 else m_X5_says_J106 (nI part) 0 M5) := by
    unfold m_X5_says m_X5_says_J18 m_X5_says_J78 m_X5_says_J105
    simp only [if_neg n1, lt1, bd_s, pl5, pl3, pla1, pla2, pla4, inr_n (show 5 * l < 40 by omega) (by omega), inr_n (show 3 * p + 2 < 15 by omega) (by omega), inr_n (show 3 * p < 15 by omega) (by omega), inr_n (show 5 * l + 4 < 40 by omega) (by omega), inr_n (show 5 * l + 1 < 40 by omega) (by omega), gd_t, nI_clamp (show 5 * l < 2 ^ 31 by omega), nI_clamp (show 3 * p + 2 < 2 ^ 31 by omega), nI_clamp (show 3 * p < 2 ^ 31 by omega), nI_clamp (show 5 * l + 4 < 2 ^ 31 by omega), nI_clamp (show 5 * l + 1 < 2 ^ 31 by omega), hM1, f1.at (show (4 : Nat) ≠ 0 by decide), hM2, g2.at (show (4 : Nat) ≠ 0 by decide), hM3, g3.2 7 (by omega), hM4, g4.at (show (5 : Nat) ≠ 0 by decide), hb, x5_bits hb2, hM5, g5.at (show (5 : Nat) ≠ 0 by decide)]
  rw [body, spec]
  split
  · exact key 1
  · exact key 0
theorem x5_says_N {M : Mm} {P L T part p : Nat} {tx : Tx} (hx : TXm M T tx) (hc : MV M P L) (hp : part < 3) (hr : ∃ t, M 0 4 = nI t ∧ t < T) (h1 : p < P) : ∃ M', m_X5_says (nI part) (nI p) (-1) M = some (rulN tx (nm M) part p, M') ∧ Gr M M' := by
  obtain ⟨t, hr, ht⟩ := hr
  have h5 := hc.2.1
  have f1 : Gr M (up M 0 14 0) := Gr.up (by omega)
  generalize hM1 : up M 0 14 0 = M1 at f1
  have f2 : Gr M1 (up M1 0 15 (M 4 (3 * p + 2))) := Gr.up (by omega)
  generalize hM2 : up M1 0 15 (M 4 (3 * p + 2)) = M2 at f2
  have f3 : Gr M2 (up M2 0 16 (M 4 (3 * p))) := Gr.up (by omega)
  generalize hM3 : up M2 0 16 (M 4 (3 * p)) = M3 at f3
  have f4 : Gr M3 (up M3 0 17 (M 0 7)) := Gr.up (by omega)
  generalize hM4 : up M3 0 17 (M 0 7) = M4 at f4
  have f5 : Gr M4 (up M4 0 18 0) := Gr.up (by omega)
  generalize hM5 : up M4 0 18 0 = M5 at f5
  have g2 := f1.tr f2
  have g3 := g2.tr f3
  have g4 := g3.tr f4
  have g5 := g4.tr f5
  have a1 : M5 0 14 = 0 := by rw [← hM5, up_j (by decide), ← hM4, up_j (by decide), ← hM3, up_j (by decide), ← hM2, up_j (by decide), ← hM1, up_s]
  have a2 : M5 0 15 = M 4 (3 * p + 2) := by rw [← hM5, up_j (by decide), ← hM4, up_j (by decide), ← hM3, up_j (by decide), ← hM2, up_s]
  have a3 : M5 0 16 = M 4 (3 * p) := by rw [← hM5, up_j (by decide), ← hM4, up_j (by decide), ← hM3, up_s]
  have a4 : M5 0 17 = M 0 7 := by rw [← hM5, up_j (by decide), ← hM4, up_s]
  have a5 : M5 0 18 = 0 := by rw [← hM5, up_s]
  obtain ⟨M', e, f⟩ := x5_says_end (z := 0) (hx.gr g5) hp (by rw [g5.2 4 (by omega)]; exact hr) ht
  rw [a1, a2, a3, a4, a5] at e
  have hR : vR (nm M) = t := by unfold vR; rw [nm_0.2.2.1, hr, nI_clamp (by have := hx.2.1; omega)]
  have r1 := hc.r h1
  have spec : rulN tx (nm M) part p = bndS (loS part) (tx t part 0 (M 4 (3 * p + 2)) (M 4 (3 * p)) (M 0 7) 0 0) := by
    unfold rulN
    rw [hR, r1.2.2, r1.2.1, nm_0.1]
  refine ⟨M', ?_, g5.tr f⟩
  rw [spec, ← e]
  unfold m_X5_says m_X5_says_J18 m_X5_says_J78 m_X5_says_J105
  simp only [if_pos, lt1, bd_s, pl3, pla2, inr_n (show 3 * p + 2 < 15 by omega) (by omega), inr_n (show 3 * p < 15 by omega) (by omega), gd_t, nI_clamp (show 3 * p + 2 < 2 ^ 31 by omega), nI_clamp (show 3 * p < 2 ^ 31 by omega), hM1, f1.at (show (4 : Nat) ≠ 0 by decide), hM2, g2.at (show (4 : Nat) ≠ 0 by decide), hM3, g3.2 7 (by omega), hM4, hM5]
