/-! writes, in the reference; what is between -/
theorem bnd_is {x lo : Int32} (h : lo ≤ 99) : bndS lo x = if x < lo then lo else if 99 < x then 99 else x := by
  have hz := x5_wi (M := fun _ _ => 0) (x := x) h
  unfold m_X5_within at hz
  rw [Int32.le_iff_toInt_le] at h
  by_cases h1 : x < lo
  · have h2 : ¬ lo ≤ x := by rw [Int32.lt_iff_toInt_lt] at h1; rw [Int32.le_iff_toInt_le]; omega
    rw [if_neg h2] at hz
    rw [if_pos h1]
    exact (congrArg Prod.fst (Option.some.inj hz)).symm
  · have h2 : lo ≤ x := by rw [Int32.lt_iff_toInt_lt] at h1; rw [Int32.le_iff_toInt_le]; omega
    rw [if_pos h2] at hz
    rw [if_neg h1]
    by_cases h3 : 99 < x
    · have h4 : ¬ x ≤ 99 := by rw [Int32.lt_iff_toInt_lt] at h3; rw [Int32.le_iff_toInt_le]; omega
      rw [if_neg h4] at hz
      rw [if_pos h3]
      exact (congrArg Prod.fst (Option.some.inj hz)).symm
    · have h4 : x ≤ 99 := by rw [Int32.lt_iff_toInt_lt] at h3; rw [Int32.le_iff_toInt_le]; omega
      rw [if_pos h4] at hz
      rw [if_neg h3]
      exact (congrArg Prod.fst (Option.some.inj hz)).symm
theorem bnd_in {x : Int32} : ∃ k, k < 100 ∧ bndS 0 x = nI k := by
  rw [bnd_is (by decide)]
  split
  · exact ⟨0, by omega, rfl⟩
  split
  · exact ⟨99, by omega, rfl⟩
  · rename_i h1 h2
    obtain ⟨j, j1, j2⟩ := nI_of2 (M := 99) (n := 99) rfl h1 (by rw [Int32.lt_iff_toInt_lt] at h2; rw [Int32.le_iff_toInt_le]; omega)
    exact ⟨j, by omega, j2⟩
theorem half_all : ∀ k, k < 100 → nI k / 2 = nI (k / 2) ∧ bndS 0 (nI (k / 2)) = nI (k / 2) ∧ bndS 0 (nI k) = nI k ∧ 99 - nI k = nI (99 - k) := by decide +kernel
theorem wri_in {tx : Tx} {s : Vs} {p : Nat} (hn : ∃ k, k < 10 ∧ s 2 p = nI k) : ∃ k, k < 100 ∧ wriS tx s p = nI k := by
  obtain ⟨n, n1, n2⟩ := hn
  obtain ⟨k, k1, k2⟩ : ∃ k, k < 100 ∧ rulN tx s 2 p = nI k := bnd_in
  obtain ⟨h1, h2, h3, h4⟩ := half_all k k1
  unfold wriS
  simp only [k2, h1, h4]
  split
  · exact ⟨k / 2, by omega, rfl⟩
  split
  · exact ⟨99 - k, by omega, rfl⟩
  split
  · exact ⟨k / 2, by omega, rfl⟩
  split
  · exact ⟨99 - k, by omega, rfl⟩
  split
  · rw [n2]; exact ⟨10 * n, by omega, pk_mul 10 n⟩
  · exact ⟨k, k1, rfl⟩
theorem x5_writes {M : Mm} {P L T p : Nat} {tx : Tx} (hx : TXm M T tx) (hc : MV M P L) (hr : ∃ t, M 0 4 = nI t ∧ t < T) (h1 : p < P) (hk : KIND (nm M) p) : ∃ M', m_X5_writesOf (nI p) M = some (wriS tx (nm M) p, M') ∧ Gr M M' := by
  have h5 := hc.2.1
  have r1 := hc.r h1
  have hk := hk.c
  rw [r1.1] at hk
  obtain ⟨M', e, f⟩ := x5_says_N hx hc (part := 2) (by omega) hr h1
  have e : m_X5_says 2 (nI p) (-1) M = some (rulN tx (nm M) 2 p, M') := e
  obtain ⟨k, k1, k2⟩ : ∃ k, k < 100 ∧ rulN tx (nm M) 2 p = nI k := bnd_in
  obtain ⟨g1, g2, g3, g4⟩ := half_all k k1
  have g5 : bndS 0 (nI (99 - k)) = nI (99 - k) := (half_all (99 - k) (by omega)).2.2.1
  have w : ∀ (z : Int32) (N : Mm), m_X5_writesOf_J64 z N = some (bndS 0 z, N) := by
    intro z N
    unfold m_X5_writesOf_J64
    rw [x5_wi (by decide), bd_s]
  have w2 : ∀ (z : Int32) (N : Mm), m_X5_writesOf_J46 z N = some (bndS 0 (z / 2), N) := by
    intro z N
    unfold m_X5_writesOf_J46
    rw [dec2, gd_t, w]
  have body : m_X5_writesOf (nI p) M = (if M 4 (3 * p + 1) = 5 then some (10 * M 4 (3 * p), M) else if M 4 (3 * p + 1) = 1 then some (nI (k / 2), M') else if M 4 (3 * p + 1) = 3 then some (nI (k / 2), M') else if M 4 (3 * p + 1) = 0 then some (nI k, M') else some (nI (99 - k), M')) := by
    unfold m_X5_writesOf
    rw [pl3, pla1, inr_n (show 3 * p + 1 < 15 by omega) (by omega), gd_t, nI_clamp (show 3 * p + 1 < 2 ^ 31 by omega), lt1_d, inr_n (show 3 * p < 15 by omega) (by omega), gd_t, nI_clamp (show 3 * p < 2 ^ 31 by omega), e, bd_s, lt1_d, w2, w, w, k2, g1, g2, g3, g4, g5]
  rw [body]
  unfold wriS
  rw [r1.1, r1.2.1, k2]
  rcases hk with q | q | q | q | q | q <;> rw [q]
  · exact ⟨M', rfl, f⟩
  · refine ⟨M', ?_, f⟩
    show some (nI (k / 2), M') = some (nI k / 2, M')
    rw [g1]
  · refine ⟨M', ?_, f⟩
    show some (nI (99 - k), M') = some (99 - nI k, M')
    rw [g4]
  · refine ⟨M', ?_, f⟩
    show some (nI (k / 2), M') = some (nI k / 2, M')
    rw [g1]
  · refine ⟨M', ?_, f⟩
    show some (nI (99 - k), M') = some (99 - nI k, M')
    rw [g4]
  · exact ⟨M, rfl, Gr.rf⟩
