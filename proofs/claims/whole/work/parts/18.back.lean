/-! the reference: the post laid aside, laid back -/
theorem x5_aside_L : ∀ (k i n : Nat) (M : Mm), k < n → i + k = 40 → ∃ M', m_X5_laysAside_L2 n (nI i) M = some ((), M') ∧ (∀ j, i ≤ j → j < 40 → M' 6 j = M 5 j) ∧ (∀ j, j < i → M' 6 j = M 6 j) ∧ M' 6 40 = M 0 12 ∧ M' 6 41 = M 0 7 ∧ ∀ a, a ≠ 6 → M' a = M a := by
  intro k
  induction k with
  | zero =>
    intro i n M hn hi
    obtain ⟨n, rfl⟩ : ∃ m, n = m + 1 := ⟨n - 1, by omega⟩
    have e2 : (40 : Int32) ≤ nI i := nI_le (a := 40) (by omega) (by omega)
    have a1 : inr (40 : Int32) 42 = true := inr_n (i := 40) (by omega) (by omega)
    have a2 : inr (41 : Int32) 42 = true := inr_n (i := 41) (by omega) (by omega)
    have c1 : (40 : Int32).toNatClampNeg = 40 := nI_clamp (n := 40) (by omega)
    have c2 : (41 : Int32).toNatClampNeg = 41 := nI_clamp (n := 41) (by omega)
    show ∃ M', m_X5_laysAside_B2 (m_X5_laysAside_L2 n) (nI i) M = _ ∧ _
    rw [m_X5_laysAside_B2, if_pos e2, a1, gd_t, lt1_d, a2, gd_t, lt1_d, c1, c2]
    refine ⟨_, rfl, fun j _ _ => absurd ‹j < 40› (by omega), fun j hj => ?_, ?_, ?_, fun a ha => ?_⟩
    · rw [up_j (by omega), up_j (by omega)]
    · rw [up_j (by omega), up_s]
    · rw [up_s, up_k (by omega)]
    · funext b; rw [up_k ha, up_k ha]
  | succ k ih =>
    intro i n M hn hi
    obtain ⟨n, rfl⟩ : ∃ m, n = m + 1 := ⟨n - 1, by omega⟩
    have e2 : ¬ (40 : Int32) ≤ nI i := nI_ge (b := 40) (by omega) (by omega)
    show ∃ M', m_X5_laysAside_B2 (m_X5_laysAside_L2 n) (nI i) M = _ ∧ _
    rw [m_X5_laysAside_B2, if_neg e2, inr_n (show i < 40 by omega) (by omega), inr_n (show i < 42 by omega) (by omega), gd_t, gd_t, lt1_d, lt1_d, nI_1, nI_clamp (by omega)]
    obtain ⟨M', m1, m2, m3, m4, m5, m6⟩ := ih (i + 1) n (up M 6 i (M 5 i)) (by omega) (by omega)
    refine ⟨M', m1, fun j j1 j2 => ?_, fun j hj => ?_, ?_, ?_, fun a ha => ?_⟩
    · by_cases e : j = i
      · subst e; rw [m3 j (by omega), up_s]
      · rw [m2 j (by omega) j2, up_k (by omega)]
    · rw [m3 j (by omega), up_j (by omega)]
    · rw [m4, up_k (by omega)]
    · rw [m5, up_k (by omega)]
    · rw [m6 a ha]; funext b; exact up_k ha
theorem x5_aside (M : Mm) : ∃ M', m_X5_laysAside M = some ((), M') ∧ (∀ j, j < 40 → M' 6 j = M 5 j) ∧ M' 6 40 = M 0 12 ∧ M' 6 41 = M 0 7 ∧ ∀ a, a ≠ 6 → M' a = M a := by
  obtain ⟨M', m1, m2, m3, m4, m5, m6⟩ := x5_aside_L 40 0 FU M (by unfold FU; omega) (by omega)
  rw [nI_0] at m1
  refine ⟨M', ?_, fun j h => m2 j (by omega) h, m4, m5, m6⟩
  unfold m_X5_laysAside
  rw [lt1_d]
  exact m1
theorem x5_back_L : ∀ (k i n : Nat) (M : Mm), k < n → i + k = 40 → ∃ M', m_X5_laysBack_L2 n (nI i) M = some ((), M') ∧ (∀ j, i ≤ j → j < 40 → M' 5 j = M 6 j) ∧ (∀ j, j < i → M' 5 j = M 5 j) ∧ M' 0 12 = M 6 40 ∧ M' 0 7 = M 6 41 ∧ (∀ a, a ≠ 0 → a ≠ 5 → M' a = M a) ∧ ∀ j, j ≠ 7 → j ≠ 12 → M' 0 j = M 0 j := by
  intro k
  induction k with
  | zero =>
    intro i n M hn hi
    obtain ⟨n, rfl⟩ : ∃ m, n = m + 1 := ⟨n - 1, by omega⟩
    have e2 : (40 : Int32) ≤ nI i := nI_le (a := 40) (by omega) (by omega)
    have a1 : inr (40 : Int32) 42 = true := inr_n (i := 40) (by omega) (by omega)
    have a2 : inr (41 : Int32) 42 = true := inr_n (i := 41) (by omega) (by omega)
    have c1 : (40 : Int32).toNatClampNeg = 40 := nI_clamp (n := 40) (by omega)
    have c2 : (41 : Int32).toNatClampNeg = 41 := nI_clamp (n := 41) (by omega)
    show ∃ M', m_X5_laysBack_B2 (m_X5_laysBack_L2 n) (nI i) M = _ ∧ _
    rw [m_X5_laysBack_B2, if_pos e2, a1, gd_t, lt1_d, a2, gd_t, lt1_d, c1, c2]
    refine ⟨_, rfl, fun j _ _ => absurd ‹j < 40› (by omega), fun j hj => ?_, ?_, ?_, fun a ha hb => ?_, fun j h1 h2 => ?_⟩
    · rw [up_k (by omega), up_k (by omega)]
    · rw [up_j (by omega), up_s]
    · rw [up_s, up_k (by omega)]
    · funext b; rw [up_k ha, up_k ha]
    · rw [up_j h1, up_j h2]
  | succ k ih =>
    intro i n M hn hi
    obtain ⟨n, rfl⟩ : ∃ m, n = m + 1 := ⟨n - 1, by omega⟩
    have e2 : ¬ (40 : Int32) ≤ nI i := nI_ge (b := 40) (by omega) (by omega)
    show ∃ M', m_X5_laysBack_B2 (m_X5_laysBack_L2 n) (nI i) M = _ ∧ _
    rw [m_X5_laysBack_B2, if_neg e2, inr_n (show i < 42 by omega) (by omega), inr_n (show i < 40 by omega) (by omega), gd_t, gd_t, lt1_d, lt1_d, nI_1, nI_clamp (by omega)]
    obtain ⟨M', m1, m2, m3, m4, m5, m6, m7⟩ := ih (i + 1) n (up M 5 i (M 6 i)) (by omega) (by omega)
    refine ⟨M', m1, fun j j1 j2 => ?_, fun j hj => ?_, ?_, ?_, fun a ha hb => ?_, fun j h1 h2 => ?_⟩
    · by_cases e : j = i
      · subst e; rw [m3 j (by omega), up_s]
      · rw [m2 j (by omega) j2, up_k (by omega)]
    · rw [m3 j (by omega), up_j (by omega)]
    · rw [m4, up_k (by omega)]
    · rw [m5, up_k (by omega)]
    · rw [m6 a ha hb]; funext b; exact up_k hb
    · rw [m7 j h1 h2, up_k (by omega)]
theorem x5_back (M : Mm) : ∃ M', m_X5_laysBack M = some ((), M') ∧ (∀ j, j < 40 → M' 5 j = M 6 j) ∧ M' 0 12 = M 6 40 ∧ M' 0 7 = M 6 41 ∧ (∀ a, a ≠ 0 → a ≠ 5 → M' a = M a) ∧ ∀ j, j ≠ 7 → j ≠ 12 → M' 0 j = M 0 j := by
  obtain ⟨M', m1, m2, m3, m4, m5, m6, m7⟩ := x5_back_L 40 0 FU M (by unfold FU; omega) (by omega)
  rw [nI_0] at m1
  refine ⟨M', ?_, fun j h => m2 j (by omega) h, m4, m5, m6, m7⟩
  unfold m_X5_laysBack
  rw [lt1_d]
  exact m1
/-- nothing but the scratch (and the row laid aside) is changed -/
def KR (M M' : Mm) : Prop := (∀ k, k ≠ 0 → k ≠ 5 → k ≠ 6 → M' k = M k) ∧ (∀ j, j < 14 ∨ 28 < j → M' 0 j = M 0 j) ∧ ∀ j, j < 40 → M' 5 j = M 5 j
theorem KR.rf {M : Mm} : KR M M := ⟨fun _ _ _ _ => rfl, fun _ _ => rfl, fun _ _ => rfl⟩
theorem KR.tr {M M1 M2 : Mm} (h : KR M M1) (g : KR M1 M2) : KR M M2 := ⟨fun k a b c => (g.1 k a b c).trans (h.1 k a b c), fun j a => (g.2.1 j a).trans (h.2.1 j a), fun j a => (g.2.2 j a).trans (h.2.2 j a)⟩
theorem Gr.kr {M M' : Mm} (h : Gr M M') : KR M M' := ⟨fun k a _ _ => h.1 k a, h.2, fun j _ => h.at (by decide)⟩
theorem KR.nme {M M' : Mm} {T : Nat} (h : KR M M') (hw : WF T (nm M)) : nm M' = nm M := by
  have hc := hw.mv
  have h8 := hc.2.2.2
  have e0 : ∀ j, vm M' 0 j = vm M 0 j := by
    intro j
    unfold vm
    simp only []
    split <;> first | rfl | exact h.2.1 _ (by omega)
  have eP : vP (vm M') = vP (vm M) := by unfold vP; rw [e0]
  have eL : vL (vm M') = vL (vm M) := by unfold vL; rw [e0]
  have q : vL (vm M) ≤ 8 := by rw [nm, nrm_L] at h8; exact h8
  funext i j
  show nrm (vm M') i j = nrm (vm M) i j
  unfold nrm
  rw [eP, eL]
  have e4 : ∀ a, M' 4 a = M 4 a := fun a => by rw [h.1 4 (by decide) (by decide) (by decide)]
  match i with
  | 0 => rw [if_pos rfl, if_pos rfl, e0]
  | 1 => rw [show vm M' 1 j = vm M 1 j from e4 _, e0]
  | 2 => rw [show vm M' 2 j = vm M 2 j from e4 _, e0]
  | 3 => rw [show vm M' 3 j = vm M 3 j from e4 _, e0]
  | 4 =>
    by_cases hj : j < vL (vm M)
    · rw [show vm M' 4 j = vm M 4 j from h.2.2 _ (by omega), e0]
    · simp [hj]
  | 5 =>
    by_cases hj : j < vL (vm M)
    · rw [show vm M' 5 j = vm M 5 j from h.2.2 _ (by omega), e0]
    · simp [hj]
  | 6 =>
    by_cases hj : j < vL (vm M)
    · rw [show vm M' 6 j = vm M 6 j from h.2.2 _ (by omega), e0]
    · simp [hj]
  | 7 =>
    by_cases hj : j < vL (vm M)
    · rw [show vm M' 7 j = vm M 7 j from h.2.2 _ (by omega), e0]
    · simp [hj]
  | 8 =>
    by_cases hj : j < vL (vm M)
    · rw [show vm M' 8 j = vm M 8 j from h.2.2 _ (by omega), e0]
    · simp [hj]
  | n + 9 => rw [e0]; simp [show ¬ n + 9 ≤ 3 by omega, show ¬ n + 9 ≤ 8 by omega]
theorem KR.tx {M M' : Mm} {T : Nat} {tx : Tx} (h : TXm M T tx) (hf : KR M M') : TXm M' T tx := by
  obtain ⟨h1, h2, h3⟩ := h
  refine ⟨by rw [hf.2.1 3 (by omega)]; exact h1, h2, fun N a b c => h3 N ?_ ?_ ?_⟩
  · rw [a, hf.2.1 3 (by omega)]
  · rw [b, hf.1 1 (by decide) (by decide) (by decide)]
  · rw [c, hf.1 2 (by decide) (by decide) (by decide)]
/-- something done between laying aside and laying back -/
theorem x5_between {M M1 M2 M3 : Mm} (h1 : (∀ j, j < 40 → M1 6 j = M 5 j) ∧ M1 6 40 = M 0 12 ∧ M1 6 41 = M 0 7 ∧ ∀ a, a ≠ 6 → M1 a = M a) (h2 : HV M1 M2) (h3 : (∀ j, j < 40 → M3 5 j = M2 6 j) ∧ M3 0 12 = M2 6 40 ∧ M3 0 7 = M2 6 41 ∧ (∀ a, a ≠ 0 → a ≠ 5 → M3 a = M2 a) ∧ ∀ j, j ≠ 7 → j ≠ 12 → M3 0 j = M2 0 j) : KR M M3 := by
  obtain ⟨a1, a2, a3, a4⟩ := h1
  obtain ⟨b1, b2⟩ := h2
  obtain ⟨c1, c2, c3, c4, c5⟩ := h3
  have e6 : M2 6 = M1 6 := b1 6 (by decide) (by decide)
  refine ⟨fun k k1 k2 k3 => ?_, fun j hj => ?_, fun j hj => ?_⟩
  · rw [c4 k k1 k2, b1 k k1 k2, a4 k k3]
  · by_cases j7 : j = 7
    · subst j7; rw [c3, e6, a3]
    · by_cases j12 : j = 12
      · subst j12; rw [c2, e6, a2]
      · rw [c5 j j7 j12, b2 j hj j7 j12, a4 0 (by decide)]
  · rw [c1 j hj, e6, a1 j hj]
theorem aside_nm {M M1 : Mm} (h : ∀ a, a ≠ 6 → M1 a = M a) : nm M1 = nm M := by
  have e : vm M1 = vm M := by
    funext i j
    unfold vm
    rw [h 0 (by decide), h 4 (by decide), h 5 (by decide)]
  show nrm (vm M1) = nrm (vm M)
  rw [e]
theorem aside_tx {M M1 : Mm} {T : Nat} {tx : Tx} (hx : TXm M T tx) (h : ∀ a, a ≠ 6 → M1 a = M a) : TXm M1 T tx :=
  KR.tx hx ⟨fun k _ _ c => h k c, fun j _ => by rw [h 0 (by decide)], fun j _ => by rw [h 5 (by decide)]⟩
/-! days gone through, in thought -/
theorem x5_homeBehind {M : Mm} {T N : Nat} {tx : Tx} (hN : N < 1000) (hx : TXm M T tx) (hw : WF T (nm M)) : ∃ M', m_X5_homeBehind (nI N) M = some (homS (daysS tx N (nm M)), M') ∧ KR M M' := by
  obtain ⟨M1, a0, a⟩ := x5_aside M
  have n1 : nm M1 = nm M := aside_nm a.2.2.2
  obtain ⟨M2, b0, b1, b2⟩ := x5_days hN (aside_tx hx a.2.2.2) (by rw [n1]; exact hw)
  have w2 : WF T (nm M2) := by rw [b1, n1]; exact hw.days N _
  obtain ⟨M3, c0, c⟩ := x5_back M2
  refine ⟨M3, ?_, x5_between a b2 c⟩
  unfold m_X5_homeBehind
  rw [a0, bd_s, b0, bd_s, x5_homeMany w2.mv, bd_s, lt1_d, c0, bd_s, b1, n1]
