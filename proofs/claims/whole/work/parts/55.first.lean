/-! THE TWO FIRST MEMORIES are alike -/
theorem MM0_f : MM0 0 3 = 1 ∧ MM0 0 4 = 0 ∧ MM0 0 6 = 0 ∧ MM0 0 7 = 0 ∧ MM0 0 8 = 1 ∧ MM0 0 10 = 0 ∧ MM0 0 12 = 0 ∧ MM0 0 13 = 0 ∧ MM0 0 35 = -1 ∧ MM0 2 0 = 40 ∧ MM0 12 0 = 0 ∧ MM0 12 1 = 0 ∧ MM0 12 2 = 0 ∧ MM0 12 3 = 0 := by decide +kernel
theorem MM0_t : ∀ j, j < 40 → MM0 1 j = N40 6 j := by decide +kernel
theorem N40_b : ∀ j, j < 40 → N40 6 j = nI (N40 6 j).toNatClampNeg ∧ (N40 6 j).toNatClampNeg < 256 := by decide +kernel
theorem mR0_f : mR0 1 0 = 1 ∧ mR0 3 0 = 0 ∧ mR0 3 1 = 1 ∧ mR0 3 2 = 2 ∧ mR0 3 3 = 3 ∧ mR0 2 0 = 1 ∧ mR0 2 1 = 5 ∧ mR0 2 2 = 40 ∧ mR0 5 0 = 0 := (chkR_is (e := m_X1_read mA0) mR0_ck).2
theorem MXo_f {R : Mm} (h : R 1 0 = 1 ∧ R 3 0 = 0 ∧ R 3 1 = 1 ∧ R 3 2 = 2 ∧ R 3 3 = 3 ∧ R 2 0 = 1 ∧ R 2 1 = 5 ∧ R 2 2 = 40 ∧ R 5 0 = 0) : MXo R 1 0 = 1 ∧ MXo R 3 0 = 0 ∧ MXo R 3 1 = 1 ∧ MXo R 3 2 = 2 ∧ MXo R 3 3 = 3 ∧ MXo R 2 0 = 1 ∧ MXo R 2 1 = 5 ∧ MXo R 2 2 = 40 ∧ MXo R 5 0 = 0 := h
theorem MX0_f : MX0 1 0 = 1 ∧ MX0 3 0 = 0 ∧ MX0 3 1 = 1 ∧ MX0 3 2 = 2 ∧ MX0 3 3 = 3 ∧ MX0 2 0 = 1 ∧ MX0 2 1 = 5 ∧ MX0 2 2 = 40 ∧ MX0 5 0 = 0 := MXo_f mR0_f
theorem MX0_k : MX0 0 5 = 0 := by decide +kernel
def tx0 : Tx := fun _ p _ _ _ _ _ _ => if p = 0 then 1 else if p = 1 then 5 else 40
theorem sg1 {g : Nat → Int32} {k : Nat} : sgC g k (k + 1) = [g k] := by
  unfold sgC
  rw [show k + 1 - k = 1 by omega]
  rfl
theorem run1 {e : Nat → Int32} {c : Int32} (h : ¬ c ≤ -11) (h0 : ¬ c < 0) : rnC e [c] [] = some [c] := by
  unfold rnC stC
  rw [if_neg (by simp), if_neg h, if_neg h0]
  rfl
theorem rn3 {g : Nat → Int32} (h0 : g 0 = 1) (h1 : g 1 = 5) (h2 : g 2 = 40) (e : Nat → Int32) (p : Nat) (hp : p < 3) (t : Nat) (a1 a2 a3 a4 a5 a6 : Int32) : rnC e (sgC g p (p + 1)) [] = some [tx0 t p a1 a2 a3 a4 a5 a6] := by
  rw [sg1]
  match p, hp with
  | 0, _ => rw [h0]; exact run1 (by decide) (by decide)
  | 1, _ => rw [h1]; exact run1 (by decide) (by decide)
  | 2, _ => rw [h2]; exact run1 (by decide) (by decide)
  | n + 3, h => exact absurd h (by omega)
theorem stx0 : STX MX0 1 tx0 := by
  obtain ⟨f1, f2, f3, f4, f5, f6, f7, f8, f9⟩ := MX0_f
  refine ⟨fun j => j, fun j hj => ?_, fun j hj => Nat.le_succ j, by decide, fun t part ht hp a1 a2 a3 a4 a5 a6 => ?_⟩
  · match j, hj with
    | 0, _ => exact f2
    | 1, _ => exact f3
    | 2, _ => exact f4
    | 3, _ => exact f5
    | n + 4, h => exact absurd h (by omega)
  · have e : t = 0 := by omega
    subst e
    show rnC _ (sgC _ (3 * 0 + part) (3 * 0 + part + 1)) [] = _
    rw [show 3 * 0 + part = part by omega]
    exact rn3 f6 f7 f8 _ part hp 0 a1 a2 a3 a4 a5 a6
theorem stm0 : STM MM0 1 tx0 := by
  intro t ht
  have e : t = 0 := by omega
  subst e
  obtain ⟨g0, g1, g2, g3, g4, g5, g6, g7, g8, g9⟩ := chkR_is n40_ok
  refine ⟨N40, getM (m_X1_read N40), 40, 0, fun p => p, by decide, MM0_f.2.2.2.2.2.2.2.2.2.1, by decide, fun j hj => ⟨?_, _, (N40_b j hj).2, (N40_b j hj).1⟩, by decide, by decide, ⟨0, by decide, by decide⟩, g0, fun p hp => ?_, fun p hp => ?_, fun p hp => ⟨Nat.le_succ p, fun a1 a2 a3 a4 a5 a6 => ?_⟩⟩
  · rw [show 160 * 0 + j = j by omega]
    exact MM0_t j hj
  · match p, hp with
    | 0, _ => exact g2
    | 1, _ => exact g3
    | 2, _ => exact g4
    | 3, _ => exact g5
    | n + 4, h => exact absurd h (by omega)
  · show p ≤ 960
    omega
  · exact rn3 g6 g7 g8 _ p hp 0 a1 a2 a3 a4 a5 a6
theorem rel0 : Rel MX0 MM0 := by
  obtain ⟨f1, f2, f3, f4, f5, f6, f7, f8, f9, f10, f11, f12, f13, f14⟩ := MM0_f
  have eP : vP (vm MM0) = 0 := by
    show (MM0 0 10).toNatClampNeg = 0
    rw [f6]
    rfl
  have eL : vL (vm MM0) = 0 := by
    show (MM0 0 12).toNatClampNeg = 0
    rw [f7]
    rfl
  have nP : vP (nm MM0) = 0 := (nrm_P _).trans eP
  have nL : vL (nm MM0) = 0 := (nrm_L _).trans eL
  have xP : vP (vx MX0 7) = 0 := rfl
  have xL : vL (vx MX0 7) = 0 := rfl
  refine ⟨1, tx0, ⟨⟨mkTXx MX0_f.1 (by decide) stx0, mkTXm f1 (by decide) stm0⟩, Or.inl ⟨MX0_k, f9⟩, fun s hs => Or.inl ?_, ⟨0, by decide, MX0_f.2.2.2.2.2.2.2.2, f3, fun j hj => absurd hj (by omega)⟩⟩, ?_, ?_, ?_, 0, by decide, ?_⟩
  · match s, hs with
    | 0, _ => exact ⟨f11, rfl⟩
    | 1, _ => exact ⟨f12, rfl⟩
    | 2, _ => exact ⟨f13, rfl⟩
    | 3, _ => exact ⟨f14, rfl⟩
    | n + 4, h => exact absurd h (by omega)
  · funext i j
    show nrm (vx MX0 7) i j = nrm (vm MM0) i j
    unfold nrm
    rw [eP, eL, xP, xL]
    by_cases hi : i = 0
    · subst hi
      rw [if_pos rfl, if_pos rfl]
      by_cases hj : 1 ≤ j ∧ j ≤ 6
      · rw [if_pos hj, if_pos hj]
        match j, hj with
        | 1, _ => exact f4.symm
        | 2, _ => exact f5.symm
        | 3, _ => exact f2.symm
        | 4, _ => exact f6.symm
        | 5, _ => exact f7.symm
        | 6, _ => exact f8.symm
        | 0, h => exact absurd h.1 (by omega)
        | n + 7, h => exact absurd h.2 (by omega)
      · rw [if_neg hj, if_neg hj]
    · simp only [if_neg hi, Nat.not_lt_zero, if_false]
  · unfold WF
    rw [nP, nL]
    refine ⟨⟨?_, by decide, ?_, by decide⟩, ⟨⟨1, by decide, ?_⟩, 0, by decide, ?_⟩, fun p hp => absurd hp (by omega), ?_, fun p hp => absurd hp (by omega)⟩
    · exact nm_0.2.2.2.1.trans f6
    · exact nm_0.2.2.2.2.1.trans f7
    · exact nm_0.2.1.trans f5
    · exact nm_0.2.2.1.trans f2
    · exact fun p q hp => absurd hp (by rw [nP]; omega)
  · exact nm_0.2.2.2.2.2.trans f8
  · exact nm_0.1.trans f4
