/-! days -/
def dayA (tx : Tx) : Nat → Nat → Vs → Vs
  | 0, _, s => s
  | k + 1, l, s => dayA tx k (l + 1) (if s 6 l = -1 then s else stepS tx s l)
def dayS (tx : Tx) (s : Vs) : Vs := up (dayA tx (vL s) 0 s) 0 1 (dayA tx (vL s) 0 s 0 1 + 1)
def camA (tx : Tx) : Nat → Nat → Vs → Int32 → Int32
  | 0, _, _, a => a
  | k + 1, l, s, a => camA tx k (l + 1) (if s 6 l = -1 then s else stepS tx s l) (if s 6 l = -1 then a else if whoS s (s 6 l) = s 5 l then a ||| shl 1 (nI l) else a)
def camS (tx : Tx) (s : Vs) : Int32 := camA tx (vL s) 0 s 0
def daysS (tx : Tx) : Nat → Vs → Vs
  | 0, s => s
  | n + 1, s => daysS tx n (dayS tx s)
theorem WF.one {T : Nat} {tx : Tx} {s : Vs} {l : Nat} (h : WF T s) (hl : l < vL s) : WF T (if s 6 l = -1 then s else stepS tx s l) := by
  split
  · exact h
  · rename_i q; exact h.step hl q
theorem one_P {tx : Tx} {s : Vs} {l : Nat} : vP (if s 6 l = -1 then s else stepS tx s l) = vP s ∧ vL (if s 6 l = -1 then s else stepS tx s l) = vL s ∧ ∀ j, (if s 6 l = -1 then s else stepS tx s l) 0 j = s 0 j := by
  split
  · exact ⟨rfl, rfl, fun _ => rfl⟩
  · exact stepS_P
theorem dayA_P {tx : Tx} : ∀ (k l : Nat) (s : Vs), vP (dayA tx k l s) = vP s ∧ vL (dayA tx k l s) = vL s ∧ ∀ j, dayA tx k l s 0 j = s 0 j := by
  intro k
  induction k with
  | zero => intro l s; exact ⟨rfl, rfl, fun _ => rfl⟩
  | succ k ih =>
    intro l s
    obtain ⟨h1, h2, h3⟩ := ih (l + 1) (if s 6 l = -1 then s else stepS tx s l)
    obtain ⟨g1, g2, g3⟩ := one_P (tx := tx) (s := s) (l := l)
    exact ⟨h1.trans g1, h2.trans g2, fun j => (h3 j).trans (g3 j)⟩
theorem WF.dayA {T : Nat} {tx : Tx} : ∀ (k l : Nat) (s : Vs), WF T s → l + k ≤ vL s → WF T (dayA tx k l s) := by
  intro k
  induction k with
  | zero => intro l s h _; exact h
  | succ k ih =>
    intro l s h hl
    exact ih (l + 1) _ (h.one (by omega)) (by rw [one_P.2.1]; omega)
theorem WF.day {T : Nat} {tx : Tx} {s : Vs} (h : WF T s) : WF T (dayS tx s) := (h.dayA (vL s) 0 s (by omega)).up0 (Or.inl rfl)
theorem dayS_P {tx : Tx} {s : Vs} : vP (dayS tx s) = vP s ∧ vL (dayS tx s) = vL s := by
  unfold dayS
  rw [vP_up0 (by decide), vL_up0 (by decide)]
  exact ⟨(dayA_P _ _ _).1, (dayA_P _ _ _).2.1⟩
theorem WF.days {T : Nat} {tx : Tx} : ∀ (n : Nat) (s : Vs), WF T s → WF T (daysS tx n s) := by
  intro n
  induction n with
  | zero => intro s h; exact h
  | succ n ih => intro s h; exact ih _ h.day
theorem daysS_P {tx : Tx} : ∀ (n : Nat) (s : Vs), vP (daysS tx n s) = vP s ∧ vL (daysS tx n s) = vL s := by
  intro n
  induction n with
  | zero => intro s; exact ⟨rfl, rfl⟩
  | succ n ih =>
    intro s
    obtain ⟨h1, h2⟩ := ih (dayS tx s)
    exact ⟨h1.trans dayS_P.1, h2.trans dayS_P.2⟩
/-! the class -/
theorem x3_down_home {M : Mm} {v T l : Nat} (hw : WF T (nx M v)) (hl : l < vL (nx M v)) (ha : nx M v 6 l = -1) : m_X3_goesDown v (nI l) M = some (0, M) := by
  have hc := hw.cv
  have h8 := hc.2.2.2
  have e6 := hc.q (i := 6) (by omega) (by omega) hl
  unfold m_X3_goesDown
  rw [x3_let_in hc hl, bd_s, if_neg one_ne0, inr_n (show l < 8 by omega) (by omega), gd_t, nI_clamp (show l < 2 ^ 31 by omega), ← e6, if_pos ha]
theorem x3_day_L {v T : Nat} {tx : Tx} (hv : 7 ≤ v) : ∀ (k i n : Nat) (a : Int32) (M : Mm), k < n → i + k = vL (nx M v) → WF T (nx M v) → TXx M T tx → ∃ M', m_X3_passDay_L4 v n a (nI i) M = some (camA tx k i (nx M v) a, M') ∧ nx M' v = up (dayA tx k i (nx M v)) 0 1 (dayA tx k i (nx M v) 0 1 + 1) ∧ FV v M M' := by
  intro k
  induction k with
  | zero =>
    intro i n a M hn hi hw hx
    have hc := hw.cv
    have h8 := hc.2.2.2
    obtain ⟨n, rfl⟩ : ∃ m, n = m + 1 := ⟨n - 1, by omega⟩
    have e2 : nI (vL (nx M v)) ≤ nI i := nI_le (by omega) (by omega)
    have e1 : nx M v 0 1 = M v 1 := nx_0 (by omega)
    show ∃ M', m_X3_passDay_B4 v (m_X3_passDay_L4 v n) a (nI i) M = _ ∧ _
    rw [m_X3_passDay_B4, hc.2.2.1, if_pos e2, m_X3_passDay_J38, lt1_d]
    refine ⟨_, rfl, ?_, FV.up (i := 0) hv (by decide)⟩
    show nx (up M (v + 0) 1 (M v 1 + 1)) v = up (nx M v) 0 1 (nx M v 0 1 + 1)
    rw [nx_up hc (by omega), e1]
  | succ k ih =>
    intro i n a M hn hi hw hx
    have hc := hw.cv
    have h8 := hc.2.2.2
    obtain ⟨n, rfl⟩ : ∃ m, n = m + 1 := ⟨n - 1, by omega⟩
    have e2 : ¬ nI (vL (nx M v)) ≤ nI i := nI_ge (by omega) (by omega)
    have e3 : ¬ (8 : Int32) ≤ nI i := nI_ge (b := 8) (by omega) (by omega)
    show ∃ M', m_X3_passDay_B4 v (m_X3_passDay_L4 v n) a (nI i) M = _ ∧ _
    rw [m_X3_passDay_B4, hc.2.2.1, if_neg e2, if_neg e3]
    unfold camA dayA
    by_cases ha : nx M v 6 i = -1
    · rw [x3_down_home hw (by omega) ha, bd_s, if_pos rfl, if_pos ha, if_pos ha, m_X3_passDay_J32, lt1_d, nI_1]
      exact ih (i + 1) n a M (by omega) (by omega) hw hx
    · obtain ⟨M1, g1, g2, g3⟩ := x3_down hv hx hw (l := i) (by omega) ha
      have hw1 : WF T (nx M1 v) := by rw [g2]; exact hw.step (by omega) ha
      have q : i + 1 + k = vL (nx M1 v) := by rw [g2, stepS_P.2.1]; omega
      rw [g1, bd_s, if_neg ha, if_neg ha, ← g2]
      by_cases hh : whoS (nx M v) (nx M v 6 i) = nx M v 5 i
      · rw [decide_eq_true hh, b2i_t, if_neg one_ne0, if_pos hh, lt1_d, m_X3_passDay_J32, lt1_d, nI_1]
        obtain ⟨M', m1, m2, m3⟩ := ih (i + 1) n (a ||| shl 1 (nI i)) M1 (by omega) q hw1 (FV.tx hv hx g3)
        exact ⟨M', m1, m2, g3.tr m3⟩
      · rw [decide_eq_false hh, b2i_f, if_pos rfl, if_neg hh, m_X3_passDay_J32, lt1_d, nI_1]
        obtain ⟨M', m1, m2, m3⟩ := ih (i + 1) n a M1 (by omega) q hw1 (FV.tx hv hx g3)
        exact ⟨M', m1, m2, g3.tr m3⟩
theorem x3_day {M : Mm} {v T : Nat} {tx : Tx} (hv : 7 ≤ v) (hx : TXx M T tx) (hw : WF T (nx M v)) : ∃ M', m_X3_passDay v M = some (camS tx (nx M v), M') ∧ nx M' v = dayS tx (nx M v) ∧ FV v M M' := by
  have h8 := hw.cv.2.2.2
  exact x3_day_L hv (vL (nx M v)) 0 FU 0 M (by unfold FU; omega) (by omega) hw hx
theorem x3_days_L {v T N : Nat} {tx : Tx} (hv : 7 ≤ v) (hN : N < 2 ^ 30) : ∀ (k i n : Nat) (M : Mm), k < n → i + k = N → WF T (nx M v) → TXx M T tx → ∃ M', m_X3_passDays_L2 v n (nI N) (nI i) M = some ((), M') ∧ nx M' v = daysS tx k (nx M v) ∧ FV v M M' := by
  intro k
  induction k with
  | zero =>
    intro i n M hn hi hw hx
    obtain ⟨n, rfl⟩ : ∃ m, n = m + 1 := ⟨n - 1, by omega⟩
    have e2 : nI N ≤ nI i := nI_le (by omega) (by omega)
    show ∃ M', m_X3_passDays_B2 v (m_X3_passDays_L2 v n) (nI N) (nI i) M = _ ∧ _
    rw [m_X3_passDays_B2, if_pos e2]
    exact ⟨M, rfl, rfl, FV.rf⟩
  | succ k ih =>
    intro i n M hn hi hw hx
    obtain ⟨n, rfl⟩ : ∃ m, n = m + 1 := ⟨n - 1, by omega⟩
    have e2 : ¬ nI N ≤ nI i := nI_ge (by omega) (by omega)
    show ∃ M', m_X3_passDays_B2 v (m_X3_passDays_L2 v n) (nI N) (nI i) M = _ ∧ _
    obtain ⟨M1, g1, g2, g3⟩ := x3_day hv hx hw
    rw [m_X3_passDays_B2, if_neg e2, g1, bd_s, lt1_d, nI_1]
    obtain ⟨M', m1, m2, m3⟩ := ih (i + 1) n M1 (by omega) (by omega) (by rw [g2]; exact hw.day) (FV.tx hv hx g3)
    exact ⟨M', m1, by rw [m2, g2]; rfl, g3.tr m3⟩
theorem x3_days {M : Mm} {v T N : Nat} {tx : Tx} (hv : 7 ≤ v) (hN : N < 1000) (hx : TXx M T tx) (hw : WF T (nx M v)) : ∃ M', m_X3_passDays v (nI N) M = some ((), M') ∧ nx M' v = daysS tx N (nx M v) ∧ FV v M M' :=
  x3_days_L hv (by omega) N 0 FU M (by unfold FU; omega) (by omega) hw hx
/-! the reference -/
theorem vm_up0 {M : Mm} {j r : Nat} {x : Int32} (h : (j = 7 ∧ r = 1) ∨ (j = 8 ∧ r = 2) ∨ (j = 4 ∧ r = 3) ∨ (j = 10 ∧ r = 4) ∨ (j = 12 ∧ r = 5) ∨ (j = 13 ∧ r = 6)) : vm (up M 0 j x) = up (vm M) 0 r x := by
  have z : ∀ a b, a ≠ 0 → up M 0 j x a b = M a b := fun a b q => up_k q
  have e5 : ∀ (d r' : Nat), (d = j ↔ r' = r) → vm M 0 r' = M 0 d → up M 0 j x 0 d = up (vm M) 0 r x 0 r' := by
    intro d r' hd hv
    by_cases q : d = j
    · have q2 := hd.mp q
      subst q q2
      rw [up_s, up_s]
    · rw [up_j q, up_j (fun t => q (hd.mpr t)), hv]
  funext i b
  match i with
  | 0 =>
    match b with
    | 0 => rw [up_j (by omega)]; rfl
    | 1 => exact e5 7 1 (by omega) rfl
    | 2 => exact e5 8 2 (by omega) rfl
    | 3 => exact e5 4 3 (by omega) rfl
    | 4 => exact e5 10 4 (by omega) rfl
    | 5 => exact e5 12 5 (by omega) rfl
    | 6 => exact e5 13 6 (by omega) rfl
    | n + 7 => rw [up_j (by omega)]; rfl
  | 1 => rw [up_k (by omega)]; exact z _ _ (by decide)
  | 2 => rw [up_k (by omega)]; exact z _ _ (by decide)
  | 3 => rw [up_k (by omega)]; exact z _ _ (by decide)
  | 4 => rw [up_k (by omega)]; exact z _ _ (by decide)
  | 5 => rw [up_k (by omega)]; exact z _ _ (by decide)
  | 6 => rw [up_k (by omega)]; exact z _ _ (by decide)
  | 7 => rw [up_k (by omega)]; exact z _ _ (by decide)
  | 8 => rw [up_k (by omega)]; exact z _ _ (by decide)
  | n + 9 => rw [up_k (by omega)]; rfl
theorem nm_up0 {M : Mm} {j r : Nat} {x : Int32} (h : (j = 7 ∧ r = 1) ∨ (j = 8 ∧ r = 2) ∨ (j = 4 ∧ r = 3) ∨ (j = 13 ∧ r = 6)) : nm (up M 0 j x) = up (nm M) 0 r x := by
  unfold nm
  rw [vm_up0 (r := r) (by omega), nrm_up (by omega)]
theorem x5_day_L {T : Nat} {tx : Tx} : ∀ (k i n : Nat) (M : Mm), k < n → i + k = vL (nm M) → WF T (nm M) → TXm M T tx → ∃ M', m_X5_passes_L2 n (nI i) M = some ((), M') ∧ nm M' = up (dayA tx k i (nm M)) 0 1 (dayA tx k i (nm M) 0 1 + 1) ∧ HV M M' := by
  intro k
  induction k with
  | zero =>
    intro i n M hn hi hw hx
    have hc := hw.mv
    have h8 := hc.2.2.2
    obtain ⟨n, rfl⟩ : ∃ m, n = m + 1 := ⟨n - 1, by omega⟩
    have e2 : nI (vL (nm M)) ≤ nI i := nI_le (by omega) (by omega)
    have e1 : nm M 0 1 = M 0 7 := nm_0.1
    show ∃ M', m_X5_passes_B2 (m_X5_passes_L2 n) (nI i) M = _ ∧ _
    rw [m_X5_passes_B2, hc.2.2.1, if_pos e2, lt1_d]
    refine ⟨_, rfl, ?_, HV.put0 (Or.inl rfl)⟩
    show nm (up M 0 7 (M 0 7 + 1)) = up (nm M) 0 1 (nm M 0 1 + 1)
    rw [nm_up0 (r := 1) (by omega), e1]
  | succ k ih =>
    intro i n M hn hi hw hx
    have hc := hw.mv
    have h8 := hc.2.2.2
    obtain ⟨n, rfl⟩ : ∃ m, n = m + 1 := ⟨n - 1, by omega⟩
    have e2 : ¬ nI (vL (nm M)) ≤ nI i := nI_ge (by omega) (by omega)
    have e6 := (hc.q (l := i) (by omega)).2.2.1
    show ∃ M', m_X5_passes_B2 (m_X5_passes_L2 n) (nI i) M = _ ∧ _
    rw [m_X5_passes_B2, hc.2.2.1, if_neg e2, pl5, pla3, inr_n (by omega) (by omega), gd_t, nI_clamp (by omega), ← e6]
    unfold dayA
    by_cases ha : nm M 6 i = -1
    · rw [if_pos ha, if_pos ha, m_X5_passes_J29, lt1_d, nI_1]
      exact ih (i + 1) n M (by omega) (by omega) hw hx
    · obtain ⟨M1, g1, g2, g3⟩ := x5_step hx hw (l := i) (by omega) ha
      rw [if_neg ha, if_neg ha, g1, bd_s, ← g2, m_X5_passes_J29, lt1_d, nI_1]
      obtain ⟨M', m1, m2, m3⟩ := ih (i + 1) n M1 (by omega) (by rw [g2, stepS_P.2.1]; omega) (by rw [g2]; exact hw.step (by omega) ha) (HV.tx hx g3)
      exact ⟨M', m1, m2, g3.tr m3⟩
theorem x5_day {M : Mm} {T : Nat} {tx : Tx} (hx : TXm M T tx) (hw : WF T (nm M)) : ∃ M', m_X5_passes M = some ((), M') ∧ nm M' = dayS tx (nm M) ∧ HV M M' := by
  have h8 := hw.mv.2.2.2
  exact x5_day_L (vL (nm M)) 0 FU M (by unfold FU; omega) (by omega) hw hx
theorem x5_days_L {T N : Nat} {tx : Tx} (hN : N < 2 ^ 30) : ∀ (k i n : Nat) (M : Mm), k < n → i + k = N → WF T (nm M) → TXm M T tx → ∃ M', m_X5_go_L2 n (nI N) (nI i) M = some ((), M') ∧ nm M' = daysS tx k (nm M) ∧ HV M M' := by
  intro k
  induction k with
  | zero =>
    intro i n M hn hi hw hx
    obtain ⟨n, rfl⟩ : ∃ m, n = m + 1 := ⟨n - 1, by omega⟩
    have e2 : nI N ≤ nI i := nI_le (by omega) (by omega)
    show ∃ M', m_X5_go_B2 (m_X5_go_L2 n) (nI N) (nI i) M = _ ∧ _
    rw [m_X5_go_B2, if_pos e2]
    exact ⟨M, rfl, rfl, HV.rf⟩
  | succ k ih =>
    intro i n M hn hi hw hx
    obtain ⟨n, rfl⟩ : ∃ m, n = m + 1 := ⟨n - 1, by omega⟩
    have e2 : ¬ nI N ≤ nI i := nI_ge (by omega) (by omega)
    show ∃ M', m_X5_go_B2 (m_X5_go_L2 n) (nI N) (nI i) M = _ ∧ _
    obtain ⟨M1, g1, g2, g3⟩ := x5_day hx hw
    rw [m_X5_go_B2, if_neg e2, g1, bd_s, lt1_d, nI_1]
    obtain ⟨M', m1, m2, m3⟩ := ih (i + 1) n M1 (by omega) (by omega) (by rw [g2]; exact hw.day) (HV.tx hx g3)
    exact ⟨M', m1, by rw [m2, g2]; rfl, g3.tr m3⟩
theorem x5_days {M : Mm} {T N : Nat} {tx : Tx} (hN : N < 1000) (hx : TXm M T tx) (hw : WF T (nm M)) : ∃ M', m_X5_go (nI N) M = some ((), M') ∧ nm M' = daysS tx N (nm M) ∧ HV M M' :=
  x5_days_L (by omega) N 0 FU M (by unfold FU; omega) (by omega) hw hx
