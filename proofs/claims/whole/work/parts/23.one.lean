/-! one letter alone: no letter's way hangs on another's -/
def Ag (l : Nat) (s t : Vs) : Prop := (∀ j, s 0 j = t 0 j) ∧ (∀ i j, 1 ≤ i → i ≤ 5 → s i j = t i j) ∧ s 6 l = t 6 l ∧ s 7 l = t 7 l ∧ s 8 l = t 8 l
theorem Ag.rf {l : Nat} {s : Vs} : Ag l s s := ⟨fun _ => rfl, fun _ _ _ _ => rfl, rfl, rfl, rfl⟩
theorem Ag.P {l : Nat} {s t : Vs} (h : Ag l s t) : vP s = vP t ∧ vL s = vL t := ⟨by unfold vP; rw [h.1], by unfold vL; rw [h.1]⟩
theorem Ag.who {l : Nat} {s t : Vs} (h : Ag l s t) (x : Int32) : whoS s x = whoS t x := who_eq h.P.1 (fun p => h.2.1 3 p (by omega) (by omega)) x
theorem Ag.rul {l : Nat} {s t : Vs} {tx : Tx} (h : Ag l s t) (part p : Nat) : rulL tx s part p l = rulL tx t part p l := by
  unfold rulL vR
  rw [h.1 3, h.1 1, h.2.2.2.1, h.2.2.2.2, h.2.1 3 p (by omega) (by omega), h.2.1 2 p (by omega) (by omega), h.2.1 4 l (by omega) (by omega)]
theorem Ag.car {l : Nat} {s t : Vs} {tx : Tx} (h : Ag l s t) (p : Nat) : carS tx s p l = carS tx t p l := by
  unfold carS
  rw [h.rul, h.1 6, h.1 1, h.2.2.2.1, h.2.1 1 p (by omega) (by omega), h.2.1 2 p (by omega) (by omega), h.2.1 4 l (by omega) (by omega)]
theorem Ag.sof {l : Nat} {s t : Vs} {tx : Tx} (h : Ag l s t) (p : Nat) : sofS tx s p l = sofS tx t p l := by
  unfold sofS
  rw [h.rul, h.2.2.2.1, h.2.1 1 p (by omega) (by omega), h.2.1 2 p (by omega) (by omega)]
theorem Ag.pu {l i : Nat} {s t : Vs} {x : Int32} (h : Ag l s t) (hi : 6 ≤ i) : Ag l (up s i l x) (up t i l x) := by
  have e : ∀ a, s a l = t a l → up s i l x a l = up t i l x a l := by
    intro a ha
    by_cases q : a = i
    · subst q; rw [up_s, up_s]
    · rw [up_k q, up_k q, ha]
  refine ⟨fun j => ?_, fun a j h1 h5 => ?_, e 6 h.2.2.1, e 7 h.2.2.2.1, e 8 h.2.2.2.2⟩
  · rw [up_k (by omega), up_k (by omega)]; exact h.1 j
  · rw [up_k (by omega), up_k (by omega)]; exact h.2.1 a j h1 h5
theorem Ag.step {l : Nat} {s t : Vs} {tx : Tx} (h : Ag l s t) : Ag l (stepS tx s l) (stepS tx t l) := by
  have h8 : ∀ x, Ag l (up s 8 l x) (up t 8 l x) := fun x => h.pu (by decide)
  unfold stepS
  simp only []
  rw [h.2.2.1, h.who, h.2.2.2.1, h.2.2.2.2, h.2.1 5 l (by omega) (by omega), (h8 _).car, (h8 _).sof]
  split
  · exact h.pu (by decide)
  split
  · exact (h8 _).pu (by decide)
  split
  · exact ((h8 _).pu (by decide)).pu (by decide)
  · exact h8 _
theorem Ag.oth {l m : Nat} {s t : Vs} {tx : Tx} (h : Ag l s t) (hm : m ≠ l) : Ag l (if s 6 m = -1 then s else stepS tx s m) t := by
  split
  · exact h
  · refine ⟨fun j => ?_, fun a j h1 h5 => ?_, ?_, ?_, ?_⟩
    · rw [step_oth (Or.inr (by omega))]; exact h.1 j
    · rw [step_oth (Or.inr h5)]; exact h.2.1 a j h1 h5
    · rw [step_oth (Or.inl (Ne.symm hm))]; exact h.2.2.1
    · rw [step_oth (Or.inl (Ne.symm hm))]; exact h.2.2.2.1
    · rw [step_oth (Or.inl (Ne.symm hm))]; exact h.2.2.2.2
def stI (tx : Tx) (s : Vs) (l : Nat) : Vs := if s 6 l = -1 then s else stepS tx s l
theorem Ag.sti {l : Nat} {s t : Vs} {tx : Tx} (h : Ag l s t) : Ag l (if s 6 l = -1 then s else stepS tx s l) (stI tx t l) := by
  show Ag l (if s 6 l = -1 then s else stepS tx s l) (if t 6 l = -1 then t else stepS tx t l)
  rw [h.2.2.1]
  split
  · exact h
  · exact h.step
theorem Ag.dya {l : Nat} {tx : Tx} : ∀ (k m : Nat) (s t : Vs), Ag l s t → (m ≤ l → l < m + k → Ag l (dayA tx k m s) (stI tx t l)) ∧ (l < m → Ag l (dayA tx k m s) t) := by
  intro k
  induction k with
  | zero => intro m s t h; exact ⟨fun _ _ => absurd ‹l < m + 0› (by omega), fun _ => h⟩
  | succ k ih =>
    intro m s t h
    refine ⟨fun h1 h2 => ?_, fun h1 => ?_⟩
    · by_cases e : m = l
      · subst e
        exact (ih (m + 1) _ _ h.sti).2 (by omega)
      · exact (ih (m + 1) _ _ (h.oth e)).1 (by omega) (by omega)
    · exact (ih (m + 1) _ _ (h.oth (by omega))).2 (by omega)
def oneS (tx : Tx) (s : Vs) (l : Nat) : Vs := up (stI tx s l) 0 1 (stI tx s l 0 1 + 1)
theorem Ag.pu0 {l j : Nat} {s t : Vs} {x : Int32} (h : Ag l s t) : Ag l (up s 0 j x) (up t 0 j x) := by
  refine ⟨fun b => ?_, fun a b h1 h5 => ?_, ?_, ?_, ?_⟩
  · by_cases q : b = j
    · subst q; rw [up_s, up_s]
    · rw [up_j q, up_j q]; exact h.1 b
  · rw [up_k (by omega), up_k (by omega)]; exact h.2.1 a b h1 h5
  · rw [up_k (by omega), up_k (by omega)]; exact h.2.2.1
  · rw [up_k (by omega), up_k (by omega)]; exact h.2.2.2.1
  · rw [up_k (by omega), up_k (by omega)]; exact h.2.2.2.2
theorem Ag.day {l : Nat} {s t : Vs} {tx : Tx} (h : Ag l s t) (hl : l < vL s) : Ag l (dayS tx s) (oneS tx t l) := by
  have h1 := (Ag.dya (tx := tx) (vL s) 0 s t h).1 (by omega) (by omega)
  unfold dayS oneS
  rw [h1.1 1]
  exact h1.pu0
theorem WF.sti {T l : Nat} {tx : Tx} {s : Vs} (h : WF T s) (hl : l < vL s) : WF T (stI tx s l) := h.one hl
theorem WF.ones {T l : Nat} {tx : Tx} {s : Vs} (h : WF T s) (hl : l < vL s) : WF T (oneS tx s l) := (h.sti hl).up0 (Or.inl rfl)
theorem oneS_P {tx : Tx} {s : Vs} {l : Nat} : vP (oneS tx s l) = vP s ∧ vL (oneS tx s l) = vL s := by
  have q := one_P (tx := tx) (s := s) (l := l)
  unfold oneS
  rw [vP_up0 (by decide), vL_up0 (by decide)]
  exact ⟨q.1, q.2.1⟩
theorem x3_oneDay {M : Mm} {v T l : Nat} {tx : Tx} (hv : 7 ≤ v) (hx : TXx M T tx) (hw : WF T (nx M v)) (hl : l < vL (nx M v)) : ∃ M', m_X3_passDayOf v (nI l) M = some ((), M') ∧ nx M' v = oneS tx (nx M v) l ∧ FV v M M' := by
  have hc := hw.cv
  have e1 : ∀ N : Mm, nx N v 0 1 = N v 1 := fun N => nx_0 (by omega)
  unfold m_X3_passDayOf oneS stI
  by_cases ha : nx M v 6 l = -1
  · rw [x3_down_home hw hl ha, bd_s, lt1_d, if_pos ha]
    refine ⟨_, rfl, ?_, FV.up (i := 0) hv (by decide)⟩
    show nx (up M (v + 0) 1 (M v 1 + 1)) v = up (nx M v) 0 1 (nx M v 0 1 + 1)
    rw [nx_up hc (by omega), e1]
  · obtain ⟨M1, g1, g2, g3⟩ := x3_down hv hx hw hl ha
    have w1 : WF T (nx M1 v) := by rw [g2]; exact hw.step hl ha
    rw [g1, bd_s, lt1_d, if_neg ha, ← g2]
    refine ⟨_, rfl, ?_, g3.tr (FV.up (i := 0) hv (by decide))⟩
    show nx (up M1 (v + 0) 1 (M1 v 1 + 1)) v = up (nx M1 v) 0 1 (nx M1 v 0 1 + 1)
    rw [nx_up w1.cv (by omega), e1]
/-- keeping is 0: a thought begins as it is now -/
theorem keep0 {s : Vs} (h : s 0 6 = 0) : up s 0 6 0 = s := by
  have := up_self (M := s) (k := 0) (j := 6)
  rw [h] at this
  exact this
theorem comes_L {T l : Nat} {tx : Tx} : ∀ (k n fx fm : Nat) (A R : Mm), k < fx → k < fm → n + k = 61 → TXx A T tx → TXm R T tx → WF T (nx A 16) → WF T (nm R) → Ag l (nm R) (nx A 16) → l < vL (nm R) → ∃ (r : Int32) (A' R' : Mm), m_X4_comes_L27 fx (nI l) (nI n) A = some (r, A') ∧ m_X5_comes_L17 fm (nI l) (nI n) R = bd (m_X5_laysBack R') (fun _ N => some (r, N)) ∧ FV 16 A A' ∧ HV R R' := by
  intro k
  induction k with
  | zero =>
    intro n fx fm A R h1 h2 hn hx hm wa wr ag hl
    obtain ⟨fx, rfl⟩ : ∃ m, fx = m + 1 := ⟨fx - 1, by omega⟩
    obtain ⟨fm, rfl⟩ : ∃ m, fm = m + 1 := ⟨fm - 1, by omega⟩
    have q1 : (60 : Int32) < nI n := nI_lt (a := 60) (by omega) (by omega)
    have q2 : ¬ nI n ≤ (60 : Int32) := nI_ge (a := 60) (by omega) (by omega)
    show ∃ (r : Int32) (A' R' : Mm), m_X4_comes_B27 (m_X4_comes_L27 fx) (nI l) (nI n) A = _ ∧ m_X5_comes_B17 (m_X5_comes_L17 fm) (nI l) (nI n) R = _ ∧ _
    rw [m_X4_comes_B27, m_X5_comes_B17, if_pos q1, if_pos q1]
    refine ⟨-1, A, R, rfl, ?_, FV.rf, HV.rf⟩
    unfold m_X5_comes_J47
    simp only [if_neg q2]
  | succ k ih =>
    intro n fx fm A R h1 h2 hn hx hm wa wr ag hl
    obtain ⟨fx, rfl⟩ : ∃ m, fx = m + 1 := ⟨fx - 1, by omega⟩
    obtain ⟨fm, rfl⟩ : ∃ m, fm = m + 1 := ⟨fm - 1, by omega⟩
    have q1 : ¬ (60 : Int32) < nI n := nI_nlt (a := 60) (by omega) (by omega)
    have q2 : nI n ≤ (60 : Int32) := nI_le (b := 60) (by omega) (by omega)
    have h8 := wr.mv.2.2.2
    have la : l < vL (nx A 16) := by rw [← ag.P.2]; exact hl
    have e6 := (wr.mv.q hl).2.2.1
    have t6 := wa.cv.q (i := 6) (by omega) (by omega) la
    show ∃ (r : Int32) (A' R' : Mm), m_X4_comes_B27 (m_X4_comes_L27 fx) (nI l) (nI n) A = _ ∧ m_X5_comes_B17 (m_X5_comes_L17 fm) (nI l) (nI n) R = _ ∧ _
    rw [m_X4_comes_B27, m_X5_comes_B17, if_neg q1, if_neg q1, (x3_of_let wa.cv la).2.2.1, bd_s, pl5, pla3, inr_n (show 5 * l + 3 < 40 by omega) (by omega), gd_t, nI_clamp (show 5 * l + 3 < 2 ^ 31 by omega), ← t6, ← e6, ← ag.2.2.1]
    by_cases ha : nm R 6 l = -1
    · rw [if_pos ha, if_pos ha]
      refine ⟨nI n, A, R, rfl, ?_, FV.rf, HV.rf⟩
      unfold m_X5_comes_J47
      simp only [if_pos q2]
    · rw [if_neg ha, if_neg ha]
      obtain ⟨A1, a1, a2, a3⟩ := x3_oneDay (v := 16) (by omega) hx wa la
      obtain ⟨R1, b1, b2, b3⟩ := x5_day hm wr
      rw [a1, b1, bd_s, bd_s, lt1_d, lt1_d, nI_1]
      obtain ⟨r, A', R', c1, c2, c3, c4⟩ := ih (n + 1) fx fm A1 R1 (by omega) (by omega) (by omega) (FV.tx (by omega) hx a3) (HV.tx hm b3) (by rw [a2]; exact wa.ones la) (by rw [b2]; exact wr.day) (by rw [a2, b2]; exact ag.day hl) (by rw [b2, dayS_P.2]; exact hl)
      exact ⟨r, A', R', c1, c2, a3.tr c3, b3.tr c4⟩
theorem call_comes {Mx Mr : Mm} (h : Rel Mx Mr) (x : Int32) : Ans (m_X4_comes x Mx) (m_X5_comes x Mr) := by
  obtain ⟨T, tx, hR, hV⟩ := h
  obtain ⟨v1, v2, v3⟩ := id hV
  have hw : WF T (nx Mx 7) := by rw [v1]; exact v2
  have cx := hw.cv
  have cm := v2.mv
  rw [v1] at cx
  have h8 := cm.2.2.2
  unfold m_X4_comes m_X5_comes
  rcases ix_cases x (vL (nm Mr)) (by omega) with q | ⟨l, l1, rfl⟩
  · rw [x3_let_out cx q, x5_let_out cm q, bd_s, bd_s, if_pos rfl, if_pos rfl]
    exact ⟨_, _, _, rfl, rfl, T, tx, hR, hV⟩
  rw [x3_let_in cx l1, x5_let_in cm l1, bd_s, bd_s, if_neg one_ne0, if_neg one_ne0]
  obtain ⟨A1, a1, a2, a3⟩ := x3_take (M := Mx) (v := 16) (w := 7) (by omega) (by omega) hw
  rw [v1, keep0 v3.1] at a2
  obtain ⟨R1, c0, ca⟩ := x5_aside Mr
  have n1 : nm R1 = nm Mr := aside_nm ca.2.2.2
  obtain ⟨r, A', R', e1, e2, e3, e4⟩ := comes_L (T := T) (tx := tx) (l := l) 61 0 FU FU A1 R1 (by unfold FU; omega) (by unfold FU; omega) (by omega) (FV.tx (by omega) hR.1.1 a3) (aside_tx hR.1.2 ca.2.2.2) (by rw [a2]; exact v2) (by rw [n1]; exact v2) (by rw [a2, n1]; exact Ag.rf) (by rw [n1]; exact l1)
  obtain ⟨R3, f0, fc⟩ := x5_back R'
  have kr : KR Mr R3 := x5_between ca e4 fc
  have fv : FV 16 Mx A' := a3.tr e3
  rw [nI_0] at e1 e2
  rw [a1, c0, bd_s, bd_s, lt1_d, lt1_d, e1, e2, f0, bd_s]
  exact ⟨_, _, _, rfl, rfl, T, tx, hR.keep (fv.xk (Or.inr rfl)) kr.rk, hV.thought fv kr⟩
