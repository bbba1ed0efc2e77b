/-! the calls, one by one -/
theorem rg_out {z : Int32} {n : Nat} (hn : n + 1 < 2 ^ 31) (q : z < 0 ∨ nI (n + 1) ≤ z) : z < 0 ∨ (¬ z < 0 ∧ ¬ z ≤ nI n ∧ nI n < z) := by
  by_cases h : z < 0
  · exact Or.inl h
  · refine Or.inr ⟨h, ?_, ?_⟩
    · have q := q.resolve_left h
      rw [Int32.le_iff_toInt_le, nI_toInt hn] at q
      rw [Int32.le_iff_toInt_le, nI_toInt (by omega)]
      omega
    · have q := q.resolve_left h
      rw [Int32.le_iff_toInt_le, nI_toInt hn] at q
      rw [Int32.lt_iff_toInt_lt, nI_toInt (by omega)]
      omega
theorem rg_in {c n : Nat} (h : c < n + 1) (hn : n + 1 < 2 ^ 31) : ¬ nI c < 0 ∧ nI c ≤ nI n ∧ ¬ nI n < nI c := ⟨nI_pos (by omega), nI_le (by omega) (by omega), nI_nlt (by omega) (by omega)⟩
theorem call_writes {Mx Mr : Mm} (h : Rel Mx Mr) (x : Int32) : Ans (m_X4_writes x Mx) (m_X5_writes x Mr) := by
  obtain ⟨T, tx, hR, hV⟩ := h
  obtain ⟨v1, v2, v3⟩ := id hV
  have hw : WF T (nx Mx 7) := by rw [v1]; exact v2
  have cx := hw.cv
  have cm := v2.mv
  rw [v1] at cx
  have h5 := cm.2.1
  unfold m_X4_writes m_X5_writes
  rcases ix_cases x (vP (nm Mr)) (by omega) with q | ⟨p, p1, rfl⟩
  · rw [x3_one_out cx q, x5_one_out cm q, bd_s, bd_s, if_pos rfl, if_pos rfl]
    exact ⟨_, _, _, rfl, rfl, T, tx, hR, hV⟩
  · rw [x3_one_in cx p1, x5_one_in cm p1, bd_s, bd_s, if_neg one_ne0, if_neg one_ne0]
    obtain ⟨M1, a1, a2⟩ := x3_writes hR.1.1 (by omega) cx hw.rx p1
    obtain ⟨M2, b1, b2⟩ := x5_writes hR.1.2 cm v2.rm p1 (v2.2.2.1 p p1).1
    rw [a1, b1, bd_s, bd_s, v1]
    exact ⟨_, _, _, rfl, rfl, T, tx, hR.keep a2.xk b2.rk, hV.scratch a2 b2⟩
theorem call_asks {Mx Mr : Mm} (h : Rel Mx Mr) (x y z : Int32) : Ans (m_X4_asks x y z Mx) (m_X5_asks x y z Mr) := by
  obtain ⟨T, tx, hR, hV⟩ := h
  obtain ⟨v1, v2, v3⟩ := id hV
  have hw : WF T (nx Mx 7) := by rw [v1]; exact v2
  have cx := hw.cv
  have cm := v2.mv
  rw [v1] at cx
  have h5 := cm.2.1
  have h8 := cm.2.2.2
  unfold m_X4_asks m_X5_asks
  rcases ix_cases x (vP (nm Mr)) (by omega) with q | ⟨p, p1, rfl⟩
  · rw [x3_one_out cx q, x5_one_out cm q, bd_s, bd_s, if_pos rfl, if_pos rfl]
    exact ⟨_, _, _, rfl, rfl, T, tx, hR, hV⟩
  rw [x3_one_in cx p1, x5_one_in cm p1, bd_s, bd_s, if_neg one_ne0, if_neg one_ne0]
  rcases ix_cases y (vL (nm Mr)) (by omega) with q | ⟨l, l1, rfl⟩
  · rw [x3_let_out cx q, x5_let_out cm q, bd_s, bd_s, if_pos rfl, if_pos rfl]
    exact ⟨_, _, _, rfl, rfl, T, tx, hR, hV⟩
  rw [x3_let_in cx l1, x5_let_in cm l1, bd_s, bd_s, if_neg one_ne0, if_neg one_ne0]
  have rb : READB (nm Mr) l := by
    obtain ⟨-, -, -, -, k, k1, k2⟩ := v2.2.2.2.2 l l1
    exact ⟨k, by omega, k2⟩
  have kd := (v2.2.2.1 p p1).1
  rcases ix_cases z 2 (by omega) with q | ⟨c, c1, rfl⟩
  · rw [x5_in_out (n := 2) (b := 1) (by decide) (by omega) q, bd_s, if_pos rfl]
    have : (if z < 0 then some ((-1000 : Int32), Mx) else if z ≤ 1 then (if z = 1 then bd (m_X3_softens 7 (nI p) (nI l) Mx) fun r8 M7 => some (r8, M7) else bd (m_X3_carries 7 (nI p) (nI l) Mx) fun r6 M5 => if r6 = 0 then some (0, M5) else some (1, M5)) else some (-1000, Mx)) = some (-1000, Mx) := by
      rcases rg_out (n := 1) (by omega) q with q | ⟨q1, q2, -⟩
      · rw [if_pos q]
      · rw [if_neg q1, if_neg (show ¬ z ≤ 1 from q2)]
    rw [this]
    exact ⟨_, _, _, rfl, rfl, T, tx, hR, hV⟩
  · rw [x5_in_in (n := 1) (b := 1) (by decide) (by omega) (by omega), bd_s, if_neg one_ne0, if_neg (rg_in c1 (by omega)).1, if_pos (show nI c ≤ 1 from (rg_in c1 (by omega)).2.1)]
    by_cases e1 : nI c = 1
    · rw [if_pos e1, if_pos e1]
      obtain ⟨M1, a1, a2⟩ := x3_softens hR.1.1 (by omega) cx hw.rx p1 l1
      obtain ⟨M2, b1, b2⟩ := x5_softens hR.1.2 cm v2.rm p1 l1 kd rb
      rw [a1, b1, bd_s, bd_s, v1]
      exact ⟨_, _, _, rfl, rfl, T, tx, hR.keep a2.xk b2.rk, hV.scratch a2 b2⟩
    · rw [if_neg e1, if_neg e1]
      obtain ⟨M1, a1, a2⟩ := x3_carries hR.1.1 (by omega) cx hw.rx p1 l1
      obtain ⟨M2, b1, b2⟩ := x5_carries hR.1.2 cm v2.rm p1 l1 kd rb
      rw [a1, b1, bd_s, bd_s, v1]
      split
      · exact ⟨_, _, _, rfl, rfl, T, tx, hR.keep a2.xk b2.rk, hV.scratch a2 b2⟩
      · exact ⟨_, _, _, rfl, rfl, T, tx, hR.keep a2.xk b2.rk, hV.scratch a2 b2⟩
theorem call_day {Mx Mr : Mm} (h : Rel Mx Mr) (hcam : ∀ (T : Nat) (tx : Tx) (s : Vs), WF T s → camS tx s = (hosS (dayS tx s) &&& (hosS s ^^^ (-1)))) : Ans (m_X4_day Mx) (m_X5_day Mr) := by
  obtain ⟨T, tx, hR, hV⟩ := h
  obtain ⟨v1, v2, v3, d, d1, d2⟩ := id hV
  have hw : WF T (nx Mx 7) := by rw [v1]; exact v2
  have e1 : Mx 7 1 = nI d := by rw [← nx_0 (M := Mx) (v := 7) (by omega), v1, d2]
  have e2 : Mr 0 7 = nI d := (nm_0 (M := Mr)).1.symm.trans d2
  unfold m_X4_day m_X5_day
  rw [e1, e2]
  by_cases hd : d = 999
  · subst hd
    rw [if_neg (show ¬ nI 999 < (999 : Int32) by decide), if_pos (show nI 999 = (999 : Int32) from rfl)]
    exact ⟨_, _, _, rfl, rfl, T, tx, hR, hV⟩
  · have q1 : nI d < (999 : Int32) := nI_lt (b := 999) (by omega) (by omega)
    have q2 : ¬ nI d = (999 : Int32) := fun q => hd ((nI_eq (b := 999) (by omega) (by omega)).mp q)
    rw [if_pos q1, if_neg q2]
    obtain ⟨M1, a1, a2, a3⟩ := x3_day (v := 7) (by omega) hR.1.1 hw
    obtain ⟨M2, b1, b2, b3⟩ := x5_day hR.1.2 v2
    have w2 : WF T (nm M2) := by rw [b2]; exact v2.day
    rw [a1, bd_s, x5_homeSet v2.mv, bd_s, lt1_d, b1, bd_s, x5_homeSet w2.mv, bd_s, v1, hcam T tx _ v2, b2]
    refine ⟨_, _, _, rfl, rfl, T, tx, hR.keep (a3.xk (Or.inl rfl)) b3.rk, ?_, w2, ?_, d + 1, by omega, ?_⟩
    · rw [a2, b2, v1]
    · rw [b2]
      unfold dayS
      rw [up_j (by decide), (dayA_P _ _ _).2.2 6]
      exact v3
    · rw [b2]
      unfold dayS
      rw [up_s, (dayA_P _ _ _).2.2 1, d2, nI_1]
theorem call_run {Mx Mr : Mm} (h : Rel Mx Mr) (x y z : Int32) : Ans (m_X4_run x y z Mx) (m_X5_run x y z Mr) := by
  obtain ⟨T, tx, hR, hV⟩ := h
  obtain ⟨v1, v2, v3⟩ := id hV
  have hw : WF T (nx Mx 7) := by rw [v1]; exact v2
  have cx := hw.cv
  have cm := v2.mv
  rw [v1] at cx
  have h5 := cm.2.1
  have h8 := cm.2.2.2
  unfold m_X4_run m_X5_run
  rcases ix_cases x (vL (nm Mr)) (by omega) with q | ⟨l, l1, rfl⟩
  · rw [x3_let_out cx q, x5_let_out cm q, bd_s, bd_s, if_pos rfl, if_pos rfl]
    exact ⟨_, _, _, rfl, rfl, T, tx, hR, hV⟩
  rw [x3_let_in cx l1, x5_let_in cm l1, bd_s, bd_s, if_neg one_ne0, if_neg one_ne0]
  rcases ix_cases y 41 (by omega) with q | ⟨n, n1, rfl⟩
  · rw [x5_in_out (n := 41) (b := 40) (by decide) (by omega) q, bd_s, if_pos rfl]
    rcases rg_out (n := 40) (by omega) q with q | ⟨q1, q2, q3⟩
    · rw [if_pos q]
      exact ⟨_, _, _, rfl, rfl, T, tx, hR, hV⟩
    · rw [if_neg q1, if_pos (show (40 : Int32) < y from q3)]
      exact ⟨_, _, _, rfl, rfl, T, tx, hR, hV⟩
  have rn := rg_in (n := 40) n1 (by omega)
  rw [x5_in_in (n := 40) (b := 40) (by decide) (by omega) (by omega), bd_s, if_neg one_ne0, if_neg rn.1, if_neg (show ¬ (40 : Int32) < nI n from rn.2.2)]
  rcases ix_cases z 4 (by omega) with q | ⟨c, c1, rfl⟩
  · rw [x5_in_out (n := 4) (b := 3) (by decide) (by omega) q, bd_s, if_pos rfl]
    rcases rg_out (n := 3) (by omega) q with q | ⟨q1, q2, q3⟩
    · rw [if_pos q]
      exact ⟨_, _, _, rfl, rfl, T, tx, hR, hV⟩
    · rw [if_neg q1, if_neg (show ¬ z ≤ 3 from q2)]
      exact ⟨_, _, _, rfl, rfl, T, tx, hR, hV⟩
  have rc := rg_in (n := 3) c1 (by omega)
  rw [x5_in_in (n := 3) (b := 3) (by decide) (by omega) (by omega), bd_s, if_neg one_ne0, if_neg rc.1, if_pos (show nI c ≤ 3 from rc.2.1)]
  -- the class's thought
  obtain ⟨A1, a1, a2, a3⟩ := x3_take (M := Mx) (v := 16) (w := 7) (by omega) (by omega) hw
  have k0 : up (nm Mr) 0 6 0 = nm Mr := by
    have := up_self (M := nm Mr) (k := 0) (j := 6)
    rw [v3.1] at this
    exact this
  rw [v1, k0] at a2
  obtain ⟨A2, b1, b2, b3⟩ := x3_days (v := 16) (N := n) (by omega) (by omega) (FV.tx (by omega) hR.1.1 a3) (by rw [a2]; exact v2)
  rw [a2] at b2
  -- the reference's
  obtain ⟨R1, c0, ca⟩ := x5_aside Mr
  have n1' : nm R1 = nm Mr := aside_nm ca.2.2.2
  obtain ⟨R2, d0, d1, d2⟩ := x5_days (N := n) (by omega) (aside_tx hR.1.2 ca.2.2.2) (by rw [n1']; exact v2)
  rw [n1'] at d1
  obtain ⟨R3, e0, ec⟩ := x5_back R2
  have kr : KR Mr R3 := x5_between ca d2 ec
  have fv : FV 16 Mx A2 := a3.tr b3
  have wd : WF T (daysS tx n (nm Mr)) := v2.days n _
  have wa : WF T (nx A2 16) := by rw [b2]; exact wd
  have wr : WF T (nm R2) := by rw [d1]; exact wd
  have la : l < vL (nx A2 16) := by rw [b2, (daysS_P n _).2]; exact l1
  have lr : l < vL (nm R2) := by rw [d1, (daysS_P n _).2]; exact l1
  obtain ⟨-, -, o3, o4, o5⟩ := x3_of_let wa.cv la
  obtain ⟨-, -, s6, s7, s8⟩ := wr.mv.q lr
  have t6 := wa.cv.q (i := 6) (by omega) (by omega) la
  have t7 := wa.cv.q (i := 7) (by omega) (by omega) la
  have t8 := wa.cv.q (i := 8) (by omega) (by omega) la
  have fin : Rel A2 R3 := ⟨T, tx, hR.keep (fv.xk (Or.inr rfl)) kr.rk, hV.thought fv kr⟩
  rw [a1, bd_s, b1, bd_s, c0, bd_s, d0, bd_s, pl5, lt1_d]
  have bk : ∀ v : Int32, m_X5_run_J101 v R2 = some (v, R3) := by
    intro v
    unfold m_X5_run_J101
    rw [lt1_d, e0, bd_s]
  rw [pla3, pla4, inr_n (show 5 * l + 3 < 40 by omega) (by omega), inr_n (show 5 * l < 40 by omega) (by omega), inr_n (show 5 * l + 4 < 40 by omega) (by omega), gd_t, gd_t, gd_t, nI_clamp (show 5 * l + 3 < 2 ^ 31 by omega), nI_clamp (show 5 * l < 2 ^ 31 by omega), nI_clamp (show 5 * l + 4 < 2 ^ 31 by omega), bk, bk, bk]
  by_cases z0 : nI c = 0
  · rw [if_pos z0, if_pos z0, o3, bd_s, ← t6, ← s6, b2, d1]
    exact ⟨_, _, _, rfl, rfl, fin⟩
  rw [if_neg z0, if_neg z0]
  by_cases z1 : nI c = 1
  · rw [if_pos z1, if_pos z1, o4, bd_s, ← t7, ← s7, b2, d1]
    exact ⟨_, _, _, rfl, rfl, fin⟩
  rw [if_neg z1, if_neg z1]
  by_cases z2 : nI c = 2
  · rw [if_pos z2, if_pos z2, o5, bd_s, ← t8, ← s8, b2, d1]
    exact ⟨_, _, _, rfl, rfl, fin⟩
  rw [if_neg z2, if_neg z2, x3_homes wa.cv, x5_homeMany wr.mv, bd_s, bd_s, bk, b2, d1]
  exact ⟨_, _, _, rfl, rfl, fin⟩
