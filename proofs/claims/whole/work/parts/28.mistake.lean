/-! a mistake thought through -/
def slA (b : Nat) : Nat → Nat → Vs → Vs
  | 0, _, s => s
  | k + 1, l, s => slA b k (l + 1) (if s 6 l = -1 then s else up s 6 l (irm (s 3 (s 5 l).toNatClampNeg + nI b) 8))
theorem irm8 : ∀ h, h < 8 → ∀ b, b < 8 → irm (nI h + nI b) 8 = nI ((h + b) % 8) := by decide +kernel
theorem sl_one {T l b : Nat} {s : Vs} (h : WF T s) (hl : l < vL s) (hb : b < 8) : WF T (if s 6 l = -1 then s else up s 6 l (irm (s 3 (s 5 l).toNatClampNeg + nI b) 8)) ∧ vP (if s 6 l = -1 then s else up s 6 l (irm (s 3 (s 5 l).toNatClampNeg + nI b) 8)) = vP s ∧ vL (if s 6 l = -1 then s else up s 6 l (irm (s 3 (s 5 l).toNatClampNeg + nI b) 8)) = vL s := by
  split
  · exact ⟨h, rfl, rfl⟩
  · obtain ⟨-, ⟨c, c1, c2⟩, -⟩ := h.2.2.2.2 l hl
    have h5 := h.1.2.1
    obtain ⟨k, k1, k2⟩ := (h.2.2.1 c c1).2.2
    refine ⟨h.upl (Or.inl ⟨rfl, Or.inr ⟨(k + b) % 8, by omega, ?_⟩⟩), vP_up (by decide), vL_up (by decide)⟩
    rw [c2, nI_clamp (by omega), k2, irm8 k k1 b hb]
theorem slA_P {T b : Nat} (hb : b < 8) : ∀ (k l : Nat) (s : Vs), WF T s → l + k ≤ vL s → WF T (slA b k l s) ∧ vP (slA b k l s) = vP s ∧ vL (slA b k l s) = vL s := by
  intro k
  induction k with
  | zero => intro l s h _; exact ⟨h, rfl, rfl⟩
  | succ k ih =>
    intro l s h hl
    obtain ⟨a1, a2, a3⟩ := sl_one h (l := l) (by omega) hb
    obtain ⟨b1, b2, b3⟩ := ih (l + 1) _ a1 (by omega)
    exact ⟨b1, b2.trans a2, b3.trans a3⟩
theorem dec8' : (!(decide ((8 : Int32) = 0))) = true := by decide
theorem x3_slip_L {v T b : Nat} (hv : 7 ≤ v) (hb : b < 8) : ∀ (k i n : Nat) (M : Mm), k < n → i + k = vL (nx M v) → WF T (nx M v) → ∃ M', m_X3_slipAll_L2 v n (nI b) (nI i) M = some ((), M') ∧ nx M' v = slA b k i (nx M v) ∧ FV v M M' := by
  intro k
  induction k with
  | zero =>
    intro i n M hn hi hw
    obtain ⟨n, rfl⟩ : ∃ m, n = m + 1 := ⟨n - 1, by omega⟩
    have hc := hw.cv
    have h8 := hc.2.2.2
    show ∃ M', m_X3_slipAll_B2 v (m_X3_slipAll_L2 v n) (nI b) (nI i) M = _ ∧ _
    rw [m_X3_slipAll_B2, hc.2.2.1, if_pos (nI_le (by omega) (by omega))]
    exact ⟨M, rfl, rfl, FV.rf⟩
  | succ k ih =>
    intro i n M hn hi hw
    obtain ⟨n, rfl⟩ : ∃ m, n = m + 1 := ⟨n - 1, by omega⟩
    have hc := hw.cv
    have h8 := hc.2.2.2
    have h5 := hc.2.1
    have il : i < vL (nx M v) := by omega
    obtain ⟨o1, o2, o3⟩ := sl_one hw il hb
    have e6 : nx M v 6 i = M (v + 6) i := hc.q (by omega) (by omega) il
    have e5 : nx M v 5 i = M (v + 5) i := hc.q (by omega) (by omega) il
    obtain ⟨-, ⟨c, c1, c2⟩, -⟩ := hw.2.2.2.2 i il
    have e3 : nx M v 3 c = M (v + 3) c := hc.r (by omega) (by omega) c1
    show ∃ M', m_X3_slipAll_B2 v (m_X3_slipAll_L2 v n) (nI b) (nI i) M = _ ∧ nx M' v = slA b k (i + 1) _ ∧ _
    rw [m_X3_slipAll_B2, hc.2.2.1, if_neg (nI_ge (by omega) (by omega)), if_neg (show ¬ (8 : Int32) ≤ nI i from nI_ge (b := 8) (by omega) (by omega)), inr_n (by omega) (by omega), gd_t, nI_clamp (by omega)]
    unfold m_X3_slipAll_J47
    by_cases e : M (v + 6) i = -1
    · rw [if_pos e, lt1_d, nI_1, if_pos (by rw [e6]; exact e)]
      exact ih (i + 1) n M (by omega) (by omega) hw
    · rw [if_neg e, gd_t, ← e5, c2, (x3_of_one hc c1).2.2, bd_s, dec8', gd_t, gd_t, lt1_d, lt1_d, nI_1, if_neg (by rw [e6]; exact e), nI_clamp (by omega), e3]
      have g : nx (up M (v + 6) i (irm (M (v + 3) c + nI b) 8)) v = up (nx M v) 6 i (irm (M (v + 3) c + nI b) 8) := nx_up hc (by omega)
      rw [if_neg (by rw [e6]; exact e), c2, nI_clamp (by omega), e3] at o1 o2 o3
      obtain ⟨M', m1, m2, m3⟩ := ih (i + 1) n (up M (v + 6) i (irm (M (v + 3) c + nI b) 8)) (by omega) (by rw [g, o3]; omega) (by rw [g]; exact o1)
      exact ⟨M', m1, by rw [m2, g], (FV.up hv (by omega)).tr m3⟩
theorem x3_slip {M : Mm} {v T b : Nat} (hv : 7 ≤ v) (hb : b < 8) (hw : WF T (nx M v)) : ∃ M', m_X3_slipAll v (nI b) M = some ((), M') ∧ nx M' v = slA b (vL (nx M v)) 0 (nx M v) ∧ FV v M M' := by
  have h8 := hw.1.2.2.2
  obtain ⟨M', m1, m2⟩ := x3_slip_L hv hb (vL (nx M v)) 0 FU M (by unfold FU; omega) (by omega) hw
  rw [nI_0] at m1
  exact ⟨M', m1, m2⟩
theorem x5_slip_L {T b N : Nat} (hb : b < 8) : ∀ (k i n : Nat) (M : Mm), k < n → i + k = vL (nm M) → WF T (nm M) → ∃ M1, m_X5_homeBySlip_L6 n (nI b) (nI N) (nI i) M = (bd (m_X5_go (nI N) M1) fun _ M3 => bd (m_X5_homeMany M3) fun r5 M4 => lt1 r5 fun y6 => bd (m_X5_laysBack M4) fun _ M7 => some (y6, M7)) ∧ nm M1 = slA b k i (nm M) ∧ HV M M1 := by
  intro k
  induction k with
  | zero =>
    intro i n M hn hi hw
    obtain ⟨n, rfl⟩ : ∃ m, n = m + 1 := ⟨n - 1, by omega⟩
    have hc := hw.mv
    have h8 := hc.2.2.2
    show ∃ M1, m_X5_homeBySlip_B6 (m_X5_homeBySlip_L6 n) (nI b) (nI N) (nI i) M = _ ∧ _
    rw [m_X5_homeBySlip_B6, hc.2.2.1, if_pos (nI_le (by omega) (by omega))]
    exact ⟨M, rfl, rfl, HV.rf⟩
  | succ k ih =>
    intro i n M hn hi hw
    obtain ⟨n, rfl⟩ : ∃ m, n = m + 1 := ⟨n - 1, by omega⟩
    have hc := hw.mv
    have h8 := hc.2.2.2
    have h5 := hc.2.1
    have il : i < vL (nm M) := by omega
    obtain ⟨o1, o2, o3⟩ := sl_one hw il hb
    obtain ⟨-, e5, e6, -, -⟩ := hc.q il
    obtain ⟨-, ⟨c, c1, c2⟩, -⟩ := hw.2.2.2.2 i il
    have e3 := (hc.r c1).2.2
    show ∃ M1, m_X5_homeBySlip_B6 (m_X5_homeBySlip_L6 n) (nI b) (nI N) (nI i) M = _ ∧ nm M1 = slA b k (i + 1) _ ∧ _
    rw [m_X5_homeBySlip_B6, hc.2.2.1, if_neg (nI_ge (by omega) (by omega)), lt1_d, pl5, pla3, pla2, inr_n (show 5 * i + 3 < 40 by omega) (by omega), gd_t, nI_clamp (show 5 * i + 3 < 2 ^ 31 by omega)]
    unfold m_X5_homeBySlip_J67
    by_cases e : M 5 (5 * i + 3) = -1
    · rw [if_pos e, inr_n (show 5 * i + 3 < 40 by omega) (by omega), gd_t, lt1_d, lt1_d, nI_1, nI_clamp (show 5 * i + 3 < 2 ^ 31 by omega), if_pos (by rw [e6]; exact e)]
      have : up M 5 (5 * i + 3) (-1) = M := by rw [← e]; exact up_self
      rw [this]
      exact ih (i + 1) n M (by omega) (by omega) hw
    · rw [if_neg e, inr_n (show 5 * i + 2 < 40 by omega) (by omega), gd_t, nI_clamp (show 5 * i + 2 < 2 ^ 31 by omega), ← e5, c2, pl3, pla2, inr_n (show 3 * c + 2 < 15 by omega) (by omega), gd_t, dec8', gd_t, inr_n (show 5 * i + 3 < 40 by omega) (by omega), gd_t, lt1_d, lt1_d, nI_1, nI_clamp (show 5 * i + 3 < 2 ^ 31 by omega), nI_clamp (show 3 * c + 2 < 2 ^ 31 by omega), if_neg (by rw [e6]; exact e), nI_clamp (by omega), e3]
      have g : nm (up M 5 (5 * i + 3) (irm (M 4 (3 * c + 2) + nI b) 8)) = up (nm M) 6 i (irm (M 4 (3 * c + 2) + nI b) 8) := nm_up (c := 3) (r := 6) hc il (by omega)
      rw [if_neg (by rw [e6]; exact e), c2, nI_clamp (by omega), e3] at o1 o2 o3
      obtain ⟨M', m1, m2, m3⟩ := ih (i + 1) n (up M 5 (5 * i + 3) (irm (M 4 (3 * c + 2) + nI b) 8)) (by omega) (by rw [g, o3]; omega) (by rw [g]; exact o1)
      exact ⟨M', m1, by rw [m2, g], HV.put.tr m3⟩
theorem x5_hbs {M : Mm} {T b N : Nat} {tx : Tx} (hb : b < 8) (hN : N < 1000) (hx : TXm M T tx) (hw : WF T (nm M)) : ∃ M', m_X5_homeBySlip (nI b) (nI N) M = some (homS (daysS tx N (slA b (vL (nm M)) 0 (nm M))), M') ∧ KR M M' := by
  have h8 := hw.1.2.2.2
  obtain ⟨M1, a0, a⟩ := x5_aside M
  have n1 : nm M1 = nm M := aside_nm a.2.2.2
  obtain ⟨M2, b0, b1, b2⟩ := x5_slip_L (N := N) hb (vL (nm M1)) 0 FU M1 (by rw [n1]; unfold FU; omega) (by omega) (by rw [n1]; exact hw)
  rw [n1] at b1
  have w2 : WF T (nm M2) := by rw [b1]; exact (slA_P hb _ 0 _ hw (by omega)).1
  obtain ⟨M3, c0, c1, c2⟩ := x5_days hN (HV.tx (aside_tx hx a.2.2.2) b2) w2
  have w3 : WF T (nm M3) := by rw [c1]; exact w2.days N _
  obtain ⟨M4, d0, d⟩ := x5_back M3
  refine ⟨M4, ?_, x5_between a (b2.tr c2) d⟩
  unfold m_X5_homeBySlip
  rw [nI_0] at b0
  rw [a0, bd_s, lt1_d, b0, c0, bd_s, x5_homeMany w3.mv, bd_s, lt1_d, d0, bd_s, c1, b1]
theorem RelV.th2 {T : Nat} {Mx Mr Mx' Mr' : Mm} (h : RelV T Mx Mr) (hx : FV 16 Mx Mx') (hr : nm Mr' = nm Mr) : RelV T Mx' Mr' := by
  obtain ⟨h1, h2, h3⟩ := h
  have e1 := hx.nxe (u := 7) (by omega) (by omega)
  unfold RelV
  rw [e1, hr]
  exact ⟨h1, h2, h3⟩
theorem mist_L {T N : Nat} {tx : Tx} {w : Int32} (hN : N < 1000) : ∀ (k i fx fm : Nat) (best most : Int32) (A R : Mm), k < fx → k < fm → i + k = 8 → Rest T tx A R → RelV T A R → Ans (m_X4_mistake_L30 fx (nI N) w best most (nI i) A) (m_X5_mistake_L33 fm (nI N) w best most (nI i) R) := by
  intro k
  induction k with
  | zero =>
    intro i fx fm best most A R h1 h2 hi hR hV
    obtain ⟨fx, rfl⟩ : ∃ m, fx = m + 1 := ⟨fx - 1, by omega⟩
    obtain ⟨fm, rfl⟩ : ∃ m, fm = m + 1 := ⟨fm - 1, by omega⟩
    show Ans (m_X4_mistake_B30 (m_X4_mistake_L30 fx) (nI N) w best most (nI i) A) (m_X5_mistake_B33 (m_X5_mistake_L33 fm) (nI N) w best most (nI i) R)
    have e2 : (8 : Int32) ≤ nI i := nI_le (a := 8) (by omega) (by omega)
    rw [m_X4_mistake_B30, m_X5_mistake_B33, if_pos e2, if_pos e2]
    split
    · exact ⟨_, _, _, rfl, rfl, T, tx, hR, hV⟩
    · exact ⟨_, _, _, rfl, rfl, T, tx, hR, hV⟩
  | succ k ih =>
    intro i fx fm best most A R h1 h2 hi hR hV
    obtain ⟨fx, rfl⟩ : ∃ m, fx = m + 1 := ⟨fx - 1, by omega⟩
    obtain ⟨fm, rfl⟩ : ∃ m, fm = m + 1 := ⟨fm - 1, by omega⟩
    obtain ⟨v1, v2, v3⟩ := id hV
    have hw : WF T (nx A 7) := by rw [v1]; exact v2
    have h8 := v2.1.2.2.2
    show Ans (m_X4_mistake_B30 (m_X4_mistake_L30 fx) (nI N) w best most (nI i) A) (m_X5_mistake_B33 (m_X5_mistake_L33 fm) (nI N) w best most (nI i) R)
    have e2 : ¬ (8 : Int32) ≤ nI i := nI_ge (b := 8) (by omega) (by omega)
    obtain ⟨A1, a1, a2, a3⟩ := x3_take (M := A) (v := 16) (w := 7) (by omega) (by omega) hw
    rw [v1, keep0 v3.1] at a2
    obtain ⟨A2, b1, b2, b3⟩ := x3_slip (M := A1) (v := 16) (T := T) (b := i) (by omega) (by omega) (by rw [a2]; exact v2)
    rw [a2] at b2
    have ws : WF T (slA i (vL (nm R)) 0 (nm R)) := (slA_P (by omega) _ 0 _ v2 (by omega)).1
    obtain ⟨A3, c1, c2, c3⟩ := x3_days (M := A2) (v := 16) (N := N) (by omega) hN (FV.tx (by omega) hR.1.1 (a3.tr b3)) (by rw [b2]; exact ws)
    rw [b2] at c2
    obtain ⟨R1, d1, d2⟩ := x5_hbs (b := i) (N := N) (by omega) hN hR.1.2 v2
    have w3 : WF T (nx A3 16) := by rw [c2]; exact ws.days N _
    have fv : FV 16 A A3 := (a3.tr b3).tr c3
    rw [m_X4_mistake_B30, m_X5_mistake_B33, if_neg e2, if_neg e2, a1, bd_s, b1, bd_s, c1, bd_s, x3_homes w3.cv, bd_s, lt1_d, d1, bd_s, lt1_d, c2]
    unfold m_X4_mistake_J88 m_X5_mistake_J63
    by_cases e : homS (daysS tx N (slA i (vL (nm R)) 0 (nm R))) ≤ most
    · rw [if_pos e, lt1_d, lt1_d, if_pos e, lt1_d, nI_1]
      exact ih (i + 1) fx fm _ _ A3 R1 (by omega) (by omega) (by omega) (hR.keep (fv.xk (Or.inr rfl)) d2.rk) (hV.thought fv d2)
    · rw [if_neg e, lt1_d, lt1_d, lt1_d, if_neg e, lt1_d, lt1_d, lt1_d, nI_1]
      exact ih (i + 1) fx fm _ _ A3 R1 (by omega) (by omega) (by omega) (hR.keep (fv.xk (Or.inr rfl)) d2.rk) (hV.thought fv d2)
theorem call_mistake {Mx Mr : Mm} (h : Rel Mx Mr) (x y : Int32) : Ans (m_X4_mistake x y Mx) (m_X5_mistake x y Mr) := by
  obtain ⟨T, tx, hR, hV⟩ := id h
  unfold m_X4_mistake m_X5_mistake
  rcases ix_cases x 41 (by omega) with q | ⟨N, N1, rfl⟩
  · rw [x5_in_out (n := 41) (b := 40) (by decide) (by omega) q, bd_s, if_pos rfl]
    rcases rg_out (n := 40) (by omega) q with q | ⟨q1, q2, q3⟩
    · rw [if_pos q]
      exact ⟨_, _, _, rfl, rfl, h⟩
    · rw [if_neg q1, if_pos (show (40 : Int32) < x from q3)]
      exact ⟨_, _, _, rfl, rfl, h⟩
  have rn := rg_in (n := 40) N1 (by omega)
  rw [x5_in_in (n := 40) (b := 40) (by decide) (by omega) (by omega), bd_s, if_neg one_ne0, if_neg rn.1, if_neg (show ¬ (40 : Int32) < nI N from rn.2.2)]
  rcases ix_cases y 2 (by omega) with q | ⟨w, w1, rfl⟩
  · rw [x5_in_out (n := 2) (b := 1) (by decide) (by omega) q, bd_s, if_pos rfl]
    rcases rg_out (n := 1) (by omega) q with q | ⟨q1, q2, q3⟩
    · rw [if_pos q]
      exact ⟨_, _, _, rfl, rfl, h⟩
    · rw [if_neg q1, if_neg (show ¬ y ≤ (1 : Int32) from q2)]
      exact ⟨_, _, _, rfl, rfl, h⟩
  have rw' := rg_in (n := 1) w1 (by omega)
  rw [x5_in_in (n := 1) (b := 1) (by decide) (by omega) (by omega), bd_s, if_neg one_ne0, if_neg rw'.1, if_pos (show nI w ≤ (1 : Int32) from rw'.2.1), lt1_d, lt1_d, lt1_d, lt1_d, lt1_d, lt1_d]
  have := mist_L (T := T) (tx := tx) (N := N) (w := nI w) (by omega) 8 0 FU FU 0 (-1) Mx Mr (by unfold FU; omega) (by unfold FU; omega) (by omega) hR hV
  rw [nI_0] at this
  exact this
