/-! who reads one letter behind days -/
def onesS (tx : Tx) (l : Nat) : Nat → Vs → Vs
  | 0, s => s
  | n + 1, s => onesS tx l n (oneS tx s l)
theorem Ag.dys {l : Nat} {tx : Tx} : ∀ (n : Nat) (s t : Vs), Ag l s t → l < vL s → Ag l (daysS tx n s) (onesS tx l n t) := by
  intro n
  induction n with
  | zero => intro s t h _; exact h
  | succ n ih =>
    intro s t h hl
    exact ih _ _ (h.day hl) (by rw [dayS_P.2]; exact hl)
theorem x3_rb_L {v T N l : Nat} {tx : Tx} (hv : 7 ≤ v) (hN : N < 2 ^ 30) : ∀ (k i n : Nat) (M : Mm), k < n → i + k = N → WF T (nx M v) → TXx M T tx → l < vL (nx M v) → ∃ M', m_X3_readBehind_L2 v n (nI l) (nI N) (nI i) M = some (onesS tx l k (nx M v) 8 l, M') ∧ FV v M M' := by
  intro k
  induction k with
  | zero =>
    intro i n M hn hi hw hx hl
    obtain ⟨n, rfl⟩ : ∃ m, n = m + 1 := ⟨n - 1, by omega⟩
    show ∃ M', m_X3_readBehind_B2 v (m_X3_readBehind_L2 v n) (nI l) (nI N) (nI i) M = _ ∧ _
    rw [m_X3_readBehind_B2, if_pos (nI_le (by omega) (by omega)), (x3_of_let hw.cv hl).2.2.2.2, bd_s]
    exact ⟨M, by rw [← hw.cv.q (i := 8) (by omega) (by omega) hl]; rfl, FV.rf⟩
  | succ k ih =>
    intro i n M hn hi hw hx hl
    obtain ⟨n, rfl⟩ : ∃ m, n = m + 1 := ⟨n - 1, by omega⟩
    obtain ⟨M1, g1, g2, g3⟩ := x3_oneDay hv hx hw hl
    show ∃ M', m_X3_readBehind_B2 v (m_X3_readBehind_L2 v n) (nI l) (nI N) (nI i) M = _ ∧ _
    rw [m_X3_readBehind_B2, if_neg (nI_ge (by omega) (by omega)), g1, bd_s, lt1_d, nI_1]
    obtain ⟨M', m1, m2⟩ := ih (i + 1) n M1 (by omega) (by omega) (by rw [g2]; exact hw.ones hl) (FV.tx hv hx g3) (by rw [g2, oneS_P.2]; exact hl)
    exact ⟨M', by rw [m1, g2]; rfl, g3.tr m2⟩
theorem x3_rb {M : Mm} {v T N l : Nat} {tx : Tx} (hv : 7 ≤ v) (hN : N < 1000) (hx : TXx M T tx) (hw : WF T (nx M v)) (hl : l < vL (nx M v)) : ∃ M', m_X3_readBehind v (nI l) (nI N) M = some (daysS tx N (nx M v) 8 l, M') ∧ FV v M M' := by
  obtain ⟨M', m1, m2⟩ := x3_rb_L (v := v) (N := N) hv (by omega) N 0 FU M (by unfold FU; omega) (by omega) hw hx hl
  refine ⟨M', ?_, m2⟩
  unfold m_X3_readBehind
  rw [lt1_d, ← nI_0, m1, ((Ag.rf (l := l) (s := nx M v)).dys (tx := tx) N _ _ hl).2.2.2.2]
theorem x5_run2 {M : Mm} {T N l : Nat} {tx : Tx} (hN : N ≤ 40) (hx : TXm M T tx) (hw : WF T (nm M)) (hl : l < vL (nm M)) : ∃ M', m_X5_run (nI l) (nI N) 2 M = some (daysS tx N (nm M) 8 l, M') ∧ KR M M' := by
  have h8 := hw.1.2.2.2
  obtain ⟨R1, c0, ca⟩ := x5_aside M
  have n1 : nm R1 = nm M := aside_nm ca.2.2.2
  obtain ⟨R2, d0, d1, d2⟩ := x5_days (N := N) (by omega) (aside_tx hx ca.2.2.2) (by rw [n1]; exact hw)
  rw [n1] at d1
  obtain ⟨R3, e0, ec⟩ := x5_back R2
  have wr : WF T (nm R2) := by rw [d1]; exact hw.days N _
  have lr : l < vL (nm R2) := by rw [d1, (daysS_P N _).2]; exact hl
  refine ⟨R3, ?_, x5_between ca d2 ec⟩
  unfold m_X5_run m_X5_run_J101
  rw [x5_let_in hw.mv hl, bd_s, if_neg one_ne0, x5_in_in (n := 40) (b := 40) (by decide) (by omega) (by omega), bd_s, if_neg one_ne0, show ((2 : Int32).toInt64) = (nI 2).toInt64 from rfl, x5_in_in (n := 3) (b := 3) (by decide) (by omega) (by omega), bd_s, if_neg one_ne0, c0, bd_s, d0, bd_s, pl5, lt1_d]
  rw [if_neg (show ¬ (2 : Int32) = 0 by decide), if_neg (show ¬ (2 : Int32) = 1 by decide), if_pos rfl, pla4, inr_n (show 5 * l + 4 < 40 by omega) (by omega), gd_t, nI_clamp (show 5 * l + 4 < 2 ^ 31 by omega), lt1_d, e0, bd_s, ← (wr.mv.q lr).2.2.2.2, d1]
theorem up_up {M : Mm} {k j : Nat} {x y : Int32} : up (up M k j x) k j y = up M k j y := by
  funext a b
  by_cases h : a = k
  · subst h
    by_cases g : b = j
    · subst g; rw [up_s, up_s]
    · rw [up_j g, up_j g, up_j g]
  · rw [up_k h, up_k h, up_k h]
theorem sh1P : ∀ P, P < 6 → shl 1 (nI P) = nI (2 ^ P) := by decide +kernel
/-- the reference's keepers are z -/
def HS (T : Nat) (tx : Tx) (s : Vs) (A R : Mm) : Prop := Rest T tx A R ∧ nx A 7 = s ∧ (∃ z, nm R = up s 0 6 z) ∧ WF T s ∧ s 0 6 = 0
theorem hide_P {T N l i : Nat} {tx : Tx} {s : Vs} {x2 x4 b : Int32} {A R : Mm} (n : Int32 → Int32 → Int32 → Int32 → Int32 → Int32 → Mm → Option (Int32 × Mm)) (n' : Int32 → Int32 → Int32 → Int32 → Int32 → Int32 → Mm → Option (Int32 × Mm)) (hN : N ≤ 40) (h : HS T tx s A R) (hl : l < vL s) : ∃ (v : Int32) (A' R' : Mm), m_X4_hide_J88 n (nI l) x2 (nI N) x4 b (nI i) A = (if (shr v x2) &&& 1 = 0 then n (nI l) x2 (nI N) x4 (nI i) (nI (i + 1)) A' else n (nI l) x2 (nI N) x4 b (nI (i + 1)) A') ∧ m_X5_hide_J78 n' (nI l) x2 (nI N) x4 b (nI i) R = (if (shr v x2) &&& 1 = 0 then n' (nI l) x2 (nI N) x4 (nI i) (nI (i + 1)) R' else n' (nI l) x2 (nI N) x4 b (nI (i + 1)) R') ∧ HS T tx s A' R' := by
  obtain ⟨hR, hA, ⟨z, hz⟩, hw, s6⟩ := h
  have hwA : WF T (nx A 7) := by rw [hA]; exact hw
  obtain ⟨A1, a1, a2, a3⟩ := x3_take (M := A) (v := 16) (w := 7) (by omega) (by omega) hwA
  rw [hA, keep0 s6] at a2
  have wi : WF T (up s 0 6 (nI i)) := hw.up0 (Or.inr rfl)
  have li : l < vL (up s 0 6 (nI i)) := by rw [vL_up0 (by decide)]; exact hl
  have g2 : nx (up A1 16 6 (nI i)) 16 = up s 0 6 (nI i) := by
    have cA : CV A1 16 (vP s) (vL s) := by
      have : WF T (nx A1 16) := by rw [a2]; exact hw
      have := this.cv
      rw [a2] at this
      exact this
    have := nx_up (M := A1) (v := 16) (i := 0) (j := 6) (x := nI i) cA (by omega)
    rw [a2] at this
    exact this
  have f1 : FV 16 A (up A1 16 6 (nI i)) := a3.tr (FV.up (v := 16) (i := 0) (by omega) (by omega))
  obtain ⟨A2, b1, b2⟩ := x3_rb (M := up A1 16 6 (nI i)) (v := 16) (N := N) (l := l) (by omega) (by omega) (FV.tx (by omega) hR.1.1 f1) (by rw [g2]; exact wi) (by rw [g2]; exact li)
  rw [g2] at b1
  have r1 : nm (up R 0 13 (nI i)) = up s 0 6 (nI i) := by rw [nm_up0 (r := 6) (by omega), hz, up_up]
  have rk : RK R (up R 0 13 (nI i)) := RK.up0 (by omega)
  obtain ⟨R2, c1, c2⟩ := x5_run2 (M := up R 0 13 (nI i)) (N := N) (l := l) hN (rk.tx hR.1.2) (by rw [r1]; exact wi) (by rw [r1]; exact li)
  rw [r1] at c1
  have fv : FV 16 A A2 := f1.tr b2
  refine ⟨daysS tx N (up s 0 6 (nI i)) 8 l, A2, R2, ?_, ?_, hR.keep (fv.xk (Or.inr rfl)) (rk.tr c2.rk), ?_, ⟨nI i, ?_⟩, hw, s6⟩
  · unfold m_X4_hide_J88 m_X4_hide_J128
    rw [a1, bd_s, lt1_d, b1, bd_s, lt1_d, lt1_d, lt1_d, nI_1]
  · unfold m_X5_hide_J78 m_X5_hide_J105 m_X5_hide_J107
    rw [lt1_d, c1, bd_s, lt1_d, lt1_d, lt1_d, lt1_d, nI_1]
  · rw [fv.nxe (u := 7) (by omega) (by omega)]; exact hA
  · rw [c2.nme (by rw [r1]; exact wi), r1]
theorem hide_L {T N l P w : Nat} {tx : Tx} {s : Vs} {x2 : Int32} (hN : N ≤ 40) (hl : l < vL s) (hP : vP s = P) (hd : ∃ d, d ≤ 999 ∧ s 0 1 = nI d) : ∀ (k i fx fm : Nat) (b : Int32) (A R : Mm), k < fx → k < fm → i + k = 2 ^ P → (b = -1 ∨ ∃ c, c < 32 ∧ b = nI c) → HS T tx s A R → Ans (m_X4_hide_L52 fx (nI l) x2 (nI N) (nI w) b (nI i) A) (m_X5_hide_L48 fm (nI l) x2 (nI N) (nI w) b (nI i) R) := by
  have key : ∀ A R, HS T tx s A R → P ≤ 5 ∧ A 7 4 = nI P ∧ R 0 10 = nI P := by
    intro A R h
    obtain ⟨hR, hA, ⟨z, hz⟩, hw, s6⟩ := h
    have hwA : WF T (nx A 7) := by rw [hA]; exact hw
    have hwR : WF T (nm R) := by rw [hz]; exact hw.up0 (Or.inr rfl)
    have c1 := hwA.cv
    have c2 := hwR.mv
    rw [hA, hP] at c1
    rw [hz, vP_up0 (by decide), hP] at c2
    exact ⟨c1.2.1, c1.1, c2.1⟩
  intro k
  induction k with
  | zero =>
    intro i fx fm b A R h1 h2 hi hb h
    obtain ⟨fx, rfl⟩ : ∃ m, fx = m + 1 := ⟨fx - 1, by omega⟩
    obtain ⟨fm, rfl⟩ : ∃ m, fm = m + 1 := ⟨fm - 1, by omega⟩
    obtain ⟨k1, k2, k3⟩ := key A R h
    have p32 : 2 ^ P ≤ 32 := Nat.pow_le_pow_right (n := 2) (by decide) k1
    show Ans (m_X4_hide_B52 (m_X4_hide_L52 fx) (nI l) x2 (nI N) (nI w) b (nI i) A) (m_X5_hide_B48 (m_X5_hide_L48 fm) (nI l) x2 (nI N) (nI w) b (nI i) R)
    rw [m_X4_hide_B52, m_X5_hide_B48, k2, k3, sh1P P (by omega), if_pos (nI_le (by omega) (by omega)), if_pos (nI_le (by omega) (by omega)), lt1_d]
    obtain ⟨hR, hA, ⟨z, hz⟩, hw, s6⟩ := h
    have r1 : nm (up R 0 13 0) = s := by rw [nm_up0 (r := 6) (by omega), hz, up_up, keep0 s6]
    have fin : Rel A (up R 0 13 0) := ⟨T, tx, hR.keep XK.rf (RK.up0 (by omega)), by rw [hA, r1], by rw [r1]; exact hw, by rw [r1]; exact s6, by rw [r1]; exact hd⟩
    unfold m_X4_hide_J145 m_X5_hide_J129
    rcases hb with rfl | ⟨c, c1, rfl⟩
    · rw [if_pos rfl, if_pos rfl]
      split
      · exact ⟨_, _, _, rfl, rfl, fin⟩
      · exact ⟨_, _, _, rfl, rfl, fin⟩
    · rw [if_neg (nI_m1 (by omega)), if_neg (nI_m1 (by omega)), j6_pc, bd_s, x5_bits (by omega), bd_s]
      split
      · exact ⟨_, _, _, rfl, rfl, fin⟩
      · exact ⟨_, _, _, rfl, rfl, fin⟩
  | succ k ih =>
    intro i fx fm b A R h1 h2 hi hb h
    obtain ⟨fx, rfl⟩ : ∃ m, fx = m + 1 := ⟨fx - 1, by omega⟩
    obtain ⟨fm, rfl⟩ : ∃ m, fm = m + 1 := ⟨fm - 1, by omega⟩
    obtain ⟨k1, k2, k3⟩ := key A R h
    have p32 : 2 ^ P ≤ 32 := Nat.pow_le_pow_right (n := 2) (by decide) k1
    show Ans (m_X4_hide_B52 (m_X4_hide_L52 fx) (nI l) x2 (nI N) (nI w) b (nI i) A) (m_X5_hide_B48 (m_X5_hide_L48 fm) (nI l) x2 (nI N) (nI w) b (nI i) R)
    rw [m_X4_hide_B52, m_X5_hide_B48, k2, k3, sh1P P (by omega), if_neg (nI_ge (by omega) (by omega)), if_neg (nI_ge (by omega) (by omega))]
    have prb : Ans (m_X4_hide_J88 (m_X4_hide_L52 fx) (nI l) x2 (nI N) (nI w) b (nI i) A) (m_X5_hide_J78 (m_X5_hide_L48 fm) (nI l) x2 (nI N) (nI w) b (nI i) R) := by
      obtain ⟨v, A', R', e1, e2, e3⟩ := hide_P (x2 := x2) (x4 := nI w) (b := b) (i := i) (m_X4_hide_L52 fx) (m_X5_hide_L48 fm) hN h hl
      rw [e1, e2]
      by_cases e : (shr v x2) &&& 1 = 0
      · rw [if_pos e, if_pos e]
        exact ih (i + 1) fx fm _ A' R' (by omega) (by omega) (by omega) (Or.inr ⟨i, by omega, rfl⟩) e3
      · rw [if_neg e, if_neg e]
        exact ih (i + 1) fx fm _ A' R' (by omega) (by omega) (by omega) hb e3
    rcases id hb with rfl | ⟨c, c1, rfl⟩
    · rw [if_pos rfl, if_pos rfl]
      exact prb
    · rw [if_neg (nI_m1 (by omega)), if_neg (nI_m1 (by omega)), j6_pc, bd_s, j6_pc, bd_s, x5_bits (by omega), bd_s, x5_bits (by omega), bd_s]
      by_cases e : pcS (nI i) < pcS (nI c)
      · rw [if_pos e, if_neg (fun q => by rw [Int32.le_iff_toInt_le] at q; rw [Int32.lt_iff_toInt_lt] at e; omega)]
        exact prb
      · rw [if_neg e, if_pos (show pcS (nI c) ≤ pcS (nI i) by rw [Int32.le_iff_toInt_le]; rw [Int32.lt_iff_toInt_lt] at e; omega)]
        unfold m_X4_hide_J128 m_X5_hide_J107
        rw [lt1_d, lt1_d, nI_1]
        exact ih (i + 1) fx fm _ A R (by omega) (by omega) (by omega) hb h
theorem call_hide {Mx Mr : Mm} (h : Rel Mx Mr) (x y z u : Int32) : Ans (m_X4_hide x y z u Mx) (m_X5_hide x y z u Mr) := by
  obtain ⟨T, tx, hR, hV⟩ := id h
  obtain ⟨v1, v2, v3, hdd⟩ := id hV
  have cx := hV.cx
  have cm := hV.cm
  have h5 := cm.2.1
  have h8 := cm.2.2.2
  unfold m_X4_hide m_X5_hide
  rcases ix_cases x (vL (nm Mr)) (by omega) with q | ⟨l, l1, rfl⟩
  · rw [x3_let_out cx q, x5_let_out cm q, bd_s, bd_s, if_pos rfl, if_pos rfl]
    exact ⟨_, _, _, rfl, rfl, h⟩
  rw [x3_let_in cx l1, x5_let_in cm l1, bd_s, bd_s, if_neg one_ne0, if_neg one_ne0]
  rcases ix_cases y (vP (nm Mr)) (by omega) with q | ⟨p, p1, rfl⟩
  · rw [x3_one_out cx q, x5_one_out cm q, bd_s, bd_s, if_pos rfl, if_pos rfl]
    exact ⟨_, _, _, rfl, rfl, h⟩
  rw [x3_one_in cx p1, x5_one_in cm p1, bd_s, bd_s, if_neg one_ne0, if_neg one_ne0]
  rcases ix_cases z 41 (by omega) with q | ⟨N, N1, rfl⟩
  · rw [x5_in_out (n := 41) (b := 40) (by decide) (by omega) q, bd_s, if_pos rfl]
    rcases rg_out (n := 40) (by omega) q with q | ⟨q1, q2, q3⟩
    · rw [if_pos q]
      exact ⟨_, _, _, rfl, rfl, h⟩
    · rw [if_neg q1, if_pos (show (40 : Int32) < z from q3)]
      exact ⟨_, _, _, rfl, rfl, h⟩
  have rn := rg_in (n := 40) N1 (by omega)
  rw [x5_in_in (n := 40) (b := 40) (by decide) (by omega) (by omega), bd_s, if_neg one_ne0, if_neg rn.1, if_neg (show ¬ (40 : Int32) < nI N from rn.2.2)]
  rcases ix_cases u 2 (by omega) with q | ⟨w, w1, rfl⟩
  · rw [x5_in_out (n := 2) (b := 1) (by decide) (by omega) q, bd_s, if_pos rfl]
    rcases rg_out (n := 1) (by omega) q with q | ⟨q1, q2, q3⟩
    · rw [if_pos q]
      exact ⟨_, _, _, rfl, rfl, h⟩
    · rw [if_neg q1, if_neg (show ¬ u ≤ (1 : Int32) from q2)]
      exact ⟨_, _, _, rfl, rfl, h⟩
  have rw' := rg_in (n := 1) w1 (by omega)
  rw [x5_in_in (n := 1) (b := 1) (by decide) (by omega) (by omega), bd_s, if_neg one_ne0, if_neg rw'.1, if_pos (show nI w ≤ (1 : Int32) from rw'.2.1), lt1_d, lt1_d, lt1_d, lt1_d]
  have p32 : 2 ^ vP (nm Mr) ≤ 32 := Nat.pow_le_pow_right (n := 2) (by decide) h5
  have := hide_L (T := T) (tx := tx) (s := nm Mr) (N := N) (l := l) (w := w) (x2 := nI p) (by omega) l1 rfl hdd (2 ^ vP (nm Mr)) 0 FU FU (-1) Mx Mr (by unfold FU; omega) (by unfold FU; omega) (by omega) (Or.inl rfl) ⟨hR, v1, ⟨nm Mr 0 6, by rw [up_self]⟩, v2, v3⟩
  rw [nI_0] at this
  exact this
