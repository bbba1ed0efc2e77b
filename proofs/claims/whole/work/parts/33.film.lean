/-! a film -/
theorem x5_sheet0 {s n : Nat} {M : Mm} (hs : s < 4) (hn : n ≤ 40) : ∃ M', m_X5_sheet (nI s) 0 (nI n) M = some (1, M') ∧ M' 12 s = 1 ∧ M' 13 s = nI 0 ∧ M' 14 s = nI n ∧ SR1 s M M' := by
  unfold m_X5_sheet
  rw [x5_is_in hs, bd_s, if_neg one_ne0, in_m1, bd_s, decide_eq_true (by decide), if_neg (show ¬ b2i true = 0 by decide), if_neg (by decide), if_pos (show nI n ≤ (40 : Int32) from nI_le (b := 40) (by omega) (by omega))]
  unfold m_X5_sheet_J34 m_X5_sheet_J45 m_X5_sheet_J59
  rw [if_neg (by decide), if_pos (nI_pos' (by omega)), if_neg (by decide), inr_n hs (by omega), gd_t, lt1_d, gd_t, lt1_d, gd_t, lt1_d, lt1_d, nI_clamp (by omega), show vp_nar .boolean 1 = 1 from rfl]
  obtain ⟨M2, g1, g2, g3, g4, g5⟩ := x5_sh_L (N := n) (k0 := 0) (x2 := nI 0) hs hn (by decide) n 0 FU (up (up (up M 12 s 1) 13 s (nI 0)) 14 s (nI n)) (by unfold FU; omega) (by omega)
  refine ⟨M2, g1, ?_, ?_, ?_, (((SR1.pu (Or.inl rfl)).tr (SR1.pu (Or.inr (Or.inl rfl)))).tr (SR1.pu (Or.inr (Or.inr rfl)))).tr g4⟩
  · rw [g5 12 (by decide), up_k (by decide), up_k (by decide), up_s]
  · rw [g5 13 (by decide), up_k (by decide), up_s]
  · rw [g5 14 (by decide), up_s]
/-- what a film may change, in the class, in the reference -/
def GX (s : Nat) (A A' : Mm) : Prop := (∀ k, k ≠ 1 → k ≠ 4 → (k < 16 ∨ 24 < k) → k ≠ 37 + 2 * s → A' k = A k) ∧ ∀ j, j = 0 ∨ 6 < j → A' 1 j = A 1 j
def GR (s : Nat) (R R' : Mm) : Prop := (∀ k, k ≠ 0 → k ≠ 5 → k ≠ 15 → R' k = R k) ∧ (∀ j, j < 14 ∨ 28 < j → j ≠ 7 → j ≠ 12 → R' 0 j = R 0 j) ∧ ∀ j, j < 40 * s ∨ 40 * s + 40 ≤ j → R' 15 j = R 15 j
theorem GX.rf {s : Nat} {A : Mm} : GX s A A := ⟨fun _ _ _ _ _ => rfl, fun _ _ => rfl⟩
theorem GR.rf {s : Nat} {A : Mm} : GR s A A := ⟨fun _ _ _ _ => rfl, fun _ _ _ _ => rfl, fun _ _ => rfl⟩
theorem GX.tr {s : Nat} {A B C : Mm} (h : GX s A B) (g : GX s B C) : GX s A C := ⟨fun k a b c d => (g.1 k a b c d).trans (h.1 k a b c d), fun j a => (g.2 j a).trans (h.2 j a)⟩
theorem GR.tr {s : Nat} {A B C : Mm} (h : GR s A B) (g : GR s B C) : GR s A C := ⟨fun k a b c => (g.1 k a b c).trans (h.1 k a b c), fun j a b c => (g.2.1 j a b c).trans (h.2.1 j a b c), fun j a => (g.2.2 j a).trans (h.2.2 j a)⟩
theorem FV.gx {s : Nat} {A A' : Mm} (h : FV 16 A A') : GX s A A' := ⟨fun k a b c _ => h.1 k a b (by omega), h.2⟩
theorem HV.gr {s : Nat} {A A' : Mm} (h : HV A A') : GR s A A' := ⟨fun k a b _ => h.1 k a b, h.2, fun j _ => by rw [h.1 15 (by decide) (by decide)]⟩
theorem GX.tx {s : Nat} {M M' : Mm} {T : Nat} {tx : Tx} (h : TXx M T tx) (hf : GX s M M') : TXx M' T tx := by
  obtain ⟨h1, h2, h3⟩ := h
  refine ⟨by rw [hf.2 0 (by omega)]; exact h1, h2, fun N a b c => h3 N ?_ ?_ ?_⟩
  · rw [a, hf.2 0 (by omega)]
  · rw [b, hf.1 2 (by omega) (by omega) (by omega) (by omega)]
  · rw [c, hf.1 3 (by omega) (by omega) (by omega) (by omega)]
theorem GR.tx {s : Nat} {M M' : Mm} {T : Nat} {tx : Tx} (h : TXm M T tx) (hf : GR s M M') : TXm M' T tx := by
  obtain ⟨h1, h2, h3⟩ := h
  refine ⟨by rw [hf.2.1 3 (by omega) (by omega) (by omega)]; exact h1, h2, fun N a b c => h3 N ?_ ?_ ?_⟩
  · rw [a, hf.2.1 3 (by omega) (by omega) (by omega)]
  · rw [b, hf.1 1 (by decide) (by decide) (by decide)]
  · rw [c, hf.1 2 (by decide) (by decide) (by decide)]
theorem nx_same {M M' : Mm} {v : Nat} (h : ∀ i, i ≤ 8 → M' (v + i) = M (v + i)) : nx M' v = nx M v := by
  have e : ∀ i j, i ≤ 8 → vx M' v i j = vx M v i j := by
    intro i j hi
    show M' (v + i) j = M (v + i) j
    rw [h i hi]
  have eP : vP (vx M' v) = vP (vx M v) := by unfold vP; rw [e 0 4 (by omega)]
  have eL : vL (vx M' v) = vL (vx M v) := by unfold vL; rw [e 0 5 (by omega)]
  funext i j
  show nrm (vx M' v) i j = nrm (vx M v) i j
  unfold nrm
  rw [eP, eL]
  by_cases h8 : i ≤ 8
  · by_cases hi : i = 0
    · subst hi
      rw [if_pos rfl, if_pos rfl, e 0 j (by omega)]
    · rw [if_neg hi, if_neg hi, e i j h8]
  · simp [show ¬ i = 0 by omega, show ¬ i ≤ 3 by omega, h8]
theorem nm_same {M M' : Mm} (h0 : ∀ j, j < 14 → M' 0 j = M 0 j) (h4 : M' 4 = M 4) (h5 : M' 5 = M 5) : nm M' = nm M := by
  have e : vm M' = vm M := by
    funext i j
    unfold vm
    rw [h4, h5]
    split
    · split <;> first | rfl | exact h0 _ (by omega)
    all_goals rfl
  unfold nm; rw [e]
theorem by_nar : ∀ k, k < 8 → ((nI k).toInt8.toInt32) = nI k := by decide +kernel
theorem film_L {T s N l : Nat} {tx : Tx} (hs : s < 4) (hN : N ≤ 40) : ∀ (k i fx fm : Nat) (A R : Mm), k < fx → k < fm → i + k = N → TXx A T tx → TXm R T tx → WF T (nx A 16) → WF T (nm R) → Ag l (nm R) (nx A 16) → l < vL (nm R) → A (36 + 2 * s) 0 = nI 0 → A (36 + 2 * s) 1 = nI N → (∀ j, j < i → A (37 + 2 * s) j = R 15 (40 * s + j)) → ∃ (A' R' : Mm), m_X4_film_L57 (36 + 2 * s) fx (nI l) (nI N) (nI i) A = some (nI N, A') ∧ m_X5_film_L45 fm (nI s) (nI l) (nI N) (nI i) R = bd (m_X5_laysBack R') (fun _ M => some (nI N, M)) ∧ GX s A A' ∧ GR s R R' ∧ ∀ j, j < N → A' (37 + 2 * s) j = R' 15 (40 * s + j) := by
  intro k
  induction k with
  | zero =>
    intro i fx fm A R h1 h2 hi hx hm wa wr ag hl z0 z1 it
    obtain ⟨fx, rfl⟩ : ∃ m, fx = m + 1 := ⟨fx - 1, by omega⟩
    obtain ⟨fm, rfl⟩ : ∃ m, fm = m + 1 := ⟨fm - 1, by omega⟩
    show ∃ (A' R' : Mm), m_X4_film_B57 (36 + 2 * s) (m_X4_film_L57 (36 + 2 * s) fx) (nI l) (nI N) (nI i) A = _ ∧ m_X5_film_B45 (m_X5_film_L45 fm) (nI s) (nI l) (nI N) (nI i) R = _ ∧ _
    rw [m_X4_film_B57, m_X5_film_B45, if_pos (nI_le (by omega) (by omega)), if_pos (nI_le (by omega) (by omega))]
    exact ⟨A, R, rfl, rfl, GX.rf, GR.rf, fun j hj => it j (by omega)⟩
  | succ k ih =>
    intro i fx fm A R h1 h2 hi hx hm wa wr ag hl z0 z1 it
    obtain ⟨fx, rfl⟩ : ∃ m, fx = m + 1 := ⟨fx - 1, by omega⟩
    obtain ⟨fm, rfl⟩ : ∃ m, fm = m + 1 := ⟨fm - 1, by omega⟩
    have h8 := wr.mv.2.2.2
    have la : l < vL (nx A 16) := by rw [← ag.P.2]; exact hl
    obtain ⟨A1, a1, a2, a3⟩ := x3_oneDay (v := 16) (by omega) hx wa la
    obtain ⟨R1, b1, b2, b3⟩ := x5_day hm wr
    have ag1 : Ag l (nm R1) (nx A1 16) := by rw [a2, b2]; exact ag.day hl
    have wa1 : WF T (nx A1 16) := by rw [a2]; exact wa.ones la
    have wr1 : WF T (nm R1) := by rw [b2]; exact wr.day
    have lr1 : l < vL (nm R1) := by rw [b2, dayS_P.2]; exact hl
    have la1 : l < vL (nx A1 16) := by rw [← ag1.P.2]; exact lr1
    have t6 := wa1.cv.q (i := 6) (by omega) (by omega) la1
    have e6 := (wr1.mv.q lr1).2.2.1
    have ev : A1 (16 + 6) l = R1 5 (5 * l + 3) := by rw [← t6, ← ag1.2.2.1, e6]
    have nar : (R1 5 (5 * l + 3)).toInt8.toInt32 = R1 5 (5 * l + 3) := by
      rw [← e6]
      rcases (wr1.2.2.2.2 l lr1).2.2.1 with q | ⟨c, c1, c2⟩
      · rw [q]; decide
      · rw [c2]; exact by_nar c c1
    have s1 : ∀ j, A1 (36 + 2 * s) j = A (36 + 2 * s) j := fun j => by rw [a3.1 _ (by omega) (by omega) (by omega)]
    have hh : m_X0_has (36 + 2 * s) (nI i) A1 = some (1, A1) := by
      unfold m_X0_has
      rw [s1, z1, if_neg (nI_pos (by omega)), if_neg (nI_ge (by omega) (by omega)), if_neg (show ¬ (40 : Int32) ≤ nI i from nI_ge (b := 40) (by omega) (by omega))]
    show ∃ (A' R' : Mm), m_X4_film_B57 (36 + 2 * s) (m_X4_film_L57 (36 + 2 * s) fx) (nI l) (nI N) (nI i) A = _ ∧ m_X5_film_B45 (m_X5_film_L45 fm) (nI s) (nI l) (nI N) (nI i) R = _ ∧ _
    rw [m_X4_film_B57, m_X5_film_B45, if_neg (nI_ge (by omega) (by omega)), if_neg (nI_ge (by omega) (by omega)), a1, b1, bd_s, bd_s, (x3_of_let wa1.cv la1).2.2.1, bd_s]
    unfold m_X0_put m_X0_put_J39
    rw [hh, bd_s, if_neg one_ne0, s1, z0, if_pos nI_0, inr_n (show i < 40 by omega) (by omega), gd_t, lt1_d, bd_s, lt1_d, ev, nar, nI_clamp (show i < 2 ^ 31 by omega), nI_1, pl5, pla3, pl40, nI_add, inr_n (show 5 * l + 3 < 40 by omega) (by omega), gd_t, inr_n (show 40 * s + i < 160 by omega) (by omega), gd_t, lt1_d, lt1_d, nI_clamp (show 5 * l + 3 < 2 ^ 31 by omega), nI_clamp (show 40 * s + i < 2 ^ 31 by omega)]
    have gx : GX s A (up A1 (36 + 2 * s + 1) i (R1 5 (5 * l + 3))) := (FV.gx a3).tr ⟨fun k _ _ _ d => by funext b; exact up_k (by omega), fun j _ => up_k (by omega)⟩
    have gr : GR s R (up R1 15 (40 * s + i) (R1 5 (5 * l + 3))) := (HV.gr b3).tr ⟨fun k _ _ d => by funext b; exact up_k d, fun j _ _ _ => up_k (by decide), fun j _ => up_j (by omega)⟩
    have n1 : nx (up A1 (36 + 2 * s + 1) i (R1 5 (5 * l + 3))) 16 = nx A1 16 := nx_same (fun j hj => by funext b; exact up_k (by omega))
    have n2 : nm (up R1 15 (40 * s + i) (R1 5 (5 * l + 3))) = nm R1 := nm_same (fun j _ => up_k (by decide)) (by funext b; exact up_k (by decide)) (by funext b; exact up_k (by decide))
    obtain ⟨A', R', c1, c2, c3, c4, c5⟩ := ih (i + 1) fx fm _ _ (by omega) (by omega) (by omega) (gx.tx hx) (gr.tx hm) (by rw [n1]; exact wa1) (by rw [n2]; exact wr1) (by rw [n1, n2]; exact ag1) (by rw [n2]; exact lr1) (by rw [up_k (by omega), s1]; exact z0) (by rw [up_k (by omega), s1]; exact z1) (fun j hj => by
      rw [show 37 + 2 * s = 36 + 2 * s + 1 by omega]
      by_cases e : j = i
      · subst e; rw [up_s, up_s]
      · rw [up_j e, up_j (by omega), a3.1 _ (by omega) (by omega) (by omega), b3.1 15 (by decide) (by decide), show 36 + 2 * s + 1 = 37 + 2 * s by omega]
        exact it j (by omega))
    exact ⟨A', R', c1, c2, gx.tr c3, gr.tr c4, c5⟩
theorem call_film {Mx Mr : Mm} (h : Rel Mx Mr) (x y z : Int32) : Ans (m_X4_film x y z Mx) (m_X5_film x y z Mr) := by
  obtain ⟨T, tx, hR, hV⟩ := id h
  obtain ⟨v1, v2, v3, hdd⟩ := id hV
  have cx := hV.cx
  have cm := hV.cm
  have h8 := cm.2.2.2
  unfold m_X4_film m_X5_film
  rcases ix_cases x 4 (by omega) with q | ⟨s, s1, rfl⟩
  · rw [x4_sn_out q, x5_is_out q, bd_s, bd_s, rc_n, if_pos rfl]
    exact ⟨_, _, _, rfl, rfl, h⟩
  rw [(x4_sn_in s1).1, x5_is_in s1, bd_s, bd_s, rc_s, (x4_sn_in (M := Mx) s1).2, gd_t, if_neg one_ne0]
  rcases ix_cases y (vL (nm Mr)) (by omega) with q | ⟨l, l1, rfl⟩
  · rw [x3_let_out cx q, x5_let_out cm q, bd_s, bd_s, if_pos rfl, if_pos rfl]
    exact ⟨_, _, _, rfl, rfl, h⟩
  rw [x3_let_in cx l1, x5_let_in cm l1, bd_s, bd_s, if_neg one_ne0, if_neg one_ne0]
  rcases ix_cases z 21 (by omega) with q | ⟨N, N1, rfl⟩
  · rw [x5_in_out (n := 21) (b := 20) (by decide) (by omega) q, bd_s, if_pos rfl]
    rcases rg_out (n := 20) (by omega) q with q | ⟨q1, q2, q3⟩
    · rw [if_pos q]
      exact ⟨_, _, _, rfl, rfl, h⟩
    · rw [if_neg q1, if_neg (show ¬ z ≤ (20 : Int32) from q2)]
      exact ⟨_, _, _, rfl, rfl, h⟩
  have rn := rg_in (n := 20) N1 (by omega)
  rw [x5_in_in (n := 20) (b := 20) (by decide) (by omega) (by omega), bd_s, if_neg one_ne0, if_neg rn.1, if_pos (show nI N ≤ (20 : Int32) from rn.2.1)]
  obtain ⟨A0, p1, p2, p3, p4, p5⟩ := x0_bec (v := 36 + 2 * s) (n := N) (k := nI 0) (M := Mx) (by omega)
  obtain ⟨R0, q1, q2, q3, q4, q5⟩ := x5_sheet0 (M := Mr) s1 (show N ≤ 40 by omega)
  have n0 : nx A0 7 = nm Mr := by rw [nx_same (M := Mx) (fun j hj => p5 _ (by omega) (by omega))]; exact v1
  have m0 : nm R0 = nm Mr := nm_same (fun j hj => by rw [q5.1 0 (by omega)]) (q5.1 4 (by omega)) (q5.1 5 (by omega))
  obtain ⟨A1, a1, a2, a3⟩ := x3_take (M := A0) (v := 16) (w := 7) (T := T) (by omega) (by omega) (by rw [n0]; exact v2)
  rw [n0, keep0 v3] at a2
  obtain ⟨R1, c0, ca⟩ := x5_aside R0
  have n1 : nm R1 = nm Mr := by rw [aside_nm ca.2.2.2, m0]
  have tx0 : TXx A0 T tx := by
    obtain ⟨h1, h2, h3⟩ := hR.1.1
    refine ⟨by rw [p5 1 (by omega) (by omega)]; exact h1, h2, fun N a b c => h3 N ?_ ?_ ?_⟩
    · rw [a, p5 1 (by omega) (by omega)]
    · rw [b, p5 2 (by omega) (by omega)]
    · rw [c, p5 3 (by omega) (by omega)]
  have tm0 : TXm R0 T tx := by
    obtain ⟨h1, h2, h3⟩ := hR.1.2
    refine ⟨by rw [q5.1 0 (by omega)]; exact h1, h2, fun N a b c => h3 N ?_ ?_ ?_⟩
    · rw [a, q5.1 0 (by omega)]
    · rw [b, q5.1 1 (by omega)]
    · rw [c, q5.1 2 (by omega)]
  have z0 : ∀ j, A1 (36 + 2 * s) j = A0 (36 + 2 * s) j := fun j => by rw [a3.1 _ (by omega) (by omega) (by omega)]
  obtain ⟨A', R', e1, e2, e3, e4, e5⟩ := film_L (T := T) (s := s) (N := N) (l := l) (tx := tx) s1 (by omega) N 0 FU FU A1 R1 (by unfold FU; omega) (by unfold FU; omega) (by omega) (FV.tx (by omega) tx0 a3) (aside_tx tm0 ca.2.2.2) (by rw [a2]; exact v2) (by rw [n1]; exact v2) (by rw [a2, n1]; exact Ag.rf) (by rw [n1]; exact l1) (by rw [z0]; exact p2) (by rw [z0]; exact p3) (fun j hj => absurd hj (by omega))
  obtain ⟨R3, f0, fc⟩ := x5_back R'
  rw [nI_0] at e1 e2 p1
  rw [p1, bd_s, a1, bd_s, lt1_d, e1, q1, bd_s, c0, bd_s, lt1_d, e2, f0, bd_s]
  refine ⟨_, _, _, rfl, rfl, ?_⟩
  -- all but the sheet is as it was
  obtain ⟨b1, b2, b3, b4⟩ := ca
  obtain ⟨d1, d2, d3, d4, d5⟩ := fc
  have g0 : ∀ k, k ≠ 1 → k ≠ 4 → (k < 16 ∨ 24 < k) → k ≠ 36 + 2 * s → k ≠ 37 + 2 * s → A' k = Mx k := fun k k1 k4 k16 ks kt => by rw [e3.1 k k1 k4 k16 kt, a3.1 k k1 k4 (by omega), p5 k ks (by omega)]
  have fB : FV 16 Mx (fun k => if k = 36 + 2 * s ∨ k = 37 + 2 * s then Mx k else A' k) := by
    refine ⟨fun k k1 k4 k16 => ?_, fun j hj => ?_⟩
    · show (if k = 36 + 2 * s ∨ k = 37 + 2 * s then Mx k else A' k) = Mx k
      by_cases q : k = 36 + 2 * s ∨ k = 37 + 2 * s
      · rw [if_pos q]
      · rw [if_neg q]; exact g0 k k1 k4 (by omega) (by omega) (by omega)
    · show (if 1 = 36 + 2 * s ∨ 1 = 37 + 2 * s then Mx 1 else A' 1) j = Mx 1 j
      rw [if_neg (by omega), e3.2 j hj, a3.2 j hj, p5 1 (by omega) (by omega)]
  have e6 : R' 6 = R1 6 := e4.1 6 (by decide) (by decide) (by decide)
  have kM : KR Mr (fun k => if 12 ≤ k ∧ k ≤ 15 then Mr k else R3 k) := by
    refine ⟨fun k k0 k5 k6 => ?_, fun j hj => ?_, fun j hj => ?_⟩
    · show (if 12 ≤ k ∧ k ≤ 15 then Mr k else R3 k) = Mr k
      by_cases q : 12 ≤ k ∧ k ≤ 15
      · rw [if_pos q]
      · rw [if_neg q, d4 k k0 k5, e4.1 k k0 k5 (by omega), b4 k k6, q5.1 k (by omega)]
    · show (if 12 ≤ 0 ∧ 0 ≤ 15 then Mr 0 else R3 0) j = Mr 0 j
      rw [if_neg (by omega)]
      by_cases j7 : j = 7
      · subst j7; rw [d3, e6, b3, q5.1 0 (by omega)]
      · by_cases j12 : j = 12
        · subst j12; rw [d2, e6, b2, q5.1 0 (by omega)]
        · rw [d5 j j7 j12, e4.2.1 j hj j7 j12, b4 0 (by decide), q5.1 0 (by omega)]
    · show (if 12 ≤ 5 ∧ 5 ≤ 15 then Mr 5 else R3 5) j = Mr 5 j
      rw [if_neg (by omega), d1 j hj, e6, b1 j hj, q5.1 5 (by omega)]
  have c12 : R3 12 = R0 12 := by rw [d4 12 (by decide) (by decide), e4.1 12 (by decide) (by decide) (by decide), b4 12 (by decide)]
  have c13 : R3 13 = R0 13 := by rw [d4 13 (by decide) (by decide), e4.1 13 (by decide) (by decide) (by decide), b4 13 (by decide)]
  have c14 : R3 14 = R0 14 := by rw [d4 14 (by decide) (by decide), e4.1 14 (by decide) (by decide) (by decide), b4 14 (by decide)]
  have c15 : R3 15 = R' 15 := by rw [d4 15 (by decide) (by decide)]
  refine Rel.sh1 (hR.keep (fB.xk (Or.inr rfl)) kM.rk) (hV.thought fB kM) s1 (fun k a1 a2 => ?_) ⟨fun k hk => ?_, fun j hj => ?_, fun j hj => ?_⟩ (Or.inr ⟨?_, ⟨0, by omega, ?_, ?_⟩, N, by omega, ?_, ?_, fun j hj => ?_⟩)
  · show A' k = (if k = 36 + 2 * s ∨ k = 37 + 2 * s then Mx k else A' k)
    rw [if_neg (by omega)]
  · show R3 k = (if 12 ≤ k ∧ k ≤ 15 then Mr k else R3 k)
    rw [if_neg (by omega)]
  · show R3 12 j = Mr 12 j ∧ R3 13 j = Mr 13 j ∧ R3 14 j = Mr 14 j
    rw [c12, c13, c14]
    exact q5.2.1 j hj
  · show R3 15 j = Mr 15 j
    rw [c15, e4.2.2 j hj, b4 15 (by decide), q5.2.2 j hj]
  · rw [c12]; exact q2
  · rw [c13]; exact q3
  · rw [e3.1 _ (by omega) (by omega) (by omega) (by omega), z0]; exact p2
  · rw [c14]; exact q4
  · rw [e3.1 _ (by omega) (by omega) (by omega) (by omega), z0]; exact p3
  · rw [c15]; exact e5 j hj
