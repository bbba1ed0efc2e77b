/-! set, swap, taken, feed -/
theorem nI_neg {k : Nat} {z : Int32} (hk : k < 2 ^ 31) (hz : z < 0) : ¬ nI k = z := fun e => nI_pos hk (e ▸ hz)
theorem told_0 {x : Int32} {M : Mm} : m_X4_told x (nI 0) M = some (M 7 1, M) := by
  unfold m_X4_told
  repeat (first | rw [if_pos (by decide)] | rw [if_neg (by decide)])
theorem told_1 {x : Int32} {M : Mm} : m_X4_told x (nI 1) M = some (M 7 2, M) := by
  unfold m_X4_told
  repeat (first | rw [if_pos (by decide)] | rw [if_neg (by decide)])
theorem told_2 {p P L : Nat} {M : Mm} (cx : CV M 7 P L) (hp : p < P) : m_X4_told (nI p) (nI 2) M = some (M 9 p, M) := by
  unfold m_X4_told
  repeat (first | rw [if_pos (by decide)] | rw [if_neg (by decide)])
  rw [x3_one_in cx hp, bd_s, if_neg one_ne0]
  unfold m_X4_toldOfOne
  repeat (first | rw [if_pos (by decide)] | rw [if_neg (by decide)])
  rw [(x3_of_one cx hp).2.1, bd_s, bd_s]
theorem told_3 {l P L : Nat} {M : Mm} (cx : CV M 7 P L) (hl : l < L) : m_X4_told (nI l) (nI 3) M = some (M 14 l, M) := by
  unfold m_X4_told m_X4_told_J36
  repeat (first | rw [if_pos (by decide)] | rw [if_neg (by decide)])
  rw [x3_let_in cx hl, bd_s, if_neg one_ne0]
  unfold m_X4_toldOfLetter
  repeat (first | rw [if_pos (by decide)] | rw [if_neg (by decide)])
  rw [(x3_of_let cx hl).2.2.2.1, bd_s, bd_s]
theorem told_2o {x : Int32} {P L : Nat} {M : Mm} (cx : CV M 7 P L) (hx : x < 0 ∨ nI P ≤ x) : m_X4_told x (nI 2) M = some (-1000, M) := by
  unfold m_X4_told
  repeat (first | rw [if_pos (by decide)] | rw [if_neg (by decide)])
  rw [x3_one_out cx hx, bd_s, if_pos rfl]
theorem told_3o {x : Int32} {P L : Nat} {M : Mm} (cx : CV M 7 P L) (hx : x < 0 ∨ nI L ≤ x) : m_X4_told x (nI 3) M = some (-1000, M) := by
  unfold m_X4_told m_X4_told_J36
  repeat (first | rw [if_pos (by decide)] | rw [if_neg (by decide)])
  rw [x3_let_out cx hx, bd_s, if_pos rfl]
theorem lays_0 {x v : Int32} {M : Mm} : m_X5_lays (nI 0) x v M = some ((), up M 0 7 v) := by
  unfold m_X5_lays m_X5_lays_J18 m_X5_lays_J35
  repeat (first | rw [if_pos (by decide)] | rw [if_neg (by decide)])
  rw [lt1_d, if_neg (by decide), lt1_d, up_self]
theorem lays_1 {x v : Int32} {M : Mm} : m_X5_lays (nI 1) x v M = some ((), up M 0 8 v) := by
  unfold m_X5_lays m_X5_lays_J18 m_X5_lays_J35
  repeat (first | rw [if_pos (by decide)] | rw [if_neg (by decide)])
  rw [lt1_d, if_pos (by decide), lt1_d, up_self]
theorem lays_2 {p : Nat} {v : Int32} {M : Mm} (hp : p < 5) : m_X5_lays (nI 2) (nI p) v M = some ((), up M 4 (3 * p) v) := by
  unfold m_X5_lays
  repeat (first | rw [if_pos (by decide)] | rw [if_neg (by decide)])
  rw [pl3, inr_n (by omega) (by omega), gd_t, lt1_d, nI_clamp (by omega)]
theorem lays_3 {l : Nat} {v : Int32} {M : Mm} (hl : l < 8) : m_X5_lays (nI 3) (nI l) v M = some ((), up M 5 (5 * l) v) := by
  unfold m_X5_lays
  repeat (first | rw [if_pos (by decide)] | rw [if_neg (by decide)])
  rw [pl5, inr_n (by omega) (by omega), gd_t, lt1_d, nI_clamp (by omega)]
theorem lays_4 {p : Nat} {v : Int32} {M : Mm} (hp : p < 5) : m_X5_lays (nI 4) (nI p) v M = some ((), up M 4 (3 * p + 1) v) := by
  unfold m_X5_lays
  repeat (first | rw [if_pos (by decide)] | rw [if_neg (by decide)])
  rw [pl3, pla1, inr_n (by omega) (by omega), gd_t, lt1_d, nI_clamp (by omega)]
theorem lays_5 {x : Int32} {v : Int32} {M : Mm} : m_X5_lays (nI 5) x v M = some ((), up M 0 4 v) := by
  unfold m_X5_lays
  repeat (first | rw [if_pos (by decide)] | rw [if_neg (by decide)])
  rw [lt1_d]
theorem isOf_0 {x : Int32} {M : Mm} : m_X5_isOf (nI 0) x M = some (1, M) := by
  unfold m_X5_isOf m_X5_isOf_J35
  repeat (first | rw [if_pos (by decide)] | rw [if_neg (by decide)])
theorem isOf_1 {x : Int32} {M : Mm} : m_X5_isOf (nI 1) x M = some (1, M) := by
  unfold m_X5_isOf m_X5_isOf_J35
  repeat (first | rw [if_pos (by decide)] | rw [if_neg (by decide)])
theorem isOf_2i {p P L : Nat} {M : Mm} (cm : MV M P L) (hp : p < P) : m_X5_isOf (nI 2) (nI p) M = some (1, M) := by
  unfold m_X5_isOf m_X5_isOf_J35
  repeat (first | rw [if_pos (by decide)] | rw [if_neg (by decide)])
  rw [x5_one_in cm hp, bd_s, if_neg one_ne0]
theorem isOf_2o {x : Int32} {P L : Nat} {M : Mm} (cm : MV M P L) (hp : x < 0 ∨ nI P ≤ x) : m_X5_isOf (nI 2) x M = some (0, M) := by
  unfold m_X5_isOf m_X5_isOf_J35
  repeat (first | rw [if_pos (by decide)] | rw [if_neg (by decide)])
  rw [x5_one_out cm hp, bd_s, if_pos rfl]
theorem isOf_3i {p P L : Nat} {M : Mm} (cm : MV M P L) (hp : p < L) : m_X5_isOf (nI 3) (nI p) M = some (1, M) := by
  unfold m_X5_isOf m_X5_isOf_J16 m_X5_isOf_J35
  repeat (first | rw [if_pos (by decide)] | rw [if_neg (by decide)])
  rw [x5_let_in cm hp, bd_s, if_neg one_ne0]
theorem isOf_3o {x : Int32} {P L : Nat} {M : Mm} (cm : MV M P L) (hp : x < 0 ∨ nI L ≤ x) : m_X5_isOf (nI 3) x M = some (0, M) := by
  unfold m_X5_isOf m_X5_isOf_J16 m_X5_isOf_J35
  repeat (first | rw [if_pos (by decide)] | rw [if_neg (by decide)])
  rw [x5_let_out cm hp, bd_s, if_pos rfl]
theorem grt_all {M : Mm} : (m_X4_greatest (nI 0) M = some (999, M) ∧ m_X5_mostOf (nI 0) M = some (999, M)) ∧ (m_X4_greatest (nI 1) M = some (7, M) ∧ m_X5_mostOf (nI 1) M = some (7, M)) ∧ (m_X4_greatest (nI 2) M = some (9, M) ∧ m_X5_mostOf (nI 2) M = some (9, M)) ∧ (m_X4_greatest (nI 3) M = some (99, M) ∧ m_X5_mostOf (nI 3) M = some (99, M)) := by
  unfold m_X4_greatest m_X5_mostOf
  refine ⟨⟨?_, ?_⟩, ⟨?_, ?_⟩, ⟨?_, ?_⟩, ?_, ?_⟩
  · repeat (first | rw [if_pos (by decide)] | rw [if_neg (by decide)])
  · repeat (first | rw [if_pos (by decide)] | rw [if_neg (by decide)])
  · repeat (first | rw [if_pos (by decide)] | rw [if_neg (by decide)])
  · repeat (first | rw [if_pos (by decide)] | rw [if_neg (by decide)])
  · repeat (first | rw [if_pos (by decide)] | rw [if_neg (by decide)])
  · repeat (first | rw [if_pos (by decide)] | rw [if_neg (by decide)])
  · repeat (first | rw [if_pos (by decide)] | rw [if_neg (by decide)])
  · repeat (first | rw [if_pos (by decide)] | rw [if_neg (by decide)])
/-- within or not, on both sides -/
theorem rg_both {α : Type} {x : Int32} {n : Nat} {b : Int32} {e f : Option α} (hb : b = nI n) (hn : n + 1 < 2 ^ 31) (h : ¬ (x < 0 ∨ nI (n + 1) ≤ x) → False) : (if x < 0 then e else if x ≤ b then f else e) = e := by
  subst hb
  rcases rg_out hn (Classical.byContradiction h) with q | ⟨q1, q2, -⟩
  · rw [if_pos q]
  · rw [if_neg q1, if_neg q2]
theorem call_set {Mx Mr : Mm} (h : Rel Mx Mr) (x y z : Int32) : Ans (m_X4_set x y z Mx) (m_X5_set x y z Mr) := by
  obtain ⟨T, tx, hR, hV⟩ := h
  obtain ⟨v1, v2, v3, d, d1, d2⟩ := id hV
  have cx := hV.cx
  have cm := hV.cm
  have h5 := cm.2.1
  have h8 := cm.2.2.2
  have fin : Rel Mx Mr := ⟨T, tx, hR, hV⟩
  have hdd : ∃ d, d ≤ 999 ∧ nm Mr 0 1 = nI d := ⟨d, d1, d2⟩
  obtain ⟨r, a, b⟩ := told_R hV y x
  unfold m_X4_set m_X5_set
  rw [a, bd_s, lt1_d]
  rcases ix_cases x 4 (by omega) with q | ⟨c, c1, rfl⟩
  · rw [x5_in_out (n := 4) (b := 3) (by decide) (by omega) q, bd_s, if_pos rfl]
    rcases rg_out (n := 3) (by omega) q with q | ⟨q1, q2, q3⟩
    · rw [if_pos q]
      exact ⟨_, _, _, rfl, rfl, fin⟩
    · rw [if_neg q1, if_pos (show (3 : Int32) < x from q3)]
      exact ⟨_, _, _, rfl, rfl, fin⟩
  have rc := rg_in (n := 3) c1 (by omega)
  rw [x5_in_in (n := 3) (b := 3) (by decide) (by omega) (by omega), bd_s, if_neg one_ne0, if_neg rc.1, if_neg (show ¬ (3 : Int32) < nI c from rc.2.2)]
  have wi : ∀ (n : Nat) (b : Int64), b.toInt = n → n + 1 < 2 ^ 31 → (z < 0 ∨ (¬ z < 0 ∧ ¬ z ≤ nI n)) ∧ m_X5_in z.toInt64 (0 : Int64) b Mr = some (0, Mr) ∨ ∃ w, w ≤ n ∧ z = nI w ∧ ¬ z < 0 ∧ z ≤ nI n ∧ m_X5_in z.toInt64 (0 : Int64) b Mr = some (1, Mr) := by
    intro n b hb hn
    rcases ix_cases z (n + 1) hn with q | ⟨w, w1, rfl⟩
    · refine Or.inl ⟨?_, x5_in_out (n := n + 1) (by rw [hb]; rfl) hn q⟩
      rcases rg_out hn q with q | ⟨q1, q2, -⟩
      · exact Or.inl q
      · exact Or.inr ⟨q1, q2⟩
    · exact Or.inr ⟨w, by omega, rfl, (rg_in w1 hn).1, (rg_in w1 hn).2.1, x5_in_in (n := n) hb (by omega) (by omega)⟩
  rcases (show c = 0 ∨ c = 1 ∨ c = 2 ∨ c = 3 by omega) with rfl | rfl | rfl | rfl
  · have er : r = Mx 7 1 := by rw [told_0] at a; cases a; rfl
    have er2 : ¬ r = -1000 := by
      rw [er, hV.hd.1, ← (nm_0 (M := Mr)).1, d2]
      exact nI_neg (by omega) (by decide)
    rw [if_neg er2, isOf_0, bd_s, if_neg one_ne0, grt_all.1.2, bd_s]
    rcases wi 999 999 (by decide) (by omega) with ⟨q, e⟩ | ⟨w, w1, e0, e1, e2, e3⟩
    · rw [show ((999 : Int32).toInt64) = 999 from rfl, e, bd_s, if_pos rfl]
      rcases q with q | ⟨q1, q2⟩
      · rw [if_pos q]; exact ⟨_, _, _, rfl, rfl, fin⟩
      · rw [if_neg q1, grt_all.1.1, bd_s, if_neg (show ¬ z ≤ (999 : Int32) from q2)]; exact ⟨_, _, _, rfl, rfl, fin⟩
    · rw [show ((999 : Int32).toInt64) = 999 from rfl, e3, bd_s, if_neg one_ne0, if_neg e1, grt_all.1.1, bd_s, if_pos (show z ≤ (999 : Int32) from e2)]
      repeat (first | rw [if_pos (by decide)] | rw [if_neg (by decide)])
      rw [lt1_d, b, bd_s, lt1_d, lays_0, bd_s]
      refine ⟨_, _, _, rfl, rfl, Rel.chg (s := up (nm Mr) 0 1 z) hR (FV.up (v := 7) (i := 0) (by omega) (by omega)) (RK.up0 (by omega)) (by rw [← v1]; exact nx_up (v := 7) (i := 0) cx (by omega)) (nm_up0 (by omega)) (v2.up0 (Or.inl rfl)) (by rw [up_j (by decide)]; exact v3) ⟨w, w1, by rw [up_s, e0]⟩⟩
  · have er : r = Mx 7 2 := by rw [told_1] at a; cases a; rfl
    have er2 : ¬ r = -1000 := by
      obtain ⟨k, k1, k2⟩ := v2.2.1.1
      rw [er, hV.hd.2.1, ← (nm_0 (M := Mr)).2.1, k2]
      exact nI_neg (by omega) (by decide)
    rw [if_neg er2, isOf_1, bd_s, if_neg one_ne0, grt_all.2.1.2, bd_s]
    rcases wi 7 7 (by decide) (by omega) with ⟨q, e⟩ | ⟨w, w1, e0, e1, e2, e3⟩
    · rw [show ((7 : Int32).toInt64) = 7 from rfl, e, bd_s, if_pos rfl]
      rcases q with q | ⟨q1, q2⟩
      · rw [if_pos q]; exact ⟨_, _, _, rfl, rfl, fin⟩
      · rw [if_neg q1, grt_all.2.1.1, bd_s, if_neg (show ¬ z ≤ (7 : Int32) from q2)]; exact ⟨_, _, _, rfl, rfl, fin⟩
    · rw [show ((7 : Int32).toInt64) = 7 from rfl, e3, bd_s, if_neg one_ne0, if_neg e1, grt_all.2.1.1, bd_s, if_pos (show z ≤ (7 : Int32) from e2)]
      repeat (first | rw [if_pos (by decide)] | rw [if_neg (by decide)])
      rw [lt1_d, b, bd_s, lt1_d, lays_1, bd_s]
      refine ⟨_, _, _, rfl, rfl, Rel.chg (s := up (nm Mr) 0 2 z) hR (FV.up (v := 7) (i := 0) (by omega) (by omega)) (RK.up0 (by omega)) (by rw [← v1]; exact nx_up (v := 7) (i := 0) cx (by omega)) (nm_up0 (by omega)) (v2.upz (Or.inl ⟨rfl, w, by omega, e0⟩)) (by rw [up_j (by decide)]; exact v3) (by rw [up_j (by decide)]; exact hdd)⟩
  · rcases ix_cases y (vP (nm Mr)) (by omega) with q | ⟨p, p1, rfl⟩
    · have er : r = -1000 := by rw [told_2o cx q] at a; cases a; rfl
      rw [if_pos er, isOf_2o cm q, bd_s, if_pos rfl]
      exact ⟨_, _, _, rfl, rfl, fin⟩
    · have er : r = Mx 9 p := by rw [told_2 cx p1] at a; cases a; rfl
      have er2 : ¬ r = -1000 := by
        obtain ⟨k, k1, k2⟩ := (v2.2.2.1 p p1).2.1
        rw [er, (hV.row p1).2.1, ← (cm.r p1).2.1, k2]
        exact nI_neg (by omega) (by decide)
      rw [if_neg er2, isOf_2i cm p1, bd_s, if_neg one_ne0, grt_all.2.2.1.2, bd_s]
      rcases wi 9 9 (by decide) (by omega) with ⟨q, e⟩ | ⟨w, w1, e0, e1, e2, e3⟩
      · rw [show ((9 : Int32).toInt64) = 9 from rfl, e, bd_s, if_pos rfl]
        rcases q with q | ⟨q1, q2⟩
        · rw [if_pos q]; exact ⟨_, _, _, rfl, rfl, fin⟩
        · rw [if_neg q1, grt_all.2.2.1.1, bd_s, if_neg (show ¬ z ≤ (9 : Int32) from q2)]; exact ⟨_, _, _, rfl, rfl, fin⟩
      · rw [show ((9 : Int32).toInt64) = 9 from rfl, e3, bd_s, if_neg one_ne0, if_neg e1, grt_all.2.2.1.1, bd_s, if_pos (show z ≤ (9 : Int32) from e2)]
        repeat (first | rw [if_pos (by decide)] | rw [if_neg (by decide)])
        rw [b, bd_s, lt1_d, lays_2 (by omega), bd_s]
        unfold m_X3_changeNumber
        rw [x3_one_in cx p1, bd_s, if_neg one_ne0, inr_n (by omega) (by omega), gd_t, lt1_d, nI_clamp (by omega), bd_s]
        refine ⟨_, _, _, rfl, rfl, Rel.chg (s := up (nm Mr) 2 p z) hR (FV.up (v := 7) (i := 2) (by omega) (by omega)) (RK.upr (Or.inl rfl)) (by rw [← v1]; exact nx_up (v := 7) (i := 2) cx (by omega)) (nm_upr (c := 0) cm p1 (by omega)) (v2.upn (Or.inr ⟨rfl, w, by omega, e0⟩)) (by rw [up_k (by decide)]; exact v3) (by rw [up_k (by decide)]; exact hdd)⟩
  · rcases ix_cases y (vL (nm Mr)) (by omega) with q | ⟨l, l1, rfl⟩
    · have er : r = -1000 := by rw [told_3o cx q] at a; cases a; rfl
      rw [if_pos er, isOf_3o cm q, bd_s, if_pos rfl]
      exact ⟨_, _, _, rfl, rfl, fin⟩
    · have er : r = Mx 14 l := by rw [told_3 cx l1] at a; cases a; rfl
      have er2 : ¬ r = -1000 := by
        obtain ⟨k, k1, k2⟩ := (v2.2.2.2.2 l l1).2.2.2.1
        rw [er, (hV.lt l1).2.2.2.1, ← (cm.q l1).2.2.2.1, k2]
        exact nI_neg (by omega) (by decide)
      rw [if_neg er2, isOf_3i cm l1, bd_s, if_neg one_ne0, grt_all.2.2.2.2, bd_s]
      rcases wi 99 99 (by decide) (by omega) with ⟨q, e⟩ | ⟨w, w1, e0, e1, e2, e3⟩
      · rw [show ((99 : Int32).toInt64) = 99 from rfl, e, bd_s, if_pos rfl]
        rcases q with q | ⟨q1, q2⟩
        · rw [if_pos q]; exact ⟨_, _, _, rfl, rfl, fin⟩
        · rw [if_neg q1, grt_all.2.2.2.1, bd_s, if_neg (show ¬ z ≤ (99 : Int32) from q2)]; exact ⟨_, _, _, rfl, rfl, fin⟩
      · rw [show ((99 : Int32).toInt64) = 99 from rfl, e3, bd_s, if_neg one_ne0, if_neg e1, grt_all.2.2.2.1, bd_s, if_pos (show z ≤ (99 : Int32) from e2)]
        repeat (first | rw [if_pos (by decide)] | rw [if_neg (by decide)])
        rw [b, bd_s, lt1_d, lays_3 (by omega), bd_s]
        unfold m_X3_changeTone
        rw [x3_let_in cx l1, bd_s, if_neg one_ne0, inr_n (by omega) (by omega), gd_t, lt1_d, nI_clamp (by omega), bd_s]
        refine ⟨_, _, _, rfl, rfl, Rel.chg (s := up (nm Mr) 7 l z) hR (FV.up (v := 7) (i := 7) (by omega) (by omega)) (RK.upr (Or.inr rfl)) (by rw [← v1]; exact nx_up (v := 7) (i := 7) cx (by omega)) (nm_up (c := 0) cm l1 (by omega)) (v2.upl (Or.inr (Or.inl ⟨rfl, w, by omega, e0⟩))) (by rw [up_k (by decide)]; exact v3) (by rw [up_k (by decide)]; exact hdd)⟩
/-! swap -/
theorem up_cm {M : Mm} {k a b : Nat} {x y : Int32} (h : a ≠ b) : up (up M k a x) k b y = up (up M k b y) k a x := by
  funext i j
  by_cases e : i = k
  · subst e
    by_cases e1 : j = a
    · subst e1; rw [up_j h, up_s, up_s]
    · by_cases e2 : j = b
      · subst e2; rw [up_s, up_j e1, up_s]
      · rw [up_j e2, up_j e1, up_j e1, up_j e2]
  · rw [up_k e, up_k e, up_k e, up_k e]
/-- houses laid anew: as long as no two are in one -/
theorem WF.hse {T : Nat} {s t : Vs} (h : WF T s) (e : ∀ i j, i ≠ 3 → t i j = s i j) (hh : ∀ p, p < vP s → ∃ k, k < 8 ∧ t 3 p = nI k) (ha : ∀ p q, p < vP s → q < vP s → t 3 p = t 3 q → p = q) : WF T t := by
  obtain ⟨h1, h2, h3, h4, h5⟩ := h
  have eP : vP t = vP s := by unfold vP; rw [e 0 4 (by decide)]
  have eL : vL t = vL s := by unfold vL; rw [e 0 5 (by decide)]
  unfold WF Apart KIND
  rw [eP, eL]
  refine ⟨?_, ?_, ?_, ha, ?_⟩
  · rw [e 0 4 (by decide), e 0 5 (by decide)]; exact h1
  · rw [e 0 2 (by decide), e 0 3 (by decide)]; exact h2
  · intro p hp
    rw [e 1 p (by decide), e 2 p (by decide)]
    exact ⟨(h3 p hp).1, (h3 p hp).2.1, hh p hp⟩
  · intro m hm
    rw [e 4 m (by decide), e 5 m (by decide), e 6 m (by decide), e 7 m (by decide), e 8 m (by decide)]
    exact h5 m hm
theorem WF.swp {T p q : Nat} {s : Vs} (h : WF T s) (hp : p < vP s) (hq : q < vP s) (hpq : p ≠ q) : WF T (up (up s 3 p (s 3 q)) 3 q (s 3 p)) := by
  have ev : ∀ m, up (up s 3 p (s 3 q)) 3 q (s 3 p) 3 m = s 3 (if m = q then p else if m = p then q else m) := by
    intro m
    by_cases e : m = q
    · subst e; rw [up_s, if_pos rfl]
    · rw [up_j e, if_neg e]
      by_cases e2 : m = p
      · subst e2; rw [up_s, if_pos rfl]
      · rw [up_j e2, if_neg e2]
  have lt : ∀ m, m < vP s → (if m = q then p else if m = p then q else m) < vP s := by
    intro m hm
    split
    · exact hp
    split
    · exact hq
    · exact hm
  refine h.hse (fun i j hi => by rw [up_k hi, up_k hi]) (fun m hm => ?_) (fun m n hm hn e => ?_)
  · rw [ev]; exact (h.2.2.1 _ (lt m hm)).2.2
  · rw [ev, ev] at e
    have := h.2.2.2.1 _ _ (lt m hm) (lt n hn) e
    by_cases a1 : m = q <;> by_cases a2 : n = q <;> by_cases a3 : m = p <;> by_cases a4 : n = p <;> simp only [a1, a2, a3, a4, if_true, if_false] at this <;> first | omega | (split at this <;> first | omega | (split at this <;> omega))
theorem call_swap {Mx Mr : Mm} (h : Rel Mx Mr) (x y : Int32) : Ans (m_X4_swap x y Mx) (m_X5_swap x y Mr) := by
  obtain ⟨T, tx, hR, hV⟩ := h
  obtain ⟨v1, v2, v3, hdd⟩ := id hV
  have cx := hV.cx
  have cm := hV.cm
  have h5 := cm.2.1
  have h8 := cm.2.2.2
  have fin : Rel Mx Mr := ⟨T, tx, hR, hV⟩
  unfold m_X4_swap m_X5_swap m_X3_areTwo m_X5_areTwo
  rcases ix_cases x (vP (nm Mr)) (by omega) with q | ⟨p, p1, rfl⟩
  · rw [x3_one_out cx q, x5_one_out cm q, bd_s, bd_s, if_pos rfl, if_pos rfl, bd_s, bd_s, if_pos rfl, if_pos rfl]
    exact ⟨_, _, _, rfl, rfl, fin⟩
  rw [x3_one_in cx p1, x5_one_in cm p1, bd_s, bd_s, if_neg one_ne0, if_neg one_ne0]
  rcases ix_cases y (vP (nm Mr)) (by omega) with r | ⟨q, q1, rfl⟩
  · rw [x3_one_out cx r, x5_one_out cm r, bd_s, bd_s, if_pos rfl, if_pos rfl, bd_s, bd_s, if_pos rfl, if_pos rfl]
    exact ⟨_, _, _, rfl, rfl, fin⟩
  rw [x3_one_in cx q1, x5_one_in cm q1, bd_s, bd_s, if_neg one_ne0, if_neg one_ne0]
  by_cases e : nI p = nI q
  · rw [if_pos e, if_pos e, bd_s, bd_s, if_pos rfl, if_pos rfl]
    exact ⟨_, _, _, rfl, rfl, fin⟩
  have hpq : p ≠ q := fun z => e (by rw [z])
  have f1 : FV 7 Mx (up Mx 10 q (Mx 10 p)) := FV.up (v := 7) (i := 3) (by omega) (by omega)
  have f2 : FV 7 (up Mx 10 q (Mx 10 p)) (up (up Mx 10 q (Mx 10 p)) 10 p (Mx 10 q)) := FV.up (v := 7) (i := 3) (by omega) (by omega)
  have c2 : CV (up Mx 10 q (Mx 10 p)) 7 (vP (nm Mr)) (vL (nm Mr)) := by
    unfold CV; rw [up_k (by decide), up_k (by decide)]; exact cx
  have e3 := x3_one_in c2 p1
  rw [if_neg e, if_neg e, bd_s, bd_s, if_neg one_ne0, if_neg one_ne0, (x3_of_one cx q1).2.2, bd_s, lt1_d, (x3_of_one cx p1).2.2, bd_s]
  unfold m_X3_moveTo
  rw [x3_one_in cx q1, bd_s, if_neg one_ne0, inr_n (by omega) (by omega), gd_t, lt1_d, bd_s, nI_clamp (by omega), e3, bd_s, if_neg one_ne0, inr_n (by omega) (by omega), gd_t, lt1_d, bd_s, nI_clamp (by omega)]
  rw [pl3, pl3, pla2, pla2, inr_n (by omega) (by omega), inr_n (by omega) (by omega), gd_t, lt1_d, gd_t, gd_t, lt1_d, gd_t, lt1_d, gd_t, nI_clamp (by omega), nI_clamp (by omega), up_j (show 3 * p + 2 ≠ 3 * q + 2 by omega), up_s, ← (hV.row q1).2.2]
  refine ⟨_, _, _, rfl, rfl, Rel.chg (s := up (up (nm Mr) 3 p (nm Mr 3 q)) 3 q (nm Mr 3 p)) hR (f1.tr f2) ((RK.upr (Or.inl rfl)).tr (RK.upr (Or.inl rfl))) ?_ ?_ (v2.swp p1 q1 hpq) (by rw [up_k (by decide), up_k (by decide)]; exact v3) (by rw [up_k (by decide), up_k (by decide)]; exact hdd)⟩
  · show nx (up (up Mx (7 + 3) q (Mx 10 p)) (7 + 3) p (Mx 10 q)) 7 = _
    rw [nx_up (v := 7) (i := 3) c2 (by omega), nx_up (v := 7) (i := 3) cx (by omega), v1, (hV.row p1).2.2, (hV.row q1).2.2, ← (cm.r p1).2.2, ← (cm.r q1).2.2, up_cm hpq.symm]
  · rw [nm_upr (c := 2) (r := 3) (mv_upr cm) q1 (by omega), nm_upr (c := 2) (r := 3) cm p1 (by omega), (hV.row q1).2.2, ← (cm.r p1).2.2, ← (cm.r q1).2.2]
/-! taken -/
def undL : Nat → Int32 → Int32 → Int32 → Option Int32
  | 0, _, _, _ => none
  | n + 1, b, x, i => if (6 : Int32) ≤ i then some 0 else if x < 0 then some 0 else if (6 : Int32) ≤ x then some 0 else if x = b then some 1 else if inr x 6 = true then undL n b (abv x.toNatClampNeg) (i + 1) else none
theorem x3_und_L {M : Mm} {b r : Int32} : ∀ (n m : Nat) (x i : Int32), undL n b x i = some r → m_X3_isUnder_L4 (n + m) b x i M = some (r, M) := by
  intro n
  induction n with
  | zero => intro m x i h; cases h
  | succ n ih =>
    intro m x i h
    rw [show n + 1 + m = (n + m) + 1 by omega]
    show m_X3_isUnder_B4 (m_X3_isUnder_L4 (n + m)) b x i M = _
    unfold m_X3_isUnder_B4
    unfold undL at h
    by_cases h1 : (6 : Int32) ≤ i
    · rw [if_pos h1] at h ⊢; cases h; rfl
    rw [if_neg h1] at h ⊢
    by_cases h2 : x < 0
    · rw [if_pos h2] at h ⊢; cases h; rfl
    rw [if_neg h2] at h ⊢
    by_cases h3 : (6 : Int32) ≤ x
    · rw [if_pos h3] at h ⊢; cases h; rfl
    rw [if_neg h3] at h ⊢
    by_cases h4 : x = b
    · rw [if_pos h4] at h ⊢; cases h; rfl
    rw [if_neg h4] at h ⊢
    by_cases h5 : inr x 6 = true
    · rw [if_pos h5] at h
      rw [h5, gd_t, lt1_d, lt1_d]
      exact ih m _ _ h
    · rw [if_neg h5] at h; cases h
def ovS (x : Int32) : Int32 := if x = 0 then -1 else if x = 3 then 1 else if x = 4 then 2 else 0
def tkL : Nat → Int32 → Int32 → Option Int32
  | 0, _, _ => none
  | n + 1, b, x => if x = -1 then some x else if x = b then some x else tkL n b (ovS x)
theorem x5_tk_L {M : Mm} {a b r : Int32} : ∀ (n m : Nat) (x : Int32), tkL n b x = some r → m_X5_taken_L37 (n + m) a b x M = m_X5_taken_J55 a b r M := by
  intro n
  induction n with
  | zero => intro m x h; cases h
  | succ n ih =>
    intro m x h
    rw [show n + 1 + m = (n + m) + 1 by omega]
    show m_X5_taken_B37 (m_X5_taken_L37 (n + m)) a b x M = _
    unfold m_X5_taken_B37
    unfold tkL at h
    by_cases h1 : x = -1
    · rw [if_pos h1] at h ⊢; cases h; rfl
    rw [if_neg h1] at h ⊢
    by_cases h2 : x = b
    · rw [if_pos h2] at h ⊢; cases h; rfl
    rw [if_neg h2] at h ⊢
    have : m_X5_over x M = some (ovS x, M) := by
      unfold m_X5_over ovS
      split
      · rfl
      split
      · rfl
      split
      · rfl
      · rfl
    rw [this, bd_s, lt1_d]
    exact ih m _ h
theorem und_all : ∀ a, a < 6 → ∀ b, b < 6 → (undL 7 (nI b) (nI a) 0 = some 1 ∧ tkL 7 (nI b) (nI a) = some (nI b)) ∨ (undL 7 (nI b) (nI a) 0 = some 0 ∧ tkL 7 (nI b) (nI a) = some (-1)) := by decide +kernel
theorem call_taken {Mx Mr : Mm} (h : Rel Mx Mr) (x y : Int32) : Ans (m_X4_taken x y Mx) (m_X5_taken x y Mr) := by
  obtain ⟨T, tx, hR, hV⟩ := h
  obtain ⟨v1, v2, v3, hdd⟩ := id hV
  have cx := hV.cx
  have cm := hV.cm
  have h5 := cm.2.1
  have fin : Rel Mx Mr := ⟨T, tx, hR, hV⟩
  unfold m_X4_taken m_X5_taken
  rcases ix_cases y 6 (by omega) with q | ⟨b, b1, rfl⟩
  · rw [x5_in_out (n := 6) (b := 5) (by decide) (by omega) q, bd_s, if_pos rfl]
    rcases rg_out (n := 5) (by omega) q with q | ⟨q1, q2, q3⟩
    · rw [if_pos q]
      exact ⟨_, _, _, rfl, rfl, fin⟩
    · rw [if_neg q1, if_neg (show ¬ y ≤ (5 : Int32) from q2)]
      exact ⟨_, _, _, rfl, rfl, fin⟩
  have rc := rg_in (n := 5) b1 (by omega)
  rw [x5_in_in (n := 5) (b := 5) (by decide) (by omega) (by omega), bd_s, if_neg one_ne0, if_neg rc.1, if_pos (show nI b ≤ (5 : Int32) from rc.2.1)]
  rcases ix_cases x (vP (nm Mr)) (by omega) with q | ⟨p, p1, rfl⟩
  · rw [x3_one_out cx q, x5_one_out cm q, bd_s, bd_s, if_pos rfl, if_pos rfl]
    exact ⟨_, _, _, rfl, rfl, fin⟩
  obtain ⟨k, k1, k2⟩ := (v2.2.2.1 p p1).1
  have k3 : Mx 8 p = nI k := by rw [(hV.row p1).1, ← (cm.r p1).1, k2]
  have k4 : Mr 4 (3 * p + 1) = nI k := by rw [← (cm.r p1).1, k2]
  rw [x3_one_in cx p1, x5_one_in cm p1, bd_s, bd_s, if_neg one_ne0, if_neg one_ne0, (x3_of_one cx p1).1, bd_s, pl3, pla1, inr_n (by omega) (by omega), gd_t, lt1_d, nI_clamp (by omega), k3, k4]
  unfold m_X3_isUnder
  rw [lt1_d, lt1_d]
  have eF : FU = 7 + 999993 := rfl
  rcases und_all k k1 b b1 with ⟨u1, u2⟩ | ⟨u1, u2⟩
  · rw [eF, x3_und_L 7 999993 _ _ u1, x5_tk_L 7 999993 _ u2, bd_s, if_neg one_ne0, (x3_of_one cx p1).2.1, bd_s]
    unfold m_X5_taken_J55
    rw [if_pos rfl, pl3, inr_n (by omega) (by omega), gd_t, nI_clamp (by omega), (hV.row p1).2.1]
    exact ⟨_, _, _, rfl, rfl, fin⟩
  · rw [eF, x3_und_L 7 999993 _ _ u1, x5_tk_L 7 999993 _ u2, bd_s, if_pos rfl]
    unfold m_X5_taken_J55
    rw [if_neg (fun z => nI_m1 (a := b) (by omega) z.symm)]
    exact ⟨_, _, _, rfl, rfl, fin⟩
/-! feed -/
theorem call_feed {Mx Mr : Mm} (h : Rel Mx Mr) (x : Int32) : Ans (m_X4_feed x Mx) (m_X5_feed x Mr) := by
  obtain ⟨T, tx, hR, hV⟩ := h
  have fin : Rel Mx Mr := ⟨T, tx, hR, hV⟩
  obtain ⟨⟨t1, t2⟩, r2, r3, n, n1, n2, n3, n4⟩ := hR
  unfold m_X4_feed m_X5_feed m_X1_add
  rcases ix_cases x 256 (by omega) with q | ⟨b, b1, rfl⟩
  · rw [x5_in_out (n := 256) (b := 255) (by decide) (by omega) q, bd_s, if_pos rfl]
    rcases rg_out (n := 255) (by omega) q with q | ⟨q1, q2, q3⟩
    · rw [if_pos q]
      exact ⟨_, _, _, rfl, rfl, fin⟩
    · rw [if_neg q1, if_neg (show ¬ x ≤ (255 : Int32) from q2)]
      exact ⟨_, _, _, rfl, rfl, fin⟩
  have rc := rg_in (n := 255) b1 (by omega)
  rw [x5_in_in (n := 255) (b := 255) (by decide) (by omega) (by omega), bd_s, if_neg one_ne0, if_neg rc.1, if_pos (show nI b ≤ (255 : Int32) from rc.2.1), n2, n3, if_neg (nI_pos (by omega))]
  by_cases e : n = 160
  · subst e
    rw [if_neg (by decide), bd_s, if_pos rfl, if_pos (by decide)]
    exact ⟨_, _, _, rfl, rfl, fin⟩
  have q1 : nI n < (160 : Int32) := nI_lt (b := 160) (by omega) (by omega)
  have q2 : ¬ nI n = (160 : Int32) := fun q => e ((nI_eq (b := 160) (by omega) (by omega)).mp q)
  have o1 : up Mx 6 n (nI b) 5 0 = nI n := by rw [up_k (by decide), n2]
  have o2 : up Mr 3 n (nI b) 0 6 = nI n := by rw [up_k (by decide), n3]
  rw [if_pos q1, if_neg q2, inr_n (by omega) (by omega), gd_t, gd_t, lt1_d, lt1_d, lt1_d, lt1_d, nI_clamp (by omega), o1, o2, nI_1, bd_s, if_neg one_ne0, up_s, up_s]
  have xo : ∀ k, k ≠ 5 → k ≠ 6 → up (up Mx 6 n (nI b)) 5 0 (nI (n + 1)) k = Mx k := fun k a c => by funext j; rw [up_k a, up_k c]
  have ro : ∀ k, k ≠ 0 → k ≠ 3 → up (up Mr 3 n (nI b)) 0 6 (nI (n + 1)) k = Mr k := fun k a c => by funext j; rw [up_k a, up_k c]
  have r0 : ∀ j, j ≠ 6 → up (up Mr 3 n (nI b)) 0 6 (nI (n + 1)) 0 j = Mr 0 j := fun j a => by rw [up_j a, up_k (by decide)]
  have kx : nx (up (up Mx 6 n (nI b)) 5 0 (nI (n + 1))) 25 = nx Mx 25 := by
    have : vx (up (up Mx 6 n (nI b)) 5 0 (nI (n + 1))) 25 = vx Mx 25 := by funext i j; exact congrFun (xo (25 + i) (by omega) (by omega)) j
    unfold nx; rw [this]
  have nx7 : nx (up (up Mx 6 n (nI b)) 5 0 (nI (n + 1))) 7 = nx Mx 7 := by
    have : vx (up (up Mx 6 n (nI b)) 5 0 (nI (n + 1))) 7 = vx Mx 7 := by funext i j; exact congrFun (xo (7 + i) (by omega) (by omega)) j
    unfold nx; rw [this]
  have kr : nmk (up (up Mr 3 n (nI b)) 0 6 (nI (n + 1))) = nmk Mr := by
    have : vmk (up (up Mr 3 n (nI b)) 0 6 (nI (n + 1))) = vmk Mr := by
      funext i j
      unfold vmk
      split
      · split <;> first | rfl | exact r0 _ (by omega)
      all_goals first | rfl | exact congrFun (ro _ (by omega) (by omega)) _
    unfold nmk; rw [this]
  have nr : nm (up (up Mr 3 n (nI b)) 0 6 (nI (n + 1))) = nm Mr := by
    have : vm (up (up Mr 3 n (nI b)) 0 6 (nI (n + 1))) = vm Mr := by
      funext i j
      unfold vm
      split
      · split <;> first | rfl | exact r0 _ (by omega)
      all_goals first | rfl | exact congrFun (ro _ (by omega) (by omega)) _
    unfold nm; rw [this]
  refine ⟨_, _, _, rfl, rfl, T, tx, ⟨⟨?_, ?_⟩, ?_, ?_, n + 1, by omega, up_s, up_s, ?_⟩, ?_⟩
  · obtain ⟨h1, h2, h3⟩ := t1
    refine ⟨by rw [xo 1 (by decide) (by decide)]; exact h1, h2, fun N a b c => h3 N ?_ ?_ ?_⟩
    · rw [a, xo 1 (by decide) (by decide)]
    · rw [b, xo 2 (by decide) (by decide)]
    · rw [c, xo 3 (by decide) (by decide)]
  · obtain ⟨h1, h2, h3⟩ := t2
    refine ⟨by rw [r0 3 (by decide)]; exact h1, h2, fun N a b c => h3 N ?_ ?_ ?_⟩
    · rw [a, r0 3 (by decide)]
    · rw [b, ro 1 (by decide) (by decide)]
    · rw [c, ro 2 (by decide) (by decide)]
  · unfold RelK at r2 ⊢
    rw [kx, kr, r0 35 (by decide), xo 0 (by decide) (by decide)]
    exact r2
  · intro s hs
    have := r3 s hs
    rw [xo (36 + 2 * s) (by omega) (by omega), xo (37 + 2 * s) (by omega) (by omega), ro 12 (by omega) (by omega), ro 13 (by omega) (by omega), ro 14 (by omega) (by omega), ro 15 (by omega) (by omega)]
    exact this
  · intro j hj
    rw [up_k (show (6 : Nat) ≠ 5 by decide), up_k (show (3 : Nat) ≠ 0 by decide)]
    by_cases e3 : j = n
    · subst e3; rw [up_s, up_s]; exact ⟨rfl, b, b1, rfl⟩
    · rw [up_j e3, up_j e3]; exact n4 j (by omega)
  · unfold RelV
    rw [nx7, nr]
    exact hV
