/-! a text read by both -/
theorem bd_as {α β γ : Type} (x : Option (α × Mm)) (f : α → Mm → Option (β × Mm)) (g : β → Mm → Option γ) : bd (bd x f) g = bd x (fun a M => bd (f a M) g) := by
  cases x <;> rfl
def cpart (p : Int32) (A : Mm) : Option (Unit × Mm) := bd (m_X1_expect (262 + p) A) fun _ M4 => bd (m_X1_readOr 0 M4) fun _ M5 => bd (m_X1_expect 59 M5) fun _ M6 => m_X2_endPart p M6
theorem L23_st {A A' : Mm} {p fu : Nat} (hp : p < 3) (h : cpart (nI p) A = some ((), A')) : m_X1_read_L23 (fu + 1) (nI p) A = m_X1_read_L23 fu (nI (p + 1)) A' := by
  show m_X1_read_B23 (m_X1_read_L23 fu) (nI p) A = _
  have e : m_X1_read_B23 (m_X1_read_L23 fu) (nI p) A = bd (cpart (nI p) A) fun _ M7 => m_X1_read_L23 fu (nI p + 1) M7 := by
    rw [m_X1_read_B23, if_neg (show ¬ (3 : Int32) ≤ nI p from nI_ge (b := 3) (by omega) (by omega))]
    unfold cpart
    rw [bd_as]
    refine congrArg (bd _) (funext fun _ => funext fun M4 => ?_)
    rw [bd_as]
    refine congrArg (bd _) (funext fun _ => funext fun M5 => ?_)
    rw [bd_as]
    refine congrArg (bd _) (funext fun _ => funext fun M6 => ?_)
    exact congrArg (bd _) (funext fun _ => funext fun M7 => lt1_d _ _)
  rw [e, h, bd_s, nI_1]
/-- a part's end: only one place changes in the row of the ends -/
def FPp (e q : Nat) (A A' : Mm) : Prop := (∀ k, k ≠ 1 → k ≠ 2 → k ≠ 3 → k ≠ 5 → A' k = A k) ∧ (∀ j, j ≠ 9 → A' 1 j = A 1 j) ∧ (∀ j, (j < 3 ∨ 7 < j) → A' 5 j = A 5 j) ∧ (∀ j, j < e → A' 2 j = A 2 j) ∧ ∀ j, j ≠ q → A' 3 j = A 3 j
theorem FPp_x {e q : Nat} {A A1 : Mm} {x : Int32} (h : FPx e A A1) : FPp e q A (up A1 3 q x) := by
  refine ⟨fun k a b c d => ?_, fun j a => ?_, fun j a => ?_, fun j a => ?_, fun j a => ?_⟩
  · rw [← h.1 k a b d]; funext z; exact up_k c
  · rw [up_k (by decide)]; exact h.2.1 j a
  · rw [up_k (by decide)]; exact h.2.2.1 j a
  · rw [up_k (by decide)]; exact h.2.2.2 j a
  · rw [up_j a, h.1 3 (by decide) (by decide) (by decide)]
theorem end_ok {A : Mm} {T0 p : Nat} (h : A 1 0 = nI T0) (hT : T0 < 6) (hp : p < 3) : m_X2_endPart (nI p) A = some ((), up A 3 (3 * T0 + p + 1) (A 1 9)) := by
  unfold m_X2_endPart
  rw [h, show nI T0 * (3 : Int32) = nI (T0 * 3) from pk_mul T0 3, nI_add, nI_1, lt1_d, if_neg (nI_pos (by omega)), if_neg (show ¬ (19 : Int32) ≤ nI (T0 * 3 + p + 1) from nI_ge (b := 19) (by omega) (by omega)), inr_n (by omega) (by omega), gd_t, lt1_d, nI_clamp (by omega), Nat.mul_comm]
theorem GD_3 {A R : Mm} {B : Nat → Int32} {n s e q : Nat} {x : Int32} (h : GD B n A R s e) : GD B n (up A 3 q x) R s e := by
  have z : (up A 3 q x) 5 = A 5 := by funext b; exact up_k (by decide)
  obtain ⟨g1, g2, g3, g4, g5, tv⟩ := h
  exact ⟨by rw [z]; exact g1, g2, by rw [z]; exact g3, g4, by rw [up_k (by decide)]; exact g5, TV_x z tv⟩
theorem BAD_3 {A R : Mm} {e q : Nat} {x : Int32} (h : BAD e A R) : BAD e (up A 3 q x) R := by
  have z : (up A 3 q x) 5 = A 5 := by funext b; exact up_k (by decide)
  obtain ⟨⟨b1, b2, y, x1, x2, x3⟩, b3, b4⟩ := h
  exact ⟨⟨by rw [z]; exact b1, by rw [z]; exact b2, y, x1, x2, by rw [up_k (by decide)]; exact x3⟩, b3, by rw [z]; exact b4⟩
theorem tk_p {p : Nat} (hp : p < 3) : (262 : Int32) + nI p = nI (256 + (6 + p)) := by
  show nI 262 + nI p = _
  rw [nI_add, show 262 + p = 256 + (6 + p) by omega]
theorem bT_or : BFx m_X1_readOr := (bxT 60).2.2.2.2.2 (by omega)
theorem ok_OR {B : Nat → Int32} {n : Nat} (hb : BB B n) : OKF B n 31 0 m_X1_readOr m_X5_either := (all_ok hb 60 0 (by omega)).2.2.2.2.2 (by omega)
/-- the class behind a fault -/
theorem cp_bad {A R : Mm} {e T0 p : Nat} (h : BAD e A R) (h10 : A 1 0 = nI T0) (hT : T0 < 6) (hp : p < 3) : cpart (nI p) A = some ((), up A 3 (3 * T0 + p + 1) (A 1 9)) := by
  have h3 := h.1.1
  have h7 := BDx_n h.1
  have z1 : ¬ A 5 3 = nI (256 + (6 + p)) := by rw [h3]; exact fun q => (wt_ne (6 + p) (by omega)).2.2 q.symm
  have z2 : ¬ A 5 3 = 59 := by rw [h3]; decide
  unfold cpart m_X1_expect
  rw [tk_p hp, if_neg z1, rf_bad h3 h7, bd_s, bd_s, bT_or 0 A h3 h7, bd_s, if_neg z2, rf_bad h3 h7, bd_s, bd_s, end_ok h10 hT hp]
theorem part_ok {A R : Mm} {B : Nat → Int32} {n s e T0 p : Nat} (hb : BB B n) (hx : BX A B n) (hm : BM R B n) (g : GD B n A R s e) (h26 : R 0 26 = nI 0) (he : e + (n - s) ≤ 960) (h10 : A 1 0 = nI T0) (hT : T0 < 6) (hp : p < 3) : ∃ (v : Int32) (A' R' : Mm), cpart (nI p) A = some ((), A') ∧ m_X5_part (b2i (decide (A 5 3 = nI (256 + (6 + p))))) R = some (v, R') ∧ FPp e (3 * T0 + p + 1) A A' ∧ FPm R R' ∧ R' 0 26 = nI 0 ∧ ((∃ (s' : Nat) (c : List Int32), s < s' ∧ GD B n A' R' s' (e + c.length) ∧ c.length ≤ s' - s ∧ CDA A' e c ∧ RUN R 31 c v ∧ A' 3 (3 * T0 + p + 1) = nI (e + c.length)) ∨ BAD e A' R') := by
  have n160 := hb.1
  have sle := gd_s g
  -- a fault found on the way
  have badend : ∀ (A1 R1 : Mm) (v : Int32), BAD e A1 R1 → FPx e A A1 → m_X1_readOr 0 A1 = some ((), A1) ∧ m_X1_expect 59 A1 = some ((), A1) ∧ m_X2_endPart (nI p) A1 = some ((), up A1 3 (3 * T0 + p + 1) (A1 1 9)) := by
    intro A1 R1 v bad f
    have h3 := bad.1.1
    have h7 := BDx_n bad.1
    have z2 : ¬ A1 5 3 = 59 := by rw [h3]; decide
    refine ⟨bT_or 0 A1 h3 h7, ?_, end_ok (by rw [f.2.1 0 (by decide)]; exact h10) hT hp⟩
    unfold m_X1_expect
    rw [if_neg z2, rf_bad h3 h7, bd_s]
  have mbad : ∀ (R1 : Mm) (v : Int32), R1 0 27 = 1 → m_X5_part_J34 v R1 = some (v, R1) := by
    intro R1 v h27
    have z : ¬ R1 0 27 = 0 := by rw [h27]; decide
    unfold m_X5_part_J34 m_X5_part_J48 m_X5_isSign
    rw [lt1_d, if_neg z, bd_s, if_pos rfl, fl_bad h27, bd_s, if_neg z]
  by_cases t1 : A 5 3 = nI (256 + (6 + p))
  · have z0 : ¬ A 5 3 = 0 := by rw [t1]; exact (wt_ne (6 + p) (by omega)).1
    have z2 : ¬ A 5 3 = 2 := by rw [t1]; exact (wt_ne (6 + p) (by omega)).2.2
    obtain ⟨sn, A1, R1, s1, p1, p2, p3, p3', p4, p5, p6, p7⟩ := nxt hb hx hm g z0 z2
    obtain ⟨v, A2, R2, k1, k2, k3, k4, k5, k6⟩ := ok_OR hb A1 R1 s1 e (FPx_bx p4 hx) (FPm_bm p5 hm) p7 (p6.trans h26) (by omega)
    have f2 := FPx_tr p4 k3
    have m2 := FPm_tr p5 k4
    have g27 := g.2.1
    have g27' := p7.2.1
    rw [decide_eq_true t1, b2i_t]
    unfold cpart m_X5_part m_X5_part_J8 m_X5_part_J19
    rw [tk_p hp, if_neg one_ne0, if_pos g27, p2, bd_s, if_pos g27', k2, bd_s]
    rw [show m_X1_expect (nI (256 + (6 + p))) A = some ((), A1) by unfold m_X1_expect; rw [if_pos t1, if_neg z0, p1, bd_s], bd_s, ← nI_0, k1, bd_s]
    rcases k6 with ⟨s2, c2, r1, r2, r3, r4, r5⟩ | bad
    · have s2n := gd_s r2
      have st2 : STT B n A2 R2 := Or.inl ⟨s2, _, r2⟩
      unfold m_X5_part_J34
      rw [lt1_d, v_sg (c := 59) (by decide) st2, bd_s]
      by_cases t59 : A2 5 3 = 59
      · have y0 : ¬ A2 5 3 = 0 := by rw [t59]; decide
        have y2 : ¬ A2 5 3 = 2 := by rw [t59]; decide
        obtain ⟨sn3, A3, R3, s3, l1, l2, l3, l4, l5, l6, l7, l8⟩ := nxt hb (FPx_bx f2 hx) (FPm_bm m2 hm) r2 y0 y2
        have g27'' := r2.2.1
        have f3 : FPx e A A3 := FPx_tr f2 (FPx_le (by omega) l5)
        rw [decide_eq_true t59, b2i_t, if_neg one_ne0, m_X5_part_J48, if_pos g27'', l2, bd_s]
        rw [show m_X1_expect 59 A2 = some ((), A3) by unfold m_X1_expect; rw [if_pos t59, if_neg y0, l1, bd_s], bd_s, end_ok (by rw [f3.2.1 0 (by decide)]; exact h10) hT hp]
        refine ⟨v, _, R3, rfl, rfl, FPp_x f3, FPm_tr m2 l6, l7.trans k5, Or.inl ⟨s3, c2, by omega, GD_3 l8, by omega, ?_, RUN_m p5 r5, ?_⟩⟩
        · intro k hk
          rw [up_k (by decide)]
          exact CDA_fp r4 l5 (Nat.le_refl _) k hk
        · rw [up_s]; exact l8.2.2.2.2.1
      · obtain ⟨A3, R3, l1, l2, l3, l4, l5, l6⟩ := rf_ok hb r2 (by omega)
        have b27 : ¬ R3 0 27 = 0 := by rw [l3.2.1]; decide
        have f3 : FPx e A A3 := FPx_tr f2 (FPx_le (by omega) l4)
        rw [decide_eq_false t59, b2i_f, if_pos rfl, l2, bd_s, m_X5_part_J48, if_neg b27]
        rw [show m_X1_expect 59 A2 = some ((), A3) by unfold m_X1_expect; rw [if_neg t59, l1, bd_s], bd_s, end_ok (by rw [f3.2.1 0 (by decide)]; exact h10) hT hp]
        exact ⟨v, _, R3, rfl, rfl, FPp_x f3, FPm_tr m2 l5, l6.trans k5, Or.inr (BAD_3 (BAD_le (by omega) l3))⟩
    · obtain ⟨-, e2, e3⟩ := badend A2 R2 v bad f2
      rw [mbad R2 v bad.2.1, e2, bd_s, e3]
      exact ⟨v, _, R2, rfl, rfl, FPp_x f2, m2, k5, Or.inr (BAD_3 bad)⟩
  · obtain ⟨A1, R1, l1, l2, l3, l4, l5, l6⟩ := rf_ok hb g (by omega)
    have b27 : ¬ R1 0 27 = 0 := by rw [l3.2.1]; decide
    obtain ⟨e1, e2, e3⟩ := badend A1 R1 0 l3 l4
    rw [decide_eq_false t1, b2i_f]
    unfold cpart m_X5_part m_X5_part_J8 m_X5_part_J19
    rw [if_pos rfl, l2, bd_s, if_neg b27, if_neg b27, mbad R1 0 l3.2.1, tk_p hp]
    rw [show m_X1_expect (nI (256 + (6 + p))) A = some ((), A1) by unfold m_X1_expect; rw [if_neg t1, l1, bd_s], bd_s, e1, bd_s, e2, bd_s, e3]
    exact ⟨0, _, R1, rfl, rfl, FPp_x l4, l5, l6.trans h26, Or.inr (BAD_3 l3)⟩

