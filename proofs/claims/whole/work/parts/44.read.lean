/-! a whole text read by both -/
def FPe (e T0 : Nat) (A A' : Mm) : Prop := (∀ k, k ≠ 1 → k ≠ 2 → k ≠ 3 → k ≠ 5 → A' k = A k) ∧ (∀ j, j ≠ 0 → j ≠ 9 → A' 1 j = A 1 j) ∧ (∀ j, (j < 3 ∨ 7 < j) → j ≠ 0 → A' 5 j = A 5 j) ∧ (∀ j, j < e → A' 2 j = A 2 j) ∧ ∀ j, j ≤ 3 * T0 → A' 3 j = A 3 j
theorem FPe_tr {e T0 : Nat} {A A1 A2 : Mm} (h : FPe e T0 A A1) (g : FPe e T0 A1 A2) : FPe e T0 A A2 := ⟨fun k a b c d => (g.1 k a b c d).trans (h.1 k a b c d), fun j a b => (g.2.1 j a b).trans (h.2.1 j a b), fun j a b => (g.2.2.1 j a b).trans (h.2.2.1 j a b), fun j a => (g.2.2.2.1 j a).trans (h.2.2.2.1 j a), fun j a => (g.2.2.2.2 j a).trans (h.2.2.2.2 j a)⟩
theorem FPe_p {e e0 T0 p : Nat} {A A1 : Mm} (h : FPp e (3 * T0 + p + 1) A A1) (he : e0 ≤ e) : FPe e0 T0 A A1 := ⟨h.1, fun j _ b => h.2.1 j b, fun j a _ => h.2.2.1 j a, fun j a => h.2.2.2.1 j (by omega), fun j a => h.2.2.2.2 j (by omega)⟩
theorem FPe_x {e e0 T0 : Nat} {A A1 : Mm} (h : FPx e A A1) (he : e0 ≤ e) : FPe e0 T0 A A1 := ⟨fun k a b _ d => h.1 k a b d, fun j _ b => h.2.1 j b, fun j a _ => h.2.2.1 j a, fun j a => h.2.2.2 j (by omega), fun j _ => by rw [h.1 3 (by decide) (by decide) (by decide)]⟩
theorem FPe_5 {e0 T0 : Nat} {A : Mm} {x : Int32} : FPe e0 T0 A (up A 5 0 x) := ⟨fun k _ _ _ d => by funext b; exact up_k d, fun j _ _ => up_k (by decide), fun j _ b => up_j b, fun j _ => up_k (by decide), fun j _ => up_k (by decide)⟩
theorem FPe_1 {e0 T0 j : Nat} {A : Mm} {x : Int32} (h : j = 0 ∨ j = 9) : FPe e0 T0 A (up A 1 j x) := ⟨fun k a _ _ _ => by funext b; exact up_k a, fun i a b => up_j (by omega), fun j _ _ => up_k (by decide), fun j _ => up_k (by decide), fun j _ => up_k (by decide)⟩
theorem sg_cd {A : Mm} {e : Nat} {c : List Int32} (h : CDA A e c) : sgC (A 2) e (e + c.length) = c := by
  show wrd (A 2) e (e + c.length) = c
  have len : (wrd (A 2) e (e + c.length)).length = c.length := by rw [wrd_len]; omega
  rw [ls_eq len]
  intro j hj
  rw [wrd_get (by omega), h j hj]
theorem J82 {A : Mm} : m_X1_read_J82 A = some (A 5 7, up A 5 0 0) := by
  unfold m_X1_read_J82
  rw [lt1_d, up_j (by decide)]
theorem L23_bad {R : Mm} {e T0 : Nat} (hT : T0 < 6) : ∀ (k p fu : Nat) (A : Mm), k < fu → p + k = 3 → BAD e A R → A 1 0 = nI T0 → ∃ A', m_X1_read_L23 fu (nI p) A = some (A 5 7, A') ∧ FPe e T0 A A' ∧ A' 5 0 = 0 ∧ A' 1 0 = nI T0 := by
  intro k
  induction k with
  | zero =>
    intro p fu A hf hp bad h10
    obtain ⟨fu, rfl⟩ : ∃ m, fu = m + 1 := ⟨fu - 1, by omega⟩
    have h3 := bad.1.1
    have h7 := BDx_n bad.1
    have z0 : ¬ A 5 3 = 0 := by rw [h3]; decide
    refine ⟨up A 5 0 0, ?_, FPe_5, up_s, by rw [up_k (by decide)]; exact h10⟩
    show m_X1_read_B23 (m_X1_read_L23 fu) (nI p) A = _
    unfold m_X1_read_B23 m_X1_expect
    rw [if_pos (show (3 : Int32) ≤ nI p from nI_le (a := 3) (by omega) (by omega)), if_neg z0, rf_bad h3 h7, bd_s, bd_s, if_neg h7, J82]
  | succ k ih =>
    intro p fu A hf hp bad h10
    obtain ⟨fu, rfl⟩ : ∃ m, fu = m + 1 := ⟨fu - 1, by omega⟩
    have hc := cp_bad bad h10 hT (show p < 3 by omega)
    have z : (up A 3 (3 * T0 + p + 1) (A 1 9)) 5 = A 5 := by funext b; exact up_k (by decide)
    rw [L23_st (by omega) hc]
    obtain ⟨A', a1, a2, a3, a4⟩ := ih (p + 1) fu _ (by omega) (by omega) (BAD_3 (q := 3 * T0 + p + 1) (x := A 1 9) bad) (by rw [up_k (by decide)]; exact h10)
    rw [z] at a1
    exact ⟨A', a1, FPe_tr (FPe_p (p := p) (FPp_x FPx_rf) (Nat.le_refl _)) a2, a3, a4⟩
theorem J151_p {part : Nat} {v0 v1 v2 : Int32} {R : Mm} (hp : part < 3) : m_X5_read_J151 (nI part) v0 v1 v2 R = some (if part = 0 then v0 else if part = 1 then v1 else v2, R) := by
  unfold m_X5_read_J151
  rcases (show part = 0 ∨ part = 1 ∨ part = 2 by omega) with rfl | rfl | rfl
  · rw [if_pos (show nI 0 = (0 : Int32) by decide), if_pos rfl]
  · rw [if_neg (show ¬ nI 1 = (0 : Int32) by decide), if_pos (show nI 1 = (1 : Int32) by decide), if_neg (by decide), if_pos rfl]
  · rw [if_neg (show ¬ nI 2 = (0 : Int32) by decide), if_neg (show ¬ nI 2 = (1 : Int32) by decide), if_neg (by decide), if_neg (by decide)]
theorem J131_bad {x2 x3 x4 s0 : Int32} {R : Mm} (h : R 0 27 = 1) : m_X5_read_J131 x2 x3 x4 s0 R = m_X5_read_J151 x2 x3 x4 s0 R := by
  have z : ¬ R 0 27 = 0 := by rw [h]; decide
  unfold m_X5_read_J131
  rw [lt1_d, if_neg z]
theorem J96_bad {x2 x3 s0 : Int32} {R : Mm} (h : R 0 27 = 1) : m_X5_read_J96 x2 x3 s0 R = m_X5_read_J151 x2 x3 s0 0 R := by
  have z : ¬ R 0 27 = 0 := by rw [h]; decide
  unfold m_X5_read_J96
  rw [lt1_d, if_neg z, J131_bad h]
/-- what a text is for both: its fault, or its three rows of codes -/
def RES (e0 T0 n part : Nat) (R0 : Mm) (r : Int32) (A' : Mm) (v : Int32) (R' : Mm) : Prop := (r = -1 ∧ R' 0 27 = 0 ∧ A' 1 0 = nI (T0 + 1) ∧ ∃ b : Nat → Nat, b 0 = e0 ∧ (∀ p, p ≤ 3 → A' 3 (3 * T0 + p) = nI (b p)) ∧ (∀ p, p < 3 → b p ≤ b (p + 1)) ∧ b 3 ≤ e0 + n ∧ ∀ p, p < 3 → ∃ x, rnC (nmE R0) (sgC (A' 2) (b p) (b (p + 1))) [] = some [x] ∧ (part = p → v = x)) ∨ (∃ f, f ≤ 160 ∧ r = nI f ∧ R' 0 27 = 1 ∧ R' 0 28 = nI f ∧ A' 1 0 = nI T0)
theorem tok0 {A R : Mm} {B : Nat → Int32} {n s : Nat} (h : TV B n A R s) : (A 5 3 = 0 ∧ R 0 23 = 0) ∨ (¬ A 5 3 = 0 ∧ ¬ R 0 23 = 0) := by
  rcases h with ⟨t1, t2, t3⟩ | ⟨t1, x, x1, x2, x3, x4, ⟨w, w1, w2, w3, w4, w5⟩ | ⟨n1, n2, -⟩ | ⟨k1, k2, k3, k4⟩⟩ | ⟨t1, t2, t3⟩
  · exact Or.inl ⟨t2, t3⟩
  · exact Or.inr ⟨by rw [w2]; exact (wt_ne w w1).1, by rw [w3]; decide⟩
  · exact Or.inr ⟨by rw [n1]; decide, by rw [n2]; decide⟩
  · exact Or.inr ⟨by rw [k2]; exact (sg_ne k1).1, by rw [k3]; decide⟩
  · refine Or.inr ⟨by rw [t2]; decide, ?_⟩
    rcases t3 with q | ⟨q, -⟩ <;> rw [q] <;> decide
theorem bad_res {A A' R : Mm} {e e0 T0 n part : Nat} {R0 : Mm} {v : Int32} (h : BAD e A R) (h10 : A' 1 0 = nI T0) : RES e0 T0 n part R0 (A 5 7) A' v R := by
  obtain ⟨⟨b1, ⟨f, f1, f2⟩, y, x1, x2, x3⟩, b3, b4⟩ := h
  exact Or.inr ⟨f, f1, f2, b3, by rw [b4, f2], h10⟩
theorem parts_ok {A R : Mm} {B : Nat → Int32} {n s e0 T0 part : Nat} (hb : BB B n) (hx : BX A B n) (hm : BM R B n) (g : GD B n A R s e0) (h26 : R 0 26 = nI 0) (he : e0 ≤ 160 * T0) (h3 : A 3 (3 * T0) = nI e0) (h10 : A 1 0 = nI T0) (hT : T0 < 6) (hp : part < 3) : ∃ (r : Int32) (A' : Mm) (v : Int32) (R' : Mm), m_X1_read_L23 FU 0 A = some (r, A') ∧ (bd (m_X5_part (b2i (decide (A 5 3 = nI 262))) R) fun r17 M16 => lt1 r17 fun y18 => if (M16 0 27) = 0 then (bd (m_X5_isWord 115 111 102 116 101 110 115 0 M16) fun r20 M19 => bd (m_X5_part r20 M19) fun r22 M21 => m_X5_read_J96 (nI part) y18 r22 M21) else (m_X5_read_J96 (nI part) y18 0 M16)) = some (v, R') ∧ FPe e0 T0 A A' ∧ FPm R R' ∧ A' 5 0 = 0 ∧ RES e0 T0 n part R r A' v R' := by
  have n160 := hb.1
  have sle := gd_s g
  obtain ⟨fu, hfu⟩ : ∃ f, FU = f + 1 + 1 + 1 + 1 := ⟨999996, by unfold FU; omega⟩
  rw [hfu]
  have t0 : nI 262 = nI (256 + (6 + 0)) := rfl
  obtain ⟨v0, A0, R0, a1, a2, a3, a4, a5, a6⟩ := part_ok (p := 0) hb hx hm g h26 (by omega) h10 hT (by omega)
  have st0 := L23_st (fu := fu + 1 + 1 + 1) (by omega) a1
  rw [nI_0] at st0
  rw [st0, t0, a2, bd_s, lt1_d]
  have i0 : A0 1 0 = nI T0 := by rw [a3.2.1 0 (by decide)]; exact h10
  rcases a6 with ⟨s1, c0, q1, q2, q3, q4, q5, q6⟩ | bad
  rotate_left
  · have b27 : ¬ R0 0 27 = 0 := by rw [bad.2.1]; decide
    obtain ⟨A', x1, x2, x3, x4⟩ := L23_bad hT 2 1 (fu + 1 + 1 + 1) A0 (by omega) (by omega) bad i0
    rw [if_neg b27, J96_bad bad.2.1, J151_p hp, x1]
    exact ⟨_, A', _, R0, rfl, rfl, FPe_tr (FPe_p (p := 0) a3 (Nat.le_refl _)) x2, a4, x3, bad_res bad x4⟩
  have s1n := gd_s q2
  have g27 := q2.2.1
  have hx0 : BX A0 B n := ⟨by rw [a3.2.2.1 0 (by omega)]; exact hx.1, fun j hj => by rw [a3.1 6 (by decide) (by decide) (by decide) (by decide)]; exact hx.2 j hj⟩
  have hm0 := FPm_bm a4 hm
  have w1 : m_X5_isWord 115 111 102 116 101 110 115 0 R0 = _ := v_wd hb hm0 (w := 7) (by omega) (Or.inl ⟨s1, _, q2⟩)
  obtain ⟨v1, A1, R1, b1, b2, b3, b4, b5, b6⟩ := part_ok (p := 1) hb hx0 hm0 q2 a5 (by omega) i0 hT (by omega)
  rw [if_pos g27, w1, bd_s, show 256 + 7 = 256 + (6 + 1) from rfl, b2, bd_s, L23_st (fu := fu + 1 + 1) (by omega) b1]
  have i1 : A1 1 0 = nI T0 := by rw [b3.2.1 0 (by decide)]; exact i0
  have m1 := FPm_tr a4 b4
  have f1 : FPe e0 T0 A A1 := FPe_tr (FPe_p (p := 0) a3 (Nat.le_refl _)) (FPe_p (p := 1) b3 (by omega))
  rcases b6 with ⟨s2, c1, r1, r2, r3, r4, r5, r6⟩ | bad
  rotate_left
  · obtain ⟨A', x1, x2, x3, x4⟩ := L23_bad hT 1 2 (fu + 1 + 1) A1 (by omega) (by omega) (BAD_le (e := e0) (by omega) bad) i1
    rw [J96_bad bad.2.1, J151_p hp, x1]
    exact ⟨_, A', _, R1, rfl, rfl, FPe_tr f1 x2, m1, x3, bad_res bad x4⟩
  have s2n := gd_s r2
  have g27' := r2.2.1
  have hx1 : BX A1 B n := ⟨by rw [b3.2.2.1 0 (by omega)]; exact hx0.1, fun j hj => by rw [b3.1 6 (by decide) (by decide) (by decide) (by decide)]; exact hx0.2 j hj⟩
  have hm1 := FPm_bm b4 hm0
  have w2 : m_X5_isWord 119 114 105 116 101 115 0 0 R1 = _ := v_wd hb hm1 (w := 8) (by omega) (Or.inl ⟨s2, _, r2⟩)
  obtain ⟨v2, A2, R2, d1, d2, d3, d4, d5, d6⟩ := part_ok (p := 2) hb hx1 hm1 r2 b5 (by omega) i1 hT (by omega)
  unfold m_X5_read_J96
  rw [lt1_d, if_pos g27', w2, bd_s, show 256 + 8 = 256 + (6 + 2) from rfl, d2, bd_s, L23_st (fu := fu + 1) (by omega) d1]
  have i2 : A2 1 0 = nI T0 := by rw [d3.2.1 0 (by decide)]; exact i1
  have m2 := FPm_tr m1 d4
  have f2 : FPe e0 T0 A A2 := FPe_tr f1 (FPe_p (p := 2) d3 (by omega))
  rcases d6 with ⟨s3, c2, u1, u2, u3, u4, u5, u6⟩ | bad
  rotate_left
  · obtain ⟨A', x1, x2, x3, x4⟩ := L23_bad hT 0 3 (fu + 1) A2 (by omega) (by omega) (BAD_le (e := e0) (by omega) bad) i2
    rw [J131_bad bad.2.1, J151_p hp, x1]
    exact ⟨_, A', _, R2, rfl, rfl, FPe_tr f2 x2, m2, x3, bad_res bad x4⟩
  have s3n := gd_s u2
  have g27'' := u2.2.1
  have hm2 := FPm_bm d4 hm1
  unfold m_X5_read_J131
  rw [lt1_d, if_pos g27'']
  rcases tok0 u2.2.2.2.2.2 with ⟨z1, z2⟩ | ⟨z1, z2⟩
  · -- well read
    rw [if_pos z2, J151_p hp]
    have hk : m_X1_read_L23 (fu + 1) (nI (2 + 1)) A2 = some (-1, up (up A2 1 0 (nI (T0 + 1))) 5 0 0) := by
      show m_X1_read_B23 (m_X1_read_L23 fu) (nI (2 + 1)) A2 = _
      unfold m_X1_read_B23 m_X1_expect m_X2_keep m_X2_hasRoom
      rw [if_pos (show (3 : Int32) ≤ nI (2 + 1) by decide), if_pos z1, if_pos z1, bd_s, if_pos u2.1, i2, if_neg (show ¬ (6 : Int32) ≤ nI T0 from nI_ge (b := 6) (by omega) (by omega)), bd_s, if_neg one_ne0, lt1_d, i2, nI_1, bd_s, J82, up_k (by decide), u2.1]
    rw [hk]
    have key : ∀ k j, (k = 2 ∨ k = 3) → up (up A2 1 0 (nI (T0 + 1))) 5 0 0 k j = A2 k j := by
      intro k j hk
      rw [up_k (by omega), up_k (by omega)]
    have row2 : up (up A2 1 0 (nI (T0 + 1))) 5 0 0 2 = A2 2 := funext fun j => key 2 j (Or.inl rfl)
    refine ⟨_, _, _, R2, rfl, rfl, FPe_tr f2 (FPe_tr (FPe_1 (Or.inl rfl)) FPe_5), m2, up_s, Or.inl ⟨rfl, g27'', by rw [up_k (by decide), up_s], fun p => if p = 0 then e0 else if p = 1 then e0 + c0.length else if p = 2 then e0 + c0.length + c1.length else e0 + c0.length + c1.length + c2.length, rfl, ?_, ?_, ?_, ?_⟩⟩
    · intro p hp3
      rw [key 3 _ (Or.inr rfl)]
      rcases (show p = 0 ∨ p = 1 ∨ p = 2 ∨ p = 3 by omega) with rfl | rfl | rfl | rfl
      · show A2 3 (3 * T0 + 0) = nI e0
        rw [d3.2.2.2.2 _ (by omega), b3.2.2.2.2 _ (by omega), a3.2.2.2.2 _ (by omega)]
        exact h3
      · show A2 3 (3 * T0 + 1) = nI (e0 + c0.length)
        rw [d3.2.2.2.2 _ (by omega), b3.2.2.2.2 _ (by omega)]
        exact q6
      · show A2 3 (3 * T0 + 2) = nI (e0 + c0.length + c1.length)
        rw [d3.2.2.2.2 _ (by omega)]
        exact r6
      · exact u6
    · intro p hp3
      rcases (show p = 0 ∨ p = 1 ∨ p = 2 by omega) with rfl | rfl | rfl
      · show e0 ≤ e0 + c0.length; omega
      · show e0 + c0.length ≤ e0 + c0.length + c1.length; omega
      · show e0 + c0.length + c1.length ≤ e0 + c0.length + c1.length + c2.length; omega
    · show e0 + c0.length + c1.length + c2.length ≤ e0 + n
      omega
    · rw [row2]
      have fd0 : ∀ j, j < e0 + c0.length → A2 2 j = A0 2 j := fun j hj => by rw [d3.2.2.2.1 j (by omega), b3.2.2.2.1 j hj]
      have cd0 : CDA A2 e0 c0 := fun k hk => by rw [fd0 _ (by omega)]; exact q4 k hk
      have cd1 : CDA A2 (e0 + c0.length) c1 := fun k hk => by rw [d3.2.2.2.1 _ (by omega)]; exact r4 k hk
      have n0 : ([] : List Int32).length + 31 ≤ 63 := by decide
      intro p hp3
      rcases (show p = 0 ∨ p = 1 ∨ p = 2 by omega) with rfl | rfl | rfl
      · refine ⟨v0, ?_, fun q => by subst q; rw [if_pos rfl]⟩
        show rnC (nmE R) (sgC (A2 2) e0 (e0 + c0.length)) [] = _
        rw [sg_cd cd0]
        exact q5 [] n0
      · refine ⟨v1, ?_, fun q => by subst q; rw [if_neg (by decide), if_pos rfl]⟩
        show rnC (nmE R) (sgC (A2 2) (e0 + c0.length) (e0 + c0.length + c1.length)) [] = _
        rw [sg_cd cd1]
        exact (RUN_m a4 r5) [] n0
      · refine ⟨v2, ?_, fun q => by subst q; rw [if_neg (by decide), if_neg (by decide)]⟩
        show rnC (nmE R) (sgC (A2 2) (e0 + c0.length + c1.length) (e0 + c0.length + c1.length + c2.length)) [] = _
        rw [sg_cd u4]
        exact (RUN_m m1 u5) [] n0
  · -- something stands behind the end
    obtain ⟨A3, R3, l1, l2, l3, l4, l5, l6⟩ := rf_ok hb u2 (by omega)
    have h7 := BDx_n l3.1
    rw [if_neg z2, l2, bd_s, J151_p hp]
    have hk : m_X1_read_L23 (fu + 1) (nI (2 + 1)) A2 = some (A3 5 7, up A3 5 0 0) := by
      show m_X1_read_B23 (m_X1_read_L23 fu) (nI (2 + 1)) A2 = _
      unfold m_X1_read_B23 m_X1_expect
      rw [if_pos (show (3 : Int32) ≤ nI (2 + 1) by decide), if_neg z1, l1, bd_s, bd_s, if_neg h7, J82]
    rw [hk]
    exact ⟨_, _, _, R3, rfl, rfl, FPe_tr f2 (FPe_tr (FPe_x l4 (by omega)) FPe_5), FPm_tr m2 l5, up_s, bad_res l3 (by rw [up_k (by decide), l4.2.1 0 (by decide)]; exact i2)⟩
/-- read by both -/
theorem read_ok {A R : Mm} {B : Nat → Int32} {n e0 T0 t part : Nat} (hb : BB B n) (hx : BX A B n) (hT : T0 < 6) (h10 : A 1 0 = nI T0) (he : e0 ≤ 160 * T0) (h3 : A 3 (3 * T0) = nI e0) (ht : t < 6) (hp : part < 3) (hn : R 2 t = nI n) (hB : ∀ j, j < n → R 1 (160 * t + j) = B j) : ∃ (r : Int32) (A' : Mm) (v : Int32) (R' : Mm), m_X1_read A = some (r, A') ∧ m_X5_read (nI t) (nI part) R = some (v, R') ∧ FPe e0 T0 A A' ∧ ((∀ k, k ≠ 0 → R' k = R k) ∧ ∀ j, (j < 20 ∨ 28 < j) → R' 0 j = R 0 j) ∧ A' 5 0 = 0 ∧ RES e0 T0 n part R r A' v R' := by
  have n160 := hb.1
  -- the class begins
  have fa : FA (up A 5 7 (-1)) (up (up A 5 7 (-1)) 5 5 0) := FA_up (by omega)
  obtain ⟨A1, a1, a2, a3, a4⟩ := x1_adv hb (FA_bx fa (BX_up (x := -1) hx (show 7 ≠ 0 by decide))) (Nat.zero_le n) (show up (up A 5 7 (-1)) 5 5 0 5 5 = nI 0 by rw [up_s, nI_0])
  have c0 : FPe e0 T0 A (up A 5 7 (-1)) := ⟨fun k _ _ _ d => by funext b; exact up_k d, fun j _ _ => up_k (by decide), fun j a _ => up_j (by omega), fun j _ => up_k (by decide), fun j _ => up_k (by decide)⟩
  have c1 : FPe e0 T0 A A1 := FPe_tr c0 (FPe_x (FPx_fa (FA_tr fa a2)) (Nat.le_refl _))
  have k10 : A1 1 0 = nI T0 := by rw [a2.1 1 (by decide), up_k (by decide), up_k (by decide)]; exact h10
  have k3 : A1 3 (3 * T0) = nI e0 := by rw [c1.2.2.2.2 _ (Nat.le_refl _)]; exact h3
  have k57 : A1 5 7 = -1 := by rw [a2.2 7 (by omega), up_j (by decide), up_s]
  have ebeg : m_X2_begin A1 = some ((), up A1 1 9 (nI e0)) := by
    unfold m_X2_begin m_X2_hasRoom m_X2_begin_J27
    rw [k10, if_neg (show ¬ (6 : Int32) ≤ nI T0 from nI_ge (b := 6) (by omega) (by omega)), bd_s, if_neg one_ne0, k10, show nI T0 * (3 : Int32) = nI (T0 * 3) from pk_mul T0 3, inr_n (by omega) (by omega), gd_t, nI_clamp (by omega), Nat.mul_comm, k3, lt1_d]
  -- the reference begins
  have e20 : (160 : Int32) * nI t = nI (160 * t) := pk_mul 160 t
  generalize hR5 : up (up (up (up (up R 0 20 (nI (160 * t))) 0 21 (nI n)) 0 22 0) 0 26 0) 0 27 0 = R5
  have q20 : R5 0 20 = nI (160 * t) := by rw [← hR5, up_j (by decide), up_j (by decide), up_j (by decide), up_j (by decide), up_s]
  have q21 : R5 0 21 = nI n := by rw [← hR5, up_j (by decide), up_j (by decide), up_j (by decide), up_s]
  have q22 : R5 0 22 = nI 0 := by rw [← hR5, up_j (by decide), up_j (by decide), up_s, nI_0]
  have q26 : R5 0 26 = nI 0 := by rw [← hR5, up_j (by decide), up_s, nI_0]
  have q27 : R5 0 27 = 0 := by rw [← hR5, up_s]
  have qk : ∀ k, k ≠ 0 → R5 k = R k := by
    intro k hk
    funext b
    rw [← hR5, up_k hk, up_k hk, up_k hk, up_k hk, up_k hk]
  have qj : ∀ j, (j < 20 ∨ 28 < j) → R5 0 j = R 0 j := by
    intro j hj
    rw [← hR5, up_j (by omega), up_j (by omega), up_j (by omega), up_j (by omega), up_j (by omega)]
  have hm5 : BM R5 B n := ⟨q21, t, ht, q20, fun j hj => by rw [qk 1 (by decide)]; exact hB j hj⟩
  obtain ⟨R6, b1, b2, b3, b4⟩ := x5_nx hb hm5 (Nat.zero_le n) q22
  have p6 := FPm_fr b2
  have g : GD B n (up A1 1 9 (nI e0)) R6 (ad blB B (n - 0) 0) e0 := by
    have z5 : (up A1 1 9 (nI e0)) 5 = A1 5 := by funext b; exact up_k (by decide)
    exact ⟨by rw [z5]; exact k57, by rw [b2.2 27 (by omega)]; exact q27, by rw [z5]; exact a3, b3, up_s, TV_x z5 (tk_tv a4 b4)⟩
  have hx1 : BX (up A1 1 9 (nI e0)) B n := BX_up' (FA_bx (FA_tr fa a2) (BX_up (x := -1) hx (show 7 ≠ 0 by decide))) (by decide)
  have hm6 := FPm_bm p6 hm5
  have w0 : m_X5_isWord 99 97 114 114 105 101 115 0 R6 = _ := v_wd hb hm6 (w := 6) (by omega) (Or.inl ⟨_, _, g⟩)
  obtain ⟨r, A', v, R', x1, x2, x3, x4, x5, x6⟩ := parts_ok hb hx1 hm6 g (by rw [b2.2 26 (by omega)]; exact q26) he (by rw [up_k (by decide)]; exact k3) (by rw [up_j (by decide)]; exact k10) hT hp
  refine ⟨r, A', v, R', ?_, ?_, FPe_tr c1 (FPe_tr (FPe_1 (Or.inr rfl)) x3), ⟨fun k hk => ?_, fun j hj => ?_⟩, x5, ?_⟩
  · unfold m_X1_read
    rw [lt1_d, lt1_d, a1, bd_s, ebeg, bd_s, lt1_d, x1]
  · unfold m_X5_read
    rw [lt1_d, e20, inr_n ht (by omega), gd_t, lt1_d, nI_clamp (by omega), up_k (by decide), hn, lt1_d, lt1_d, lt1_d, hR5, b1, bd_s, w0, bd_s]
    exact x2
  · rw [x4.1 k hk, p6.1 k hk, qk k hk]
  · rw [x4.2 j (by omega), p6.2 j (by omega), qj j hj]
  · have en : nmE R6 = nmE R := by
      unfold nmE
      rw [p6.2 14 (by omega), p6.2 15 (by omega), p6.2 16 (by omega), p6.2 17 (by omega), p6.2 18 (by omega), p6.2 19 (by omega), qj 14 (by omega), qj 15 (by omega), qj 16 (by omega), qj 17 (by omega), qj 18 (by omega), qj 19 (by omega)]
    unfold RES at x6 ⊢
    rw [en] at x6
    exact x6

