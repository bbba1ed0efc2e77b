/-! a part not negated, compared; a part alone -/
theorem OKF_le {B : Nat → Int32} {n h h' o : Nat} {kx : Int32 → Mm → Option (Unit × Mm)} {km : Mm → Option (Int32 × Mm)} (g : OKF B n h o kx km) (q : h ≤ h') : OKF B n h' o kx km := by
  intro A R s e hx hm gd h26 he
  obtain ⟨v, A', R', k1, k2, k3, k4, k5, k6⟩ := g A R s e hx hm gd h26 he
  refine ⟨v, A', R', k1, k2, k3, k4, k5, ?_⟩
  rcases k6 with ⟨s2, c2, q1, q2, q3, q4, q5⟩ | bad
  · exact Or.inl ⟨s2, c2, q1, q2, q3, q4, RUN_le q5 q⟩
  · exact Or.inr bad
theorem FPm_sy {R R' : Mm} (h : FPm R R') : FPm R' R := ⟨fun k hk => (h.1 k hk).symm, fun j hj => (h.2 j hj).symm⟩
/-- one code behind a row of codes -/
theorem ad_go {A A2 R R2 : Mm} {B : Nat → Int32} {n s s2 e h o : Nat} {c : List Int32} {u y : Int32} (g : GD B n A2 R2 s2 (e + c.length)) (hs : s < s2) (f : FPx e A A2) (p : FPm R R2) (h26 : R2 0 26 = nI o) (hl : c.length + 1 ≤ s2 - s) (cd : CDA A2 e c) (he : e + c.length < 960) (rn : RUN R h (c ++ [u]) y) : ∃ A3, m_X2_add u A2 = some ((), A3) ∧ OKR B n h A R s e o (some ((), A3)) (some (y, R2)) := by
  have fad : FPx (e + c.length) A2 (up (up A2 2 (e + c.length) u) 1 9 (nI (e + c.length + 1))) := FPx_ad (Nat.le_refl _)
  refine ⟨_, ad_ok g.2.2.2.2.1 he, y, _, R2, rfl, rfl, FPx_tr f (FPx_le (by omega) fad), p, h26, Or.inl ⟨s2, c ++ [u], hs, ?_, ?_, CDA_app (CDA_fp cd fad (Nat.le_refl _)) CDA_1, rn⟩⟩
  · rw [List.length_append]
    exact GD_ad g
  · rw [List.length_append]
    exact hl
theorem not_ok {a1 : Int32 → Mm → Option (Unit × Mm)} {a2 : Int32 → Mm → Option (Unit × Mm)} {a3 : Int32 → Mm → Option (Unit × Mm)} {a4 : Int32 → Mm → Option (Unit × Mm)} {a5 : Int32 → Mm → Option (Unit × Mm)} {a6 : Int32 → Mm → Option (Unit × Mm)} {b1 : Mm → Option (Int32 × Mm)} {b2 : Mm → Option (Int32 × Mm)} {b3 : Mm → Option (Int32 × Mm)} {b4 : Mm → Option (Int32 × Mm)} {b5 : Mm → Option (Int32 × Mm)} {b6 : Mm → Option (Int32 × Mm)} {B : Nat → Int32} {n h o : Nat} (hb : BB B n) (h1 : 1 ≤ h) (ho : o ≤ 5) (hn : o < 5 → OKF B n (h + 1) (o + 1) a3 b3) (hk : OKF B n h o a4 b4) : OKF B n (h + 1) o (mb_X1_readNot a1 a2 a3 a4 a5 a6) (mb_X5_not b1 b2 b3 b4 b5 b6) := by
  intro A R s e hx hm g h26 he
  have n160 := hb.1
  have st : STT B n A R := Or.inl ⟨s, e, g⟩
  have ew : m_X5_isWord 110 111 116 0 0 0 0 0 R = _ := v_wd hb hm (w := 11) (by omega) st
  rw [show nI (256 + 11) = (267 : Int32) by decide] at ew
  unfold mb_X1_readNot mb_X5_not
  by_cases t1 : A 5 3 = 267
  · rw [decide_eq_true t1] at ew
    rw [if_pos t1, ew, bd_s, b2i_t, if_neg one_ne0]
    have z0 : ¬ A 5 3 = 0 := by rw [t1]; decide
    have z2 : ¬ A 5 3 = 2 := by rw [t1]; decide
    rcases opn hb hx hm g h26 ho z0 z2 (by omega) with ⟨-, A1, R1, p1, p2, p3, p4, p5, p6⟩ | ⟨o5, sn, A1, R1, s1, p1, p2, p3, p3', p4, p5, p6, p7⟩
    · rw [p1, p2, bd_s, bd_s, if_pos rfl, if_pos rfl]
      exact ⟨0, A1, R1, rfl, rfl, p4, p5, p6, Or.inr p3⟩
    · rw [p1, p2, bd_s, bd_s, if_neg one_ne0, if_neg one_ne0, nI_1]
      obtain ⟨x, A2, R2, k1, k2, k3, k4, k5, k6⟩ := hn o5 A1 R1 s1 e (FPx_bx p5 hx) (FPm_bm p6 hm) p4 p7 (by omega)
      rw [k1, k2, bd_s, bd_s, lt1_d, lt1_d, k5, nI_pred]
      have f2 := FPx_tr p5 k3
      have p2' : FPm R (up R2 0 26 (nI o)) := FPm_tr p6 (FPm_tr k4 (FPm_up (by omega)))
      have ej : (if x = 0 then some ((1 : Int32), up R2 0 26 (nI o)) else some (0, up R2 0 26 (nI o))) = some (jnC (-21) 0 x, up R2 0 26 (nI o)) := by
        rw [jn21]
        by_cases e0 : x = 0
        · rw [if_pos e0, if_pos e0]
        · rw [if_neg e0, if_neg e0]
      rw [ej]
      rcases k6 with ⟨s2, c2, q1, q2, q3, q4, q5⟩ | bad
      · have s2n := gd_s q2
        obtain ⟨A3, d1, d2⟩ := ad_go (u := -21) (y := jnC (-21) 0 x) (GD_op (x := nI o) q2) (show s < s2 by omega) f2 p2' up_s (by omega) q4 (by omega) (RUN_un (by omega) (RUN_m p6 q5) (by decide) (by decide))
        rw [d1, bd_s]
        exact d2
      · obtain ⟨A3, d1, d2, d3⟩ := ad_bad (c := -21) bad
        rw [d1, bd_s]
        exact ⟨_, A3, _, rfl, rfl, FPx_tr f2 d3, p2', up_s, Or.inr (BAD_op d2)⟩
  · rw [decide_eq_false t1] at ew
    rw [if_neg t1, ew, bd_s, b2i_f, if_pos rfl]
    obtain ⟨v, A1, R1, k1, k2, k3, k4, k5, k6⟩ := hk A R s e hx hm g h26 he
    rw [k1, k2, bd_s, bd_s, lt1_d]
    have hm1 := FPm_bm k4 hm
    have hx1 := FPx_bx k3 hx
    rcases k6 with ⟨s1, c1, q1, q2, q3, q4, q5⟩ | bad
    · have st1 : STT B n A1 R1 := Or.inl ⟨s1, _, q2⟩
      have s1n := gd_s q2
      rw [v_sg (c := 60) (by decide) st1, bd_s]
      have cmp : ∀ (u : Int32) (y : Int32), (A1 5 3 = 60 ∧ u = -13 ∧ y = 1) ∨ (A1 5 3 = 61 ∧ u = -14 ∧ y = 0) → OKR B n (h + 1) A R s e o (m_X1_readNot_J74 a1 a2 a3 a4 a5 a6 (nI o) u A1) (m_X5_not_J93 b1 b2 b3 b4 b5 b6 v y R1) := by
        intro u y huy
        have z0 : ¬ A1 5 3 = 0 := by rcases huy with ⟨z, -⟩ | ⟨z, -⟩ <;> rw [z] <;> decide
        have z2 : ¬ A1 5 3 = 2 := by rcases huy with ⟨z, -⟩ | ⟨z, -⟩ <;> rw [z] <;> decide
        have u1 : u ≤ -11 ∧ ¬ u ≤ -21 := by rcases huy with ⟨-, z, -⟩ | ⟨-, z, -⟩ <;> rw [z] <;> decide
        obtain ⟨sn, A2, R2, s2, a1', a2', a3', a4', a5', a6', a7', a8'⟩ := nxt hb hx1 hm1 q2 z0 z2
        obtain ⟨x, A3, R3, l1, l2, l3, l4, l5, l6⟩ := hk A2 R2 s2 _ (FPx_bx a5' hx1) (FPm_bm a6' hm1) a8' (a7'.trans k5) (by omega)
        unfold m_X1_readNot_J74 m_X5_not_J93
        rw [lt1_d, lt1_d, a1', a2', bd_s, bd_s, l1, l2, bd_s, bd_s, lt1_d]
        have ej : (if y = 0 then (if v = x then m_X5_not_J120 b1 b2 b3 b4 b5 b6 R3 else some ((0 : Int32), R3)) else if x ≤ v then some ((0 : Int32), R3) else m_X5_not_J120 b1 b2 b3 b4 b5 b6 R3) = some (jnC u v x, R3) := by
          unfold m_X5_not_J120
          rcases huy with ⟨-, z1, z2⟩ | ⟨-, z1, z2⟩
          · rw [z1, z2, if_neg one_ne0, jn13]
            by_cases e0 : x ≤ v
            · rw [if_pos e0, if_pos e0]
            · rw [if_neg e0, if_neg e0]
          · rw [z1, z2, if_pos rfl, jn14]
            by_cases e0 : v = x
            · rw [if_pos e0, if_pos e0]
            · rw [if_neg e0, if_neg e0]
        rw [ej]
        have f3 : FPx (e + c1.length) A1 A3 := FPx_tr a5' l3
        have f4 : FPx e A A3 := FPx_tr k3 (FPx_le (by omega) f3)
        have p4 : FPm R R3 := FPm_tr k4 (FPm_tr a6' l4)
        rcases l6 with ⟨s3, c3, r1, r2, r3, r4, r5⟩ | bad
        · have s3n := gd_s r2
          have el : (c1 ++ c3).length = c1.length + c3.length := List.length_append
          have rn := RUN_op (c := u) (v := v) (x := x) h1 (RUN_le q5 (by omega)) (RUN_m (FPm_tr k4 a6') r5) u1.1 u1.2
          rw [← List.append_assoc] at rn
          obtain ⟨A4, d1, d2⟩ := ad_go (u := u) (y := jnC u v x) (c := c1 ++ c3) (e := e) (by rw [el, ← Nat.add_assoc]; exact r2) (show s < s3 by omega) f4 p4 l5 (by rw [el]; omega) (CDA_app (CDA_fp q4 f3 (Nat.le_refl _)) r4) (by rw [el]; omega) rn
          rw [d1, bd_s]
          exact d2
        · obtain ⟨A4, d1, d2, d3⟩ := ad_bad (c := u) bad
          rw [d1, bd_s]
          exact ⟨_, A4, _, rfl, rfl, FPx_tr f4 (FPx_le (by omega) d3), p4, l5, Or.inr (BAD_le (by omega) d2)⟩
      by_cases t2 : A1 5 3 = 60
      · have val := sg_val q2 (by rw [t2]; decide)
        rw [if_pos t2, m_X1_readNot_J58, if_pos t2, decide_eq_true t2, b2i_t, if_neg one_ne0, m_X5_not_J77, val, t2, if_pos (cmp_0.mpr (by decide))]
        exact cmp (-13) 1 (Or.inl ⟨t2, rfl, rfl⟩)
      rw [decide_eq_false t2, b2i_f, if_pos rfl, if_neg t2, v_sg (c := 61) (by decide) st1, bd_s]
      by_cases t3 : A1 5 3 = 61
      · have val := sg_val q2 (by rw [t3]; decide)
        have q : ¬ lg_cmp ((61 : Int32).toInt64) (60 : Int64) = 0 := fun z => absurd (cmp_0.mp z) (by decide)
        rw [if_pos t3, m_X1_readNot_J58, if_neg t2, decide_eq_true t3, b2i_t, if_neg one_ne0, m_X5_not_J77, val, t3, if_neg q]
        exact cmp (-14) 0 (Or.inr ⟨t3, rfl, rfl⟩)
      rw [decide_eq_false t3, b2i_f, if_pos rfl, if_neg t3]
      exact ⟨v, A1, R1, rfl, rfl, k3, k4, k5, Or.inl ⟨s1, c1, q1, q2, q3, q4, RUN_le q5 (by omega)⟩⟩
    · have st1 : STT B n A1 R1 := BAD_st bad
      have z60 : ¬ A1 5 3 = 60 := by rw [bad.1.1]; decide
      have z61 : ¬ A1 5 3 = 61 := by rw [bad.1.1]; decide
      rw [if_neg z60, if_neg z61, v_sg (c := 60) (by decide) st1, bd_s, decide_eq_false z60, b2i_f, if_pos rfl, v_sg (c := 61) (by decide) st1, bd_s, decide_eq_false z61, b2i_f, if_pos rfl]
      exact ⟨v, A1, R1, rfl, rfl, k3, k4, k5, Or.inr bad⟩

/-! names -/
theorem nI_n11 {y : Nat} (hy : y < 2 ^ 31) : ¬ nI y ≤ -11 := by
  intro q
  rw [Int32.le_iff_toInt_le, nI_toInt hy] at q
  have h1 : ((-11 : Int32).toInt) = -11 := by decide
  omega
theorem wc_all : ∀ w, w < 6 → (¬ ((-1 : Int32) - (nI (256 + w) - 256) ≤ -11)) ∧ ((-1 : Int32) - (nI (256 + w) - 256) < 0) ∧ ¬ (nI (256 + w) = 1) ∧ ¬ (nI (256 + w) < 256) ∧ ¬ ((262 : Int32) ≤ nI (256 + w)) := by decide +kernel
theorem nw_all : ∀ w, w < 12 → 6 ≤ w → ¬ (nI (256 + w) = 1) ∧ ¬ (nI (256 + w) < 256) ∧ (262 : Int32) ≤ nI (256 + w) ∧ ¬ (nI (256 + w) = 45) ∧ ¬ (nI (256 + w) = 40) := by decide +kernel
theorem nmC_w : ∀ w, w < 6 → ∀ e : Nat → Int32, nmC e ((-1 : Int32) - (nI (256 + w) - 256)) = e w := by
  intro w hw e
  unfold nmC
  rcases (show w = 0 ∨ w = 1 ∨ w = 2 ∨ w = 3 ∨ w = 4 ∨ w = 5 by omega) with rfl | rfl | rfl | rfl | rfl | rfl
  · rw [if_pos (show (-1 : Int32) - ((-1 : Int32) - (nI (256 + 0) - 256)) = 0 by decide)]
  · rw [if_neg (show ¬ (-1 : Int32) - ((-1 : Int32) - (nI (256 + 1) - 256)) = 0 by decide), if_pos (show (-1 : Int32) - ((-1 : Int32) - (nI (256 + 1) - 256)) = 1 by decide)]
  · rw [if_neg (show ¬ (-1 : Int32) - ((-1 : Int32) - (nI (256 + 2) - 256)) = 0 by decide), if_neg (show ¬ (-1 : Int32) - ((-1 : Int32) - (nI (256 + 2) - 256)) = 1 by decide), if_pos (show (-1 : Int32) - ((-1 : Int32) - (nI (256 + 2) - 256)) = 2 by decide)]
  · rw [if_neg (show ¬ (-1 : Int32) - ((-1 : Int32) - (nI (256 + 3) - 256)) = 0 by decide), if_neg (show ¬ (-1 : Int32) - ((-1 : Int32) - (nI (256 + 3) - 256)) = 1 by decide), if_neg (show ¬ (-1 : Int32) - ((-1 : Int32) - (nI (256 + 3) - 256)) = 2 by decide), if_pos (show (-1 : Int32) - ((-1 : Int32) - (nI (256 + 3) - 256)) = 3 by decide)]
  · rw [if_neg (show ¬ (-1 : Int32) - ((-1 : Int32) - (nI (256 + 4) - 256)) = 0 by decide), if_neg (show ¬ (-1 : Int32) - ((-1 : Int32) - (nI (256 + 4) - 256)) = 1 by decide), if_neg (show ¬ (-1 : Int32) - ((-1 : Int32) - (nI (256 + 4) - 256)) = 2 by decide), if_neg (show ¬ (-1 : Int32) - ((-1 : Int32) - (nI (256 + 4) - 256)) = 3 by decide), if_pos (show (-1 : Int32) - ((-1 : Int32) - (nI (256 + 4) - 256)) = 4 by decide)]
  · rw [if_neg (show ¬ (-1 : Int32) - ((-1 : Int32) - (nI (256 + 5) - 256)) = 0 by decide), if_neg (show ¬ (-1 : Int32) - ((-1 : Int32) - (nI (256 + 5) - 256)) = 1 by decide), if_neg (show ¬ (-1 : Int32) - ((-1 : Int32) - (nI (256 + 5) - 256)) = 2 by decide), if_neg (show ¬ (-1 : Int32) - ((-1 : Int32) - (nI (256 + 5) - 256)) = 3 by decide), if_neg (show ¬ (-1 : Int32) - ((-1 : Int32) - (nI (256 + 5) - 256)) = 4 by decide)]
/-- what a name says: t is the token at hand -/
theorem x5_name {R : Mm} {t : Int32} (h : ∀ w, w < 6 → WD w R = some (b2i (decide (t = nI (256 + w))), R)) : m_X5_name R = (if t = nI 256 then some (R 0 14, R) else if t = nI 257 then some (R 0 15, R) else if t = nI 258 then some (R 0 16, R) else if t = nI 259 then some (R 0 17, R) else if t = nI 260 then some (R 0 18, R) else if t = nI 261 then some (R 0 19, R) else bd (m_X5_fail R) fun _ M13 => some ((0 : Int32), M13)) := by
  unfold m_X5_name
  have w0 : m_X5_isWord 116 111 110 101 0 0 0 0 R = some (b2i (decide (t = nI (256 + 0))), R) := h 0 (by omega)
  rw [w0, bd_s]
  by_cases e0 : t = nI 256
  case pos => rw [decide_eq_true e0, b2i_t, if_neg one_ne0, if_pos e0]
  rw [decide_eq_false e0, b2i_f, if_pos rfl, if_neg e0]
  have w1 : m_X5_isWord 104 111 117 115 101 0 0 0 R = some (b2i (decide (t = nI (256 + 1))), R) := h 1 (by omega)
  rw [w1, bd_s]
  by_cases e1 : t = nI 257
  case pos => rw [decide_eq_true e1, b2i_t, if_neg one_ne0, if_pos e1]
  rw [decide_eq_false e1, b2i_f, if_pos rfl, if_neg e1]
  have w2 : m_X5_isWord 110 117 109 98 101 114 0 0 R = some (b2i (decide (t = nI (256 + 2))), R) := h 2 (by omega)
  rw [w2, bd_s]
  by_cases e2 : t = nI 258
  case pos => rw [decide_eq_true e2, b2i_t, if_neg one_ne0, if_pos e2]
  rw [decide_eq_false e2, b2i_f, if_pos rfl, if_neg e2]
  have w3 : m_X5_isWord 100 97 121 0 0 0 0 0 R = some (b2i (decide (t = nI (256 + 3))), R) := h 3 (by omega)
  rw [w3, bd_s]
  by_cases e3 : t = nI 259
  case pos => rw [decide_eq_true e3, b2i_t, if_neg one_ne0, if_pos e3]
  rw [decide_eq_false e3, b2i_f, if_pos rfl, if_neg e3]
  have w4 : m_X5_isWord 114 101 97 100 0 0 0 0 R = some (b2i (decide (t = nI (256 + 4))), R) := h 4 (by omega)
  rw [w4, bd_s]
  by_cases e4 : t = nI 260
  case pos => rw [decide_eq_true e4, b2i_t, if_neg one_ne0, if_pos e4]
  rw [decide_eq_false e4, b2i_f, if_pos rfl, if_neg e4]
  have w5 : m_X5_isWord 109 105 110 101 0 0 0 0 R = some (b2i (decide (t = nI (256 + 5))), R) := h 5 (by omega)
  rw [w5, bd_s]
  by_cases e5 : t = nI 261
  case pos => rw [decide_eq_true e5, b2i_t, if_neg one_ne0, if_pos e5]
  rw [decide_eq_false e5, b2i_f, if_pos rfl, if_neg e5]
theorem x5_name_w {R : Mm} {w : Nat} (hw : w < 6) (h : ∀ v, v < 6 → WD v R = some (b2i (decide (nI (256 + w) = nI (256 + v))), R)) : m_X5_name R = some (nmE R w, R) := by
  rw [x5_name h]
  rcases (show w = 0 ∨ w = 1 ∨ w = 2 ∨ w = 3 ∨ w = 4 ∨ w = 5 by omega) with rfl | rfl | rfl | rfl | rfl | rfl
  · rw [if_pos (show nI (256 + 0) = nI 256 from rfl)]; rfl
  · rw [if_neg (show ¬ nI (256 + 1) = nI 256 by decide), if_pos (show nI (256 + 1) = nI 257 from rfl)]; rfl
  · rw [if_neg (show ¬ nI (256 + 2) = nI 256 by decide), if_neg (show ¬ nI (256 + 2) = nI 257 by decide), if_pos (show nI (256 + 2) = nI 258 from rfl)]; rfl
  · rw [if_neg (show ¬ nI (256 + 3) = nI 256 by decide), if_neg (show ¬ nI (256 + 3) = nI 257 by decide), if_neg (show ¬ nI (256 + 3) = nI 258 by decide), if_pos (show nI (256 + 3) = nI 259 from rfl)]; rfl
  · rw [if_neg (show ¬ nI (256 + 4) = nI 256 by decide), if_neg (show ¬ nI (256 + 4) = nI 257 by decide), if_neg (show ¬ nI (256 + 4) = nI 258 by decide), if_neg (show ¬ nI (256 + 4) = nI 259 by decide), if_pos (show nI (256 + 4) = nI 260 from rfl)]; rfl
  · rw [if_neg (show ¬ nI (256 + 5) = nI 256 by decide), if_neg (show ¬ nI (256 + 5) = nI 257 by decide), if_neg (show ¬ nI (256 + 5) = nI 258 by decide), if_neg (show ¬ nI (256 + 5) = nI 259 by decide), if_neg (show ¬ nI (256 + 5) = nI 260 by decide), if_pos (show nI (256 + 5) = nI 261 from rfl)]; rfl
theorem x5_name_n {R : Mm} {t : Int32} (h : ∀ w, w < 6 → WD w R = some (b2i (decide (t = nI (256 + w))), R)) (hn : ∀ w, w < 6 → ¬ t = nI (256 + w)) : m_X5_name R = bd (m_X5_fail R) fun _ M13 => some ((0 : Int32), M13) := by
  rw [x5_name h, if_neg (hn 0 (by omega)), if_neg (hn 1 (by omega)), if_neg (hn 2 (by omega)), if_neg (hn 3 (by omega)), if_neg (hn 4 (by omega)), if_neg (hn 5 (by omega))]
theorem cref {a1 : Int32 → Mm → Option (Unit × Mm)} {a2 : Int32 → Mm → Option (Unit × Mm)} {a3 : Int32 → Mm → Option (Unit × Mm)} {a4 : Int32 → Mm → Option (Unit × Mm)} {a5 : Int32 → Mm → Option (Unit × Mm)} {a6 : Int32 → Mm → Option (Unit × Mm)} {x : Int32} {A : Mm} (t1 : ¬ A 5 3 = 1) (t2 : A 5 3 < 256 ∨ (¬ A 5 3 < 256 ∧ 262 ≤ A 5 3)) (t3 : ¬ A 5 3 = 45) (t4 : ¬ A 5 3 = 40) : mb_X1_readOne a1 a2 a3 a4 a5 a6 x A = bd (m_X1_refuse A) fun _ M1 => some ((), M1) := by
  unfold mb_X1_readOne m_X1_readOne_J70
  rw [if_neg t1]
  rcases t2 with t2 | ⟨t2, t5⟩
  · rw [if_pos t2, if_neg t3, if_neg t4]
  · rw [if_neg t2, if_pos t5, if_neg t3, if_neg t4]
theorem one_ok {a1 : Int32 → Mm → Option (Unit × Mm)} {a2 : Int32 → Mm → Option (Unit × Mm)} {a3 : Int32 → Mm → Option (Unit × Mm)} {a4 : Int32 → Mm → Option (Unit × Mm)} {a5 : Int32 → Mm → Option (Unit × Mm)} {a6 : Int32 → Mm → Option (Unit × Mm)} {b1 : Mm → Option (Int32 × Mm)} {b2 : Mm → Option (Int32 × Mm)} {b3 : Mm → Option (Int32 × Mm)} {b4 : Mm → Option (Int32 × Mm)} {b5 : Mm → Option (Int32 × Mm)} {b6 : Mm → Option (Int32 × Mm)} {B : Nat → Int32} {n h o : Nat} (hb : BB B n) (h1 : 1 ≤ h) (ho : o ≤ 5) (hr : o < 5 → OKF B n h (o + 1) a1 b1) (hk : o < 5 → OKF B n h (o + 1) a6 b6) : OKF B n h o (mb_X1_readOne a1 a2 a3 a4 a5 a6) (mb_X5_atom b1 b2 b3 b4 b5 b6) := by
  intro A R s e hx hm g h26 he
  have n160 := hb.1
  have sle := gd_s g
  have st : STT B n A R := Or.inl ⟨s, e, g⟩
  have wds : ∀ w, w < 6 → WD w R = some (b2i (decide (A 5 3 = nI (256 + w))), R) := fun w hw => v_wd hb hm (by omega) st
  have v45 := v_sg (c := 45) (by decide) st
  have v40 := v_sg (c := 40) (by decide) st
  -- refused by both
  have rfs : ¬ A 5 3 = 1 → (A 5 3 < 256 ∨ (¬ A 5 3 < 256 ∧ 262 ≤ A 5 3)) → ¬ A 5 3 = 45 → ¬ A 5 3 = 40 → ¬ R 0 23 = 2 → (∀ w, w < 6 → ¬ A 5 3 = nI (256 + w)) → OKR B n h A R s e o (mb_X1_readOne a1 a2 a3 a4 a5 a6 (nI o) A) (mb_X5_atom b1 b2 b3 b4 b5 b6 R) := by
    intro t1 t2 t3 t4 t5 t6
    obtain ⟨A1, R1, p1, p2, p3, p4, p5, p6⟩ := rf_ok hb g (by omega)
    have g27 := g.2.1
    have b27 : ¬ R1 0 27 = 0 := by rw [p3.2.1]; decide
    rw [cref t1 t2 t3 t4, p1, bd_s]
    have em : mb_X5_atom b1 b2 b3 b4 b5 b6 R = some (0, R1) := by
      unfold mb_X5_atom m_X5_atom_J123 m_X5_atom_J157
      rw [lt1_d, v45, bd_s, decide_eq_false t3, b2i_f, if_pos rfl, v40, bd_s, decide_eq_false t4, b2i_f, if_pos rfl, if_pos g27, if_neg t5, if_pos g27]
      by_cases hw : R 0 23 = 1
      · rw [if_pos hw, x5_name_n wds t6, p2, bd_s, bd_s, lt1_d, if_neg b27]
      · rw [if_neg hw, p2, bd_s]
    rw [em]
    exact ⟨0, A1, R1, rfl, rfl, p4, p5, p6.trans h26, Or.inr p3⟩
  rcases g.2.2.2.2.2 with ⟨t1, t2, t3⟩ | ⟨t1, x, x1, x2, x3, x4, ⟨wi, w1, w2, w3, w4, w5⟩ | ⟨n1, n2, n3, y, n4, n5⟩ | ⟨k1, k2, k3, k4⟩⟩ | ⟨t1, t2, t3⟩
  · exact rfs (by rw [t2]; decide) (Or.inl (by rw [t2]; decide)) (by rw [t2]; decide) (by rw [t2]; decide) (by rw [t3]; decide) (fun w hw => by rw [t2]; exact fun q => (wt_ne w (by omega)).1 q.symm)
  · by_cases hw6 : wi < 6
    · obtain ⟨c1, c2, c3, c4, c5⟩ := wc_all wi hw6
      have z0 : ¬ A 5 3 = 0 := by rw [w2]; exact (wt_ne wi w1).1
      have z2 : ¬ A 5 3 = 2 := by rw [w2]; exact (wt_ne wi w1).2.2
      have z45 : ¬ A 5 3 = 45 := by rw [w2]; exact (sg_ne (c := 45) (by decide)).2.2.2 wi w1
      have z40 : ¬ A 5 3 = 40 := by rw [w2]; exact (sg_ne (c := 40) (by decide)).2.2.2 wi w1
      have g27 := g.2.1
      have ax := ad_ok (c := (-1 : Int32) - (nI (256 + wi) - 256)) g.2.2.2.2.1 (show e < 960 by omega)
      have fad : FPx e A (up (up A 2 e ((-1 : Int32) - (nI (256 + wi) - 256))) 1 9 (nI (e + 1))) := FPx_ad (Nat.le_refl _)
      have z5 : (up (up A 2 e ((-1 : Int32) - (nI (256 + wi) - 256))) 1 9 (nI (e + 1))) 5 = A 5 := by funext q; rw [up_k (by decide), up_k (by decide)]
      obtain ⟨sn, A2, R2, s2, p1, p2, p3, p4, p5, p6, p7, p8⟩ := nxt hb (FPx_bx fad hx) hm (GD_ad (e2 := e) (e3 := e + 1) (c := (-1 : Int32) - (nI (256 + wi) - 256)) g) (by rw [z5]; exact z0) (by rw [z5]; exact z2)
      have ec : mb_X1_readOne a1 a2 a3 a4 a5 a6 (nI o) A = some ((), A2) := by
        unfold mb_X1_readOne
        rw [w2, if_neg c3, if_neg c4, if_neg c5, ax, bd_s, p1, bd_s]
      have em : mb_X5_atom b1 b2 b3 b4 b5 b6 R = some (nmE R wi, R2) := by
        unfold mb_X5_atom m_X5_atom_J123
        rw [lt1_d, v45, bd_s, decide_eq_false z45, b2i_f, if_pos rfl, v40, bd_s, decide_eq_false z40, b2i_f, if_pos rfl, if_pos g27, if_neg (by rw [w3]; decide), if_pos g27, if_pos w3, x5_name_w hw6 (by rw [← w2]; exact wds), bd_s, lt1_d, if_pos g27, p2, bd_s]
      rw [ec, em]
      refine ⟨_, A2, R2, rfl, rfl, FPx_tr fad (FPx_le (by omega) p5), p6, p7.trans h26, Or.inl ⟨s2, [(-1 : Int32) - (nI (256 + wi) - 256)], p3, p8, by show 1 ≤ s2 - s; omega, CDA_fp CDA_1 p5 (Nat.le_refl _), ?_⟩⟩
      have := RUN_n (R := R) c1
      rw [if_pos c2, nmC_w wi hw6] at this
      exact RUN_le this h1
    · obtain ⟨c3, c4, c5, c6, c7⟩ := nw_all wi w1 (by omega)
      exact rfs (by rw [w2]; exact c3) (Or.inr (by rw [w2]; exact ⟨c4, c5⟩)) (by rw [w2]; exact c6) (by rw [w2]; exact c7) (by rw [w3]; decide) (fun w hw q => by rw [w2] at q; have := (nI_eq (a := 256 + wi) (b := 256 + w) (by omega) (by omega)).mp q; omega)
  · have z0 : ¬ A 5 3 = 0 := by rw [n1]; decide
    have z2 : ¬ A 5 3 = 2 := by rw [n1]; decide
    have z45 : ¬ A 5 3 = 45 := by rw [n1]; decide
    have z40 : ¬ A 5 3 = 40 := by rw [n1]; decide
    have g27 := g.2.1
    have ax := ad_ok (c := nI y) g.2.2.2.2.1 (show e < 960 by omega)
    have fad : FPx e A (up (up A 2 e (nI y)) 1 9 (nI (e + 1))) := FPx_ad (Nat.le_refl _)
    have z5 : (up (up A 2 e (nI y)) 1 9 (nI (e + 1))) 5 = A 5 := by funext q; rw [up_k (by decide), up_k (by decide)]
    obtain ⟨sn, A2, R2, s2, p1, p2, p3, p4, p5, p6, p7, p8⟩ := nxt hb (FPx_bx fad hx) hm (GD_ad (e2 := e) (e3 := e + 1) (c := nI y) g) (by rw [z5]; exact z0) (by rw [z5]; exact z2)
    have ec : mb_X1_readOne a1 a2 a3 a4 a5 a6 (nI o) A = some ((), A2) := by
      unfold mb_X1_readOne
      rw [if_pos n1, n3, n5, ax, bd_s, p1, bd_s]
    have em : mb_X5_atom b1 b2 b3 b4 b5 b6 R = some (nI y, R2) := by
      unfold mb_X5_atom
      rw [lt1_d, v45, bd_s, decide_eq_false z45, b2i_f, if_pos rfl, v40, bd_s, decide_eq_false z40, b2i_f, if_pos rfl, if_pos g27, if_pos n2, lt1_d, n5, nI_l (by omega), lN_i, p2, bd_s]
    rw [ec, em]
    have ny : ¬ nI y < 0 := nI_pos (by omega)
    have nc : ¬ nI y ≤ -11 := nI_n11 (by omega)
    refine ⟨_, A2, R2, rfl, rfl, FPx_tr fad (FPx_le (by omega) p5), p6, p7.trans h26, Or.inl ⟨s2, [nI y], p3, p8, by show 1 ≤ s2 - s; omega, CDA_fp CDA_1 p5 (Nat.le_refl _), ?_⟩⟩
    have := RUN_n (R := R) nc
    rw [if_neg ny] at this
    exact RUN_le this h1
  · have z0 : ¬ A 5 3 = 0 := by rw [k2]; exact (sg_ne k1).1
    have z1 : ¬ A 5 3 = 1 := by rw [k2]; exact (sg_ne k1).2.1
    have z2 : ¬ A 5 3 = 2 := by rw [k2]; exact (sg_ne k1).2.2.1
    have z256 : A 5 3 < 256 := by
      rw [k2]
      rcases sg_of k1 with q | q | q | q | q | q | q | q <;> rw [q] <;> decide
    by_cases t45 : A 5 3 = 45
    · unfold mb_X1_readOne m_X1_readOne_J70 mb_X5_atom
      rw [if_neg z1, if_pos z256, if_pos t45, lt1_d, v45, bd_s, decide_eq_true t45, b2i_t, if_neg one_ne0]
      rcases opn hb hx hm g h26 ho z0 z2 (by omega) with ⟨-, A1, R1, p1, p2, p3, p4, p5, p6⟩ | ⟨o5, sn, A1, R1, s1, p1, p2, p3, p3', p4, p5, p6, p7⟩
      · rw [p1, p2, bd_s, bd_s, if_pos rfl, if_pos rfl]
        exact ⟨0, A1, R1, rfl, rfl, p4, p5, p6, Or.inr p3⟩
      · rw [p1, p2, bd_s, bd_s, if_neg one_ne0, if_neg one_ne0, nI_1]
        obtain ⟨x', A2, R2, q1, q2, q3, q4, q5, q6⟩ := hk o5 A1 R1 s1 e (FPx_bx p5 hx) (FPm_bm p6 hm) p4 p7 (by omega)
        rw [q1, q2, bd_s, bd_s, lt1_d, lt1_d, q5, nI_pred]
        have f2 := FPx_tr p5 q3
        have p2' : FPm R (up R2 0 26 (nI o)) := FPm_tr p6 (FPm_tr q4 (FPm_up (by omega)))
        rcases q6 with ⟨s2, c2, r1, r2, r3, r4, r5⟩ | bad
        · have s2n := gd_s r2
          have rn := RUN_un (R := R) (c := -22) h1 (RUN_m p6 r5) (by decide) (by decide)
          rw [jn22] at rn
          obtain ⟨A3, d1, d2⟩ := ad_go (u := -22) (y := -x') (GD_op (x := nI o) r2) (show s < s2 by omega) f2 p2' up_s (by omega) r4 (by omega) rn
          rw [d1, bd_s]
          exact d2
        · obtain ⟨A3, d1, d2, d3⟩ := ad_bad (c := -22) bad
          rw [d1, bd_s]
          exact ⟨_, A3, _, rfl, rfl, FPx_tr f2 d3, p2', up_s, Or.inr (BAD_op d2)⟩
    by_cases t40 : A 5 3 = 40
    · unfold mb_X1_readOne m_X1_readOne_J70 mb_X5_atom
      rw [if_neg z1, if_pos z256, if_neg t45, if_pos t40, lt1_d, v45, bd_s, decide_eq_false t45, b2i_f, if_pos rfl, v40, bd_s, decide_eq_true t40, b2i_t, if_neg one_ne0]
      rcases opn hb hx hm g h26 ho z0 z2 (by omega) with ⟨-, A1, R1, p1, p2, p3, p4, p5, p6⟩ | ⟨o5, sn, A1, R1, s1, p1, p2, p3, p3', p4, p5, p6, p7⟩
      · rw [p1, p2, bd_s, bd_s, if_pos rfl, if_pos rfl]
        exact ⟨0, A1, R1, rfl, rfl, p4, p5, p6, Or.inr p3⟩
      · rw [p1, p2, bd_s, bd_s, if_neg one_ne0, if_neg one_ne0, nI_1]
        obtain ⟨x', A2, R2, q1, q2, q3, q4, q5, q6⟩ := hr o5 A1 R1 s1 e (FPx_bx p5 hx) (FPm_bm p6 hm) p4 p7 (by omega)
        have f2 := FPx_tr p5 q3
        have p2' : FPm R R2 := FPm_tr p6 q4
        have hx2 := FPx_bx f2 hx
        have hm2 := FPm_bm p2' hm
        rw [q1, q2, bd_s, bd_s, lt1_d]
        unfold m_X1_expect m_X5_atom_J71
        rcases q6 with ⟨s2, c2, r1, r2, r3, r4, r5⟩ | bad
        · have s2n := gd_s r2
          have st2 : STT B n A2 R2 := Or.inl ⟨s2, _, r2⟩
          rw [v_sg (c := 41) (by decide) st2, bd_s]
          by_cases t41 : A2 5 3 = 41
          · have y0 : ¬ A2 5 3 = 0 := by rw [t41]; decide
            have y2 : ¬ A2 5 3 = 2 := by rw [t41]; decide
            have g27 : up R2 0 26 (nI o) 0 27 = 0 := by rw [up_j (by decide)]; exact r2.2.1
            obtain ⟨sn3, A3, R3, s3, l1, l2, l3, l4, l5, l6, l7, l8⟩ := nxt hb hx2 (BM_up hm2 (show 21 < 26 by omega)) (GD_op (x := nI o) r2) y0 y2
            rw [if_pos t41, if_neg y0, decide_eq_true t41, b2i_t, if_neg one_ne0, lt1_d, q5, nI_pred, if_pos g27, l1, l2, bd_s, bd_s, bd_s]
            exact ⟨x', A3, R3, rfl, rfl, FPx_tr f2 (FPx_le (by omega) l5), FPm_tr p2' (FPm_tr (FPm_up (by omega)) l6), l7.trans up_s, Or.inl ⟨s3, c2, by omega, l8, by omega, CDA_fp r4 l5 (Nat.le_refl _), RUN_m p6 r5⟩⟩
          · obtain ⟨A3, R3, l1, l2, l3, l4, l5, l6⟩ := rf_ok hb r2 (by omega)
            have b27 : ¬ up R3 0 26 (nI o) 0 27 = 0 := by rw [up_j (by decide), l3.2.1]; decide
            rw [if_neg t41, decide_eq_false t41, b2i_f, if_pos rfl, l1, l2, bd_s, bd_s, bd_s, lt1_d, l6, q5, nI_pred, if_neg b27]
            exact ⟨x', A3, _, rfl, rfl, FPx_tr f2 (FPx_le (by omega) l4), FPm_tr p2' (FPm_tr l5 (FPm_up (by omega))), up_s, Or.inr (BAD_op (BAD_le (by omega) l3))⟩
        · have st2 : STT B n A2 R2 := BAD_st bad
          have t41 : ¬ A2 5 3 = 41 := by rw [bad.1.1]; decide
          have b27 : ¬ up R2 0 26 (nI o) 0 27 = 0 := by rw [up_j (by decide), bad.2.1]; decide
          rw [v_sg (c := 41) (by decide) st2, bd_s, if_neg t41, decide_eq_false t41, b2i_f, if_pos rfl, rf_bad bad.1.1 (BDx_n bad.1), fl_bad bad.2.1, bd_s, bd_s, bd_s, lt1_d, q5, nI_pred, if_neg b27]
          exact ⟨x', A2, _, rfl, rfl, f2, FPm_tr p2' (FPm_up (by omega)), up_s, Or.inr (BAD_op bad)⟩
    · exact rfs z1 (Or.inl z256) t45 t40 (by rw [k3]; decide) (fun w hw q => by rw [k2] at q; exact (sg_ne k1).2.2.2 w (by omega) q.symm)
  · have r23 : ¬ R 0 23 = 2 := by rcases t3 with q | ⟨q, -⟩ <;> rw [q] <;> decide
    exact rfs (by rw [t2]; decide) (Or.inl (by rw [t2]; decide)) (by rw [t2]; decide) (by rw [t2]; decide) r23 (fun w hw => by rw [t2]; exact fun q => (wt_ne w (by omega)).2.2 q.symm)
/-- all of it, by depth -/
theorem all_ok {B : Nat → Int32} {n : Nat} (hb : BB B n) : ∀ d o : Nat, o ≤ 5 → (6 * (5 - o) + 1 ≤ d → OKF B n (5 * (5 - o) + 1) o (g_rgT d).2.2.2.2.2 (g_rgM d).2.2.2.2.2) ∧ (6 * (5 - o) + 2 ≤ d → OKF B n (5 * (5 - o) + 1 + 1) o (g_rgT d).2.2.2.2.1 (g_rgM d).2.2.2.2.1) ∧ (6 * (5 - o) + 3 ≤ d → OKF B n (5 * (5 - o) + 1 + 1 + 1) o (g_rgT d).2.2.2.1 (g_rgM d).2.2.2.1) ∧ (6 * (5 - o) + 4 ≤ d → OKF B n (5 * (5 - o) + 1 + 1 + 1 + 1) o (g_rgT d).2.2.1 (g_rgM d).2.2.1) ∧ (6 * (5 - o) + 5 ≤ d → OKF B n (5 * (5 - o) + 1 + 1 + 1 + 1 + 1) o (g_rgT d).2.1 (g_rgM d).2.1) ∧ (6 * (5 - o) + 6 ≤ d → OKF B n (5 * (5 - o) + 1 + 1 + 1 + 1 + 1 + 1) o (g_rgT d).1 (g_rgM d).1) := by
  intro d
  induction d with
  | zero => intro o ho; exact ⟨fun h => absurd h (by omega), fun h => absurd h (by omega), fun h => absurd h (by omega), fun h => absurd h (by omega), fun h => absurd h (by omega), fun h => absurd h (by omega)⟩
  | succ d ih =>
    intro o ho
    obtain ⟨i1, i2, i3, i4, i5, i6⟩ := ih o ho
    refine ⟨fun hd => ?_, fun hd => ?_, fun hd => ?_, fun hd => ?_, fun hd => ?_, fun hd => ?_⟩
    · refine one_ok hb (by omega) ho (fun o5 => ?_) (fun o5 => ?_)
      · have q := (ih (o + 1) (by omega)).2.2.2.2.2 (by omega)
        rw [show 5 * (5 - o) + 1 = 5 * (5 - (o + 1)) + 1 + 1 + 1 + 1 + 1 + 1 by omega]
        exact q
      · exact OKF_le ((ih (o + 1) (by omega)).1 (by omega)) (by omega)
    · exact ok_term hb (by omega) (i1 (by omega))
    · exact ok_sum hb (by omega) (i2 (by omega))
    · refine not_ok hb (by omega) ho (fun o5 => ?_) (i3 (by omega))
      exact OKF_le ((ih (o + 1) (by omega)).2.2.2.1 (by omega)) (by omega)
    · exact ok_and hb (by omega) (i4 (by omega))
    · exact ok_or hb (by omega) (i5 (by omega))

