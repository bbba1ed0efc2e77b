/-! what both see of the token at hand -/
theorem sg_of {c : Int32} (h : sgB c = true) : c = 40 ∨ c = 41 ∨ c = 59 ∨ c = 43 ∨ c = 45 ∨ c = 42 ∨ c = 60 ∨ c = 61 := by
  unfold sgB at h
  simpa only [Bool.or_eq_true, decide_eq_true_eq] using h
theorem sg_ne {c : Int32} (h : sgB c = true) : c ≠ 0 ∧ c ≠ 1 ∧ c ≠ 2 ∧ ∀ w, w < 12 → nI (256 + w) ≠ c := by
  rcases sg_of h with rfl | rfl | rfl | rfl | rfl | rfl | rfl | rfl <;> exact ⟨by decide, by decide, by decide, by decide +kernel⟩
theorem wt_ne : ∀ w, w < 12 → nI (256 + w) ≠ 0 ∧ nI (256 + w) ≠ 1 ∧ nI (256 + w) ≠ 2 := by decide +kernel
def STT (B : Nat → Int32) (n : Nat) (A R : Mm) : Prop := (∃ s e, GD B n A R s e) ∨ (A 5 3 = 2 ∧ R 0 27 = 1)
theorem tL_inj {x y : Int32} : x.toInt64 = y.toInt64 ↔ x = y := by
  refine ⟨fun h => ?_, fun h => by rw [h]⟩
  have := congrArg Int64.toInt h
  rw [toL, toL] at this
  exact Int32.toInt_inj.mp this
theorem v_sg {A R : Mm} {B : Nat → Int32} {n : Nat} {c : Int32} (hc : sgB c = true) (h : STT B n A R) : m_X5_isSign c R = some (b2i (decide (A 5 3 = c)), R) := by
  obtain ⟨z0, z1, z2, z3⟩ := sg_ne hc
  unfold m_X5_isSign
  rcases h with ⟨s, e, g1, g2, g3, g4, g5, tv⟩ | ⟨b1, b2⟩
  · rw [if_pos g2]
    rcases tv with ⟨t1, t2, t3⟩ | ⟨t1, x, x1, x2, x3, x4, ⟨w, w1, w2, w3, -⟩ | ⟨n1, n2, -⟩ | ⟨k1, k2, k3, k4⟩⟩ | ⟨t1, t2, t3⟩
    · rw [if_neg (by rw [t3]; decide), decide_eq_false (by rw [t2]; exact fun q => z0 q.symm)]; rfl
    · rw [if_neg (by rw [w3]; decide), decide_eq_false (by rw [w2]; exact z3 w w1)]; rfl
    · rw [if_neg (by rw [n2]; decide), decide_eq_false (by rw [n1]; exact fun q => z1 q.symm)]; rfl
    · rw [if_pos k3, k4, k2]
      by_cases e : B s = c
      · rw [if_pos (cmp_0.mpr (tL_inj.mpr e)), decide_eq_true e]; rfl
      · rw [if_neg (fun q => e (tL_inj.mp (cmp_0.mp q))), decide_eq_false e]; rfl
    · have t4 : ¬ R 0 23 = 3 := by
        rcases t3 with q | ⟨q, -⟩ <;> rw [q] <;> decide
      rw [if_neg t4, decide_eq_false (by rw [t2]; exact fun q => z2 q.symm)]; rfl
  · rw [if_neg (by rw [b2]; decide), decide_eq_false (by rw [b1]; exact fun q => z2 q.symm)]; rfl
theorem x5_il {R : Mm} {B : Nat → Int32} {n s x k : Nat} {c i : Int32} (hb : BB B n) (hm : BM R B n) (h24 : R 0 24 = nI s) (h22 : R 0 22 = nI x) (hs : s + k < 2 ^ 30) (hx : x < 2 ^ 30) (hi : i = nI k) : m_X5_isLetter_ i c R = some (b2i (decide ((if s + k < x then B (s + k) else 0) = c)), R) := by
  unfold m_X5_isLetter_
  rw [h24, h22, hi, nI_add]
  by_cases h : s + k < x
  · rw [if_neg (nI_ge h (by omega)), if_pos h, x5_by hb hm (by omega), bd_s]
    by_cases e : B (s + k) = c
    · rw [if_pos e, decide_eq_true e]; rfl
    · rw [if_neg e, decide_eq_false e]; rfl
  · rw [if_pos (nI_le (by omega) (by omega)), if_neg h]
    by_cases e : c = 0
    · rw [if_pos e, decide_eq_true e.symm]; rfl
    · rw [if_neg e, decide_eq_false (fun q => e q.symm)]; rfl
def WD (w : Nat) (R : Mm) : Option (Int32 × Mm) := m_X5_isWord ((WW w).getD 0 0) ((WW w).getD 1 0) ((WW w).getD 2 0) ((WW w).getD 3 0) ((WW w).getD 4 0) ((WW w).getD 5 0) ((WW w).getD 6 0) ((WW w).getD 7 0) R
theorem WW_nz : ∀ w, w < 12 → (WW w).length ≤ 7 ∧ ∀ k, k < (WW w).length → (WW w).getD k 0 ≠ 0 := by decide +kernel
theorem WW_in : ∀ w, w < 12 → ∀ v, v < 12 → WW w = WW v → w = v := by decide +kernel
theorem wo_nz {x : Int32} (h : woB x = true) : x ≠ 0 := by
  rintro rfl
  exact absurd h (by decide)
theorem gD_out {W : List Int32} {k : Nat} (h : W.length ≤ k) : W.getD k 0 = 0 := by
  simp [List.getD, List.getElem?_eq_none h]
theorem x5_iw {R : Mm} {B : Nat → Int32} {n s x w : Nat} (hb : BB B n) (hm : BM R B n) (h27 : R 0 27 = 0) (h23 : R 0 23 = 1) (h24 : R 0 24 = nI s) (h22 : R 0 22 = nI x) (hs : s < x) (hx : x ≤ n) (hl : ∀ j, s ≤ j → j < x → woB (B j) = true) (hw : w < 12) : WD w R = some (b2i (decide (wrd B s x = WW w)), R) := by
  have n160 := hb.1
  obtain ⟨l7, nz⟩ := WW_nz w hw
  have L1 : wrd B s x = WW w → ∀ k, k < 8 → (if s + k < x then B (s + k) else 0) = (WW w).getD k 0 := by
    intro q k hk
    have len : (WW w).length = x - s := by rw [← q, wrd_len]
    by_cases h : s + k < x
    · rw [if_pos h, ← q, wrd_get (by omega)]
    · rw [if_neg h, gD_out (by omega)]
  have L2 : x ≤ s + 8 → (∀ k, k < 8 → (if s + k < x then B (s + k) else 0) = (WW w).getD k 0) → wrd B s x = WW w := by
    intro h8 h
    have len : x - s = (WW w).length := by
      by_cases g1 : (WW w).length < x - s
      · have := h (WW w).length (by omega)
        rw [if_pos (by omega), gD_out (Nat.le_refl _)] at this
        exact absurd this (wo_nz (hl _ (by omega) (by omega)))
      · by_cases g2 : x - s < (WW w).length
        · have := h (x - s) (by omega)
          rw [if_neg (by omega)] at this
          exact absurd this.symm (nz _ g2)
        · omega
    rw [ls_eq (by rw [wrd_len, len])]
    intro j hj
    rw [wrd_get (by omega), ← h j (by omega), if_pos (by omega)]
  unfold WD m_X5_isWord
  rw [if_pos h27, if_pos h23, h24, h22, show nI s + (8 : Int32) = nI (s + 8) from nI_add s 8]
  by_cases h8 : s + 8 < x
  · rw [if_pos (nI_lt h8 (by omega)), decide_eq_false (fun q => by have := wrd_len B s x; rw [q] at this; omega)]; rfl
  rw [if_neg (nI_nlt (by omega) (by omega))]
  rw [x5_il hb hm h24 h22 (k := 0) (i := 0) (by omega) (by omega) (by decide), bd_s]
  by_cases e0 : (if s + 0 < x then B (s + 0) else 0) = (WW w).getD 0 0
  case neg => rw [decide_eq_false e0, b2i_f, if_pos rfl, decide_eq_false (fun q => e0 (L1 q 0 (by omega)))]; rfl
  rw [decide_eq_true e0, b2i_t, if_neg one_ne0]
  rw [x5_il hb hm h24 h22 (k := 1) (i := 1) (by omega) (by omega) (by decide), bd_s]
  by_cases e1 : (if s + 1 < x then B (s + 1) else 0) = (WW w).getD 1 0
  case neg => rw [decide_eq_false e1, b2i_f, if_pos rfl, decide_eq_false (fun q => e1 (L1 q 1 (by omega)))]; rfl
  rw [decide_eq_true e1, b2i_t, if_neg one_ne0]
  rw [x5_il hb hm h24 h22 (k := 2) (i := 2) (by omega) (by omega) (by decide), bd_s]
  by_cases e2 : (if s + 2 < x then B (s + 2) else 0) = (WW w).getD 2 0
  case neg => rw [decide_eq_false e2, b2i_f, if_pos rfl, decide_eq_false (fun q => e2 (L1 q 2 (by omega)))]; rfl
  rw [decide_eq_true e2, b2i_t, if_neg one_ne0]
  rw [x5_il hb hm h24 h22 (k := 3) (i := 3) (by omega) (by omega) (by decide), bd_s]
  by_cases e3 : (if s + 3 < x then B (s + 3) else 0) = (WW w).getD 3 0
  case neg => rw [decide_eq_false e3, b2i_f, if_pos rfl, decide_eq_false (fun q => e3 (L1 q 3 (by omega)))]; rfl
  rw [decide_eq_true e3, b2i_t, if_neg one_ne0]
  rw [x5_il hb hm h24 h22 (k := 4) (i := 4) (by omega) (by omega) (by decide), bd_s]
  by_cases e4 : (if s + 4 < x then B (s + 4) else 0) = (WW w).getD 4 0
  case neg => rw [decide_eq_false e4, b2i_f, if_pos rfl, decide_eq_false (fun q => e4 (L1 q 4 (by omega)))]; rfl
  rw [decide_eq_true e4, b2i_t, if_neg one_ne0]
  rw [x5_il hb hm h24 h22 (k := 5) (i := 5) (by omega) (by omega) (by decide), bd_s]
  by_cases e5 : (if s + 5 < x then B (s + 5) else 0) = (WW w).getD 5 0
  case neg => rw [decide_eq_false e5, b2i_f, if_pos rfl, decide_eq_false (fun q => e5 (L1 q 5 (by omega)))]; rfl
  rw [decide_eq_true e5, b2i_t, if_neg one_ne0]
  rw [x5_il hb hm h24 h22 (k := 6) (i := 6) (by omega) (by omega) (by decide), bd_s]
  by_cases e6 : (if s + 6 < x then B (s + 6) else 0) = (WW w).getD 6 0
  case neg => rw [decide_eq_false e6, b2i_f, if_pos rfl, decide_eq_false (fun q => e6 (L1 q 6 (by omega)))]; rfl
  rw [decide_eq_true e6, b2i_t, if_neg one_ne0]
  rw [x5_il hb hm h24 h22 (k := 7) (i := 7) (by omega) (by omega) (by decide), bd_s]
  by_cases e7 : (if s + 7 < x then B (s + 7) else 0) = (WW w).getD 7 0
  case neg => rw [decide_eq_false e7, b2i_f, if_pos rfl, decide_eq_false (fun q => e7 (L1 q 7 (by omega)))]; rfl
  rw [decide_eq_true e7, b2i_t, if_neg one_ne0]
  have all : wrd B s x = WW w := by
    refine L2 (by omega) (fun k hk => ?_)
    rcases (show k = 0 ∨ k = 1 ∨ k = 2 ∨ k = 3 ∨ k = 4 ∨ k = 5 ∨ k = 6 ∨ k = 7 by omega) with rfl | rfl | rfl | rfl | rfl | rfl | rfl | rfl
    · exact e0
    · exact e1
    · exact e2
    · exact e3
    · exact e4
    · exact e5
    · exact e6
    · exact e7
  rw [decide_eq_true all]; rfl
theorem wd_no {w : Nat} {R : Mm} (h : ¬ (R 0 27 = 0 ∧ R 0 23 = 1)) : WD w R = some (0, R) := by
  unfold WD m_X5_isWord
  by_cases h1 : R 0 27 = 0
  · rw [if_pos h1, if_neg (fun q => h ⟨h1, q⟩)]
  · rw [if_neg h1]
theorem v_wd {A R : Mm} {B : Nat → Int32} {n w : Nat} (hb : BB B n) (hm : BM R B n) (hw : w < 12) (h : STT B n A R) : WD w R = some (b2i (decide (A 5 3 = nI (256 + w))), R) := by
  obtain ⟨z0, z1, z2⟩ := wt_ne w hw
  rcases h with ⟨s, e, g1, g2, g3, g4, g5, tv⟩ | ⟨b1, b2⟩
  · rcases tv with ⟨t1, t2, t3⟩ | ⟨t1, x, x1, x2, x3, x4, ⟨v, w1, w2, w3, w4, w5⟩ | ⟨n1, n2, -⟩ | ⟨k1, k2, k3, k4⟩⟩ | ⟨t1, t2, t3⟩
    · rw [wd_no (fun q => by rw [t3] at q; exact absurd q.2 (by decide)), decide_eq_false (by rw [t2]; exact fun q => z0 q.symm)]; rfl
    · rw [x5_iw hb hm g2 w3 g4 x4 x1 x2 w5 hw, w4, w2]
      by_cases e : v = w
      · subst e; rw [decide_eq_true rfl, decide_eq_true rfl]
      · rw [decide_eq_false (fun q => e (WW_in v w1 w hw q)), decide_eq_false (fun q => e (by have := (nI_eq (a := 256 + v) (b := 256 + w) (by omega) (by omega)).mp q; omega))]
    · rw [wd_no (fun q => by rw [n2] at q; exact absurd q.2 (by decide)), decide_eq_false (by rw [n1]; exact fun q => z1 q.symm)]; rfl
    · rw [wd_no (fun q => by rw [k3] at q; exact absurd q.2 (by decide)), decide_eq_false (by rw [k2]; exact fun q => (sg_ne k1).2.2.2 w hw q.symm)]; rfl
    · have e2 : decide (A 5 3 = nI (256 + w)) = false := decide_eq_false (by rw [t2]; exact fun q => z2 q.symm)
      rw [e2]
      rcases t3 with q | ⟨q, x, x1, x2, x3, x4, x5⟩
      · rw [wd_no (fun y => by rw [q] at y; exact absurd y.2 (by decide))]; rfl
      · rw [x5_iw hb hm g2 q g4 x3 x1 x2 x4 hw, decide_eq_false (x5 w hw)]
  · rw [wd_no (fun q => by rw [b2] at q; exact absurd q.1 (by decide)), decide_eq_false (by rw [b1]; exact fun q => z2 q.symm)]; rfl
theorem sg_val {A R : Mm} {B : Nat → Int32} {n s e : Nat} (h : GD B n A R s e) (hc : sgB (A 5 3) = true) : R 0 25 = A 5 3 := by
  obtain ⟨z0, z1, z2, z3⟩ := sg_ne hc
  obtain ⟨g1, g2, g3, g4, g5, tv⟩ := h
  rcases tv with ⟨t1, t2, t3⟩ | ⟨t1, x, x1, x2, x3, x4, ⟨v, w1, w2, w3, w4, w5⟩ | ⟨n1, n2, -⟩ | ⟨k1, k2, k3, k4⟩⟩ | ⟨t1, t2, t3⟩
  · exact absurd t2 z0
  · exact absurd w2.symm (z3 v w1)
  · exact absurd n1 z1
  · rw [k2, k4]
  · exact absurd t2 z2
/-- a token that can be gone past -/
theorem gd_x {A R : Mm} {B : Nat → Int32} {n s e : Nat} (h : GD B n A R s e) (h0 : ¬ A 5 3 = 0) (h2 : ¬ A 5 3 = 2) : s < n ∧ ∃ x, s < x ∧ x ≤ n ∧ A 5 5 = nI x ∧ R 0 22 = nI x := by
  obtain ⟨g1, g2, g3, g4, g5, tv⟩ := h
  rcases tv with ⟨t1, t2, t3⟩ | ⟨t1, x, x1, x2, x3, x4, -⟩ | ⟨t1, t2, t3⟩
  · exact absurd t2 h0
  · exact ⟨t1, x, x1, x2, x3, x4⟩
  · exact absurd t2 h2
theorem gd_s {A R : Mm} {B : Nat → Int32} {n s e : Nat} (h : GD B n A R s e) : s ≤ n := by
  obtain ⟨g1, g2, g3, g4, g5, tv⟩ := h
  rcases tv with ⟨t1, -⟩ | ⟨t1, -⟩ | ⟨t1, -⟩ <;> omega
theorem TV_m {A R R' : Mm} {B : Nat → Int32} {n s : Nat} (h22 : R' 0 22 = R 0 22) (h23 : R' 0 23 = R 0 23) (h25 : R' 0 25 = R 0 25) (h : TV B n A R s) : TV B n A R' s := by
  unfold TV at *
  rw [h22, h23, h25]
  exact h
theorem TV_x {A A' R : Mm} {B : Nat → Int32} {n s : Nat} (h5 : A' 5 = A 5) (h : TV B n A R s) : TV B n A' R s := by
  unfold TV at *
  rw [h5]
  exact h
theorem GD_op {A R : Mm} {B : Nat → Int32} {n s e : Nat} {x : Int32} (h : GD B n A R s e) : GD B n A (up R 0 26 x) s e := by
  obtain ⟨g1, g2, g3, g4, g5, tv⟩ := h
  exact ⟨g1, by rw [up_j (by decide)]; exact g2, g3, by rw [up_j (by decide)]; exact g4, g5, TV_m (up_j (by decide)) (up_j (by decide)) (up_j (by decide)) tv⟩
theorem GD_ad {A R : Mm} {B : Nat → Int32} {n s e e2 e3 : Nat} {c : Int32} (h : GD B n A R s e) : GD B n (up (up A 2 e2 c) 1 9 (nI e3)) R s e3 := by
  obtain ⟨g1, g2, g3, g4, g5, tv⟩ := h
  have z : (up (up A 2 e2 c) 1 9 (nI e3)) 5 = A 5 := by
    funext b
    rw [up_k (by decide), up_k (by decide)]
  exact ⟨by rw [z]; exact g1, g2, by rw [z]; exact g3, g4, up_s, TV_x z tv⟩
