/-! joints -/
theorem jn11 (v x : Int32) : jnC (-11) v x = (if v = 0 then (if x = 0 then 0 else 1) else 1) := by
  unfold jnC
  rw [if_neg (show ¬ (-11 : Int32) = -21 by decide), if_neg (show ¬ (-11 : Int32) = -20 by decide), if_neg (show ¬ (-11 : Int32) = -19 by decide), if_neg (show ¬ (-11 : Int32) = -18 by decide), if_neg (show ¬ (-11 : Int32) = -17 by decide), if_neg (show ¬ (-11 : Int32) = -16 by decide), if_neg (show ¬ (-11 : Int32) = -15 by decide), if_neg (show ¬ (-11 : Int32) = -14 by decide), if_neg (show ¬ (-11 : Int32) = -13 by decide), if_neg (show ¬ (-11 : Int32) = -12 by decide), if_pos (show (-11 : Int32) = -11 from rfl)]
theorem jn12 (v x : Int32) : jnC (-12) v x = (if v = 0 then 0 else if x = 0 then 0 else 1) := by
  unfold jnC
  rw [if_neg (show ¬ (-12 : Int32) = -21 by decide), if_neg (show ¬ (-12 : Int32) = -20 by decide), if_neg (show ¬ (-12 : Int32) = -19 by decide), if_neg (show ¬ (-12 : Int32) = -18 by decide), if_neg (show ¬ (-12 : Int32) = -17 by decide), if_neg (show ¬ (-12 : Int32) = -16 by decide), if_neg (show ¬ (-12 : Int32) = -15 by decide), if_neg (show ¬ (-12 : Int32) = -14 by decide), if_neg (show ¬ (-12 : Int32) = -13 by decide), if_pos (show (-12 : Int32) = -12 from rfl)]
theorem jn13 (v x : Int32) : jnC (-13) v x = (if x ≤ v then 0 else 1) := by
  unfold jnC
  rw [if_neg (show ¬ (-13 : Int32) = -21 by decide), if_neg (show ¬ (-13 : Int32) = -20 by decide), if_neg (show ¬ (-13 : Int32) = -19 by decide), if_neg (show ¬ (-13 : Int32) = -18 by decide), if_neg (show ¬ (-13 : Int32) = -17 by decide), if_neg (show ¬ (-13 : Int32) = -16 by decide), if_neg (show ¬ (-13 : Int32) = -15 by decide), if_neg (show ¬ (-13 : Int32) = -14 by decide), if_pos (show (-13 : Int32) = -13 from rfl)]
theorem jn14 (v x : Int32) : jnC (-14) v x = (if v = x then 1 else 0) := by
  unfold jnC
  rw [if_neg (show ¬ (-14 : Int32) = -21 by decide), if_neg (show ¬ (-14 : Int32) = -20 by decide), if_neg (show ¬ (-14 : Int32) = -19 by decide), if_neg (show ¬ (-14 : Int32) = -18 by decide), if_neg (show ¬ (-14 : Int32) = -17 by decide), if_neg (show ¬ (-14 : Int32) = -16 by decide), if_neg (show ¬ (-14 : Int32) = -15 by decide), if_pos (show (-14 : Int32) = -14 from rfl)]
theorem jn15 (v x : Int32) : jnC (-15) v x = (v + x) := by
  unfold jnC
  rw [if_neg (show ¬ (-15 : Int32) = -21 by decide), if_neg (show ¬ (-15 : Int32) = -20 by decide), if_neg (show ¬ (-15 : Int32) = -19 by decide), if_neg (show ¬ (-15 : Int32) = -18 by decide), if_neg (show ¬ (-15 : Int32) = -17 by decide), if_neg (show ¬ (-15 : Int32) = -16 by decide), if_pos (show (-15 : Int32) = -15 from rfl)]
theorem jn16 (v x : Int32) : jnC (-16) v x = (v - x) := by
  unfold jnC
  rw [if_neg (show ¬ (-16 : Int32) = -21 by decide), if_neg (show ¬ (-16 : Int32) = -20 by decide), if_neg (show ¬ (-16 : Int32) = -19 by decide), if_neg (show ¬ (-16 : Int32) = -18 by decide), if_neg (show ¬ (-16 : Int32) = -17 by decide), if_pos (show (-16 : Int32) = -16 from rfl)]
theorem jn17 (v x : Int32) : jnC (-17) v x = (v * x) := by
  unfold jnC
  rw [if_neg (show ¬ (-17 : Int32) = -21 by decide), if_neg (show ¬ (-17 : Int32) = -20 by decide), if_neg (show ¬ (-17 : Int32) = -19 by decide), if_neg (show ¬ (-17 : Int32) = -18 by decide), if_pos (show (-17 : Int32) = -17 from rfl)]
theorem jn21 (v x : Int32) : jnC (-21) v x = (if x = 0 then 1 else 0) := by
  unfold jnC
  rw [if_pos (show (-21 : Int32) = -21 from rfl)]
theorem jn22 (v x : Int32) : jnC (-22) v x = (-x) := by
  unfold jnC
  rw [if_neg (show ¬ (-22 : Int32) = -21 by decide), if_neg (show ¬ (-22 : Int32) = -20 by decide), if_neg (show ¬ (-22 : Int32) = -19 by decide), if_neg (show ¬ (-22 : Int32) = -18 by decide), if_neg (show ¬ (-22 : Int32) = -17 by decide), if_neg (show ¬ (-22 : Int32) = -16 by decide), if_neg (show ¬ (-22 : Int32) = -15 by decide), if_neg (show ¬ (-22 : Int32) = -14 by decide), if_neg (show ¬ (-22 : Int32) = -13 by decide), if_neg (show ¬ (-22 : Int32) = -12 by decide), if_neg (show ¬ (-22 : Int32) = -11 by decide)]
/-! behind a fault the class reads nothing more -/
theorem FU_s : ∃ f, FU = f + 1 := ⟨999999, by unfold FU; omega⟩
theorem bfx_one {a1 : Int32 → Mm → Option (Unit × Mm)} {a2 : Int32 → Mm → Option (Unit × Mm)} {a3 : Int32 → Mm → Option (Unit × Mm)} {a4 : Int32 → Mm → Option (Unit × Mm)} {a5 : Int32 → Mm → Option (Unit × Mm)} {a6 : Int32 → Mm → Option (Unit × Mm)} : BFx (mb_X1_readOne a1 a2 a3 a4 a5 a6) := by
  intro x A h3 h7
  unfold mb_X1_readOne m_X1_readOne_J70
  rw [h3, if_neg (show ¬ (2 : Int32) = 1 by decide), if_pos (show (2 : Int32) < 256 by decide), if_neg (show ¬ (2 : Int32) = 45 by decide), if_neg (show ¬ (2 : Int32) = 40 by decide), rf_bad h3 h7, bd_s]
theorem bfx_term {a1 : Int32 → Mm → Option (Unit × Mm)} {a2 : Int32 → Mm → Option (Unit × Mm)} {a3 : Int32 → Mm → Option (Unit × Mm)} {a4 : Int32 → Mm → Option (Unit × Mm)} {a5 : Int32 → Mm → Option (Unit × Mm)} {a6 : Int32 → Mm → Option (Unit × Mm)} (h : BFx a6) : BFx (mb_X1_readTerm a1 a2 a3 a4 a5 a6) := by
  intro x A h3 h7
  unfold mb_X1_readTerm
  rw [h x A h3 h7, bd_s, lt1_d]
  obtain ⟨f, hf⟩ := FU_s
  rw [hf]
  show m_X1_readTerm_B7 a1 a2 a3 a4 a5 a6 (m_X1_readTerm_L7 a1 a2 a3 a4 a5 a6 f) x 0 A = _
  rw [m_X1_readTerm_B7, h3, if_neg (show ¬ (160 : Int32) ≤ 0 by decide), if_neg (show ¬ (2 : Int32) = 42 by decide)]
theorem bfx_sum {a1 : Int32 → Mm → Option (Unit × Mm)} {a2 : Int32 → Mm → Option (Unit × Mm)} {a3 : Int32 → Mm → Option (Unit × Mm)} {a4 : Int32 → Mm → Option (Unit × Mm)} {a5 : Int32 → Mm → Option (Unit × Mm)} {a6 : Int32 → Mm → Option (Unit × Mm)} (h : BFx a5) : BFx (mb_X1_readSum a1 a2 a3 a4 a5 a6) := by
  intro x A h3 h7
  unfold mb_X1_readSum
  rw [h x A h3 h7, bd_s, lt1_d]
  obtain ⟨f, hf⟩ := FU_s
  rw [hf]
  show m_X1_readSum_B7 a1 a2 a3 a4 a5 a6 (m_X1_readSum_L7 a1 a2 a3 a4 a5 a6 f) x 0 A = _
  rw [m_X1_readSum_B7, h3, if_neg (show ¬ (160 : Int32) ≤ 0 by decide), if_neg (show ¬ (2 : Int32) = 43 by decide), if_neg (show ¬ (2 : Int32) = 45 by decide)]
theorem bfx_and {a1 : Int32 → Mm → Option (Unit × Mm)} {a2 : Int32 → Mm → Option (Unit × Mm)} {a3 : Int32 → Mm → Option (Unit × Mm)} {a4 : Int32 → Mm → Option (Unit × Mm)} {a5 : Int32 → Mm → Option (Unit × Mm)} {a6 : Int32 → Mm → Option (Unit × Mm)} (h : BFx a3) : BFx (mb_X1_readAnd a1 a2 a3 a4 a5 a6) := by
  intro x A h3 h7
  unfold mb_X1_readAnd
  rw [h x A h3 h7, bd_s, lt1_d]
  obtain ⟨f, hf⟩ := FU_s
  rw [hf]
  show m_X1_readAnd_B7 a1 a2 a3 a4 a5 a6 (m_X1_readAnd_L7 a1 a2 a3 a4 a5 a6 f) x 0 A = _
  rw [m_X1_readAnd_B7, h3, if_neg (show ¬ (160 : Int32) ≤ 0 by decide), if_neg (show ¬ (2 : Int32) = 266 by decide)]
theorem bfx_or {a1 : Int32 → Mm → Option (Unit × Mm)} {a2 : Int32 → Mm → Option (Unit × Mm)} {a3 : Int32 → Mm → Option (Unit × Mm)} {a4 : Int32 → Mm → Option (Unit × Mm)} {a5 : Int32 → Mm → Option (Unit × Mm)} {a6 : Int32 → Mm → Option (Unit × Mm)} (h : BFx a2) : BFx (mb_X1_readOr a1 a2 a3 a4 a5 a6) := by
  intro x A h3 h7
  unfold mb_X1_readOr
  rw [h x A h3 h7, bd_s, lt1_d]
  obtain ⟨f, hf⟩ := FU_s
  rw [hf]
  show m_X1_readOr_B7 a1 a2 a3 a4 a5 a6 (m_X1_readOr_L7 a1 a2 a3 a4 a5 a6 f) x 0 A = _
  rw [m_X1_readOr_B7, h3, if_neg (show ¬ (160 : Int32) ≤ 0 by decide), if_neg (show ¬ (2 : Int32) = 265 by decide)]
theorem bfx_not {a1 : Int32 → Mm → Option (Unit × Mm)} {a2 : Int32 → Mm → Option (Unit × Mm)} {a3 : Int32 → Mm → Option (Unit × Mm)} {a4 : Int32 → Mm → Option (Unit × Mm)} {a5 : Int32 → Mm → Option (Unit × Mm)} {a6 : Int32 → Mm → Option (Unit × Mm)} (h : BFx a4) : BFx (mb_X1_readNot a1 a2 a3 a4 a5 a6) := by
  intro x A h3 h7
  unfold mb_X1_readNot
  rw [h3, if_neg (show ¬ (2 : Int32) = 267 by decide), h x A h3 h7, bd_s, h3, if_neg (show ¬ (2 : Int32) = 60 by decide), if_neg (show ¬ (2 : Int32) = 61 by decide)]
theorem bxT : ∀ d : Nat, (1 ≤ d → BFx (g_rgT d).2.2.2.2.2) ∧ (2 ≤ d → BFx (g_rgT d).2.2.2.2.1) ∧ (3 ≤ d → BFx (g_rgT d).2.2.2.1) ∧ (4 ≤ d → BFx (g_rgT d).2.2.1) ∧ (5 ≤ d → BFx (g_rgT d).2.1) ∧ (6 ≤ d → BFx (g_rgT d).1) := by
  intro d
  induction d with
  | zero => exact ⟨fun h => absurd h (by omega), fun h => absurd h (by omega), fun h => absurd h (by omega), fun h => absurd h (by omega), fun h => absurd h (by omega), fun h => absurd h (by omega)⟩
  | succ d ih =>
    obtain ⟨i1, i2, i3, i4, i5, i6⟩ := ih
    exact ⟨fun _ => bfx_one, fun h => bfx_term (i1 (by omega)), fun h => bfx_sum (i2 (by omega)), fun h => bfx_not (i3 (by omega)), fun h => bfx_and (i4 (by omega)), fun h => bfx_or (i5 (by omega))⟩
/-! rows of joints: or, and, + and -, * -/
def opOr (t : Int32) : Option Int32 := if t = 265 then some (-11) else none
theorem hopOr (tok c : Int32) (h : opOr tok = some c) : c ≤ -11 ∧ ¬ c ≤ -21 ∧ tok ≠ 0 ∧ tok ≠ 2 := by
  unfold opOr at h
  by_cases h0 : tok = 265
  · rw [if_pos h0] at h
    obtain rfl := Option.some.inj h
    subst h0
    exact ⟨by decide, by decide, by decide, by decide⟩
  rw [if_neg h0] at h
  cases h
theorem ok_or {a1 : Int32 → Mm → Option (Unit × Mm)} {a2 : Int32 → Mm → Option (Unit × Mm)} {a3 : Int32 → Mm → Option (Unit × Mm)} {a4 : Int32 → Mm → Option (Unit × Mm)} {a5 : Int32 → Mm → Option (Unit × Mm)} {a6 : Int32 → Mm → Option (Unit × Mm)} {b1 : Mm → Option (Int32 × Mm)} {b2 : Mm → Option (Int32 × Mm)} {b3 : Mm → Option (Int32 × Mm)} {b4 : Mm → Option (Int32 × Mm)} {b5 : Mm → Option (Int32 × Mm)} {b6 : Mm → Option (Int32 × Mm)} {B : Nat → Int32} {n h o : Nat} (hb : BB B n) (h1 : 1 ≤ h) (hk : OKF B n h o a2 b2) : OKF B n (h + 1) o (mb_X1_readOr a1 a2 a3 a4 a5 a6) (mb_X5_either b1 b2 b3 b4 b5 b6) := by
  intro A R s e hx hm g h26 he
  have e1 : mb_X1_readOr a1 a2 a3 a4 a5 a6 (nI o) A = bd (a2 (nI o) A) (fun _ A1 => m_X1_readOr_L7 a1 a2 a3 a4 a5 a6 FU (nI o) 0 A1) := congrArg (bd _) (funext fun _ => funext fun M => lt1_d _ _)
  have e2 : mb_X5_either b1 b2 b3 b4 b5 b6 R = bd (b2 R) (fun v R1 => m_X5_either_L5 b1 b2 b3 b4 b5 b6 FU v R1) := congrArg (bd _) (funext fun _ => funext fun M => lt1_d _ _)
  rw [e1, e2]
  refine row_ok (op := opOr) hb h1 hk hopOr ?_ ?_ A R s e hx hm g h26 he
  · intro fu t A R hop st hm
    have t1 : ¬ A 5 3 = 265 := by
      intro q
      unfold opOr at hop
      rw [if_pos q] at hop
      cases hop
    refine ⟨?_, fun v => ?_⟩
    · show m_X1_readOr_B7 a1 a2 a3 a4 a5 a6 (m_X1_readOr_L7 a1 a2 a3 a4 a5 a6 fu) (nI o) t A = _
      rw [m_X1_readOr_B7, if_neg t1]
      split <;> rfl
    · show m_X5_either_B5 b1 b2 b3 b4 b5 b6 (m_X5_either_L5 b1 b2 b3 b4 b5 b6 fu) v R = _
      have ew : m_X5_isWord 111 114 0 0 0 0 0 0 R = _ := v_wd hb hm (w := 9) (by omega) st
      rw [show nI (256 + 9) = (265 : Int32) by decide, decide_eq_false t1] at ew
      rw [m_X5_either_B5, ew, bd_s, b2i_f, if_pos rfl]
  · intro fu t A R c hop st hm ht
    have nt : ¬ (160 : Int32) ≤ nI t := nI_ge (b := 160) (by omega) (by omega)
    unfold opOr at hop
    by_cases t1 : A 5 3 = 265
    · rw [if_pos t1] at hop
      obtain rfl := Option.some.inj hop
      refine ⟨?_, fun v => ?_⟩
      · show m_X1_readOr_B7 a1 a2 a3 a4 a5 a6 (m_X1_readOr_L7 a1 a2 a3 a4 a5 a6 fu) (nI o) (nI t) A = _
        rw [m_X1_readOr_B7, if_neg nt, if_pos t1, nI_1]
        rfl
      · show m_X5_either_B5 b1 b2 b3 b4 b5 b6 (m_X5_either_L5 b1 b2 b3 b4 b5 b6 fu) v R = _
        have ew : m_X5_isWord 111 114 0 0 0 0 0 0 R = _ := v_wd hb hm (w := 9) (by omega) st
        rw [show nI (256 + 9) = (265 : Int32) by decide, decide_eq_true t1] at ew
        rw [m_X5_either_B5, ew, bd_s, b2i_t, if_neg one_ne0]
        refine congrArg (bd _) (funext fun _ => funext fun M4 => congrArg (bd _) (funext fun x => funext fun M5 => ?_))
        · rw [lt1_d]
          rw [jn11]
          by_cases h1 : v = 0
          · rw [if_pos h1, if_pos h1]
            by_cases h2 : x = 0
            · rw [if_pos h2, if_pos h2]; rfl
            · rw [if_neg h2, if_neg h2]; rfl
          · rw [if_neg h1, if_neg h1]; rfl
    · rw [if_neg t1] at hop
      cases hop
def opAnd (t : Int32) : Option Int32 := if t = 266 then some (-12) else none
theorem hopAnd (tok c : Int32) (h : opAnd tok = some c) : c ≤ -11 ∧ ¬ c ≤ -21 ∧ tok ≠ 0 ∧ tok ≠ 2 := by
  unfold opAnd at h
  by_cases h0 : tok = 266
  · rw [if_pos h0] at h
    obtain rfl := Option.some.inj h
    subst h0
    exact ⟨by decide, by decide, by decide, by decide⟩
  rw [if_neg h0] at h
  cases h
theorem ok_and {a1 : Int32 → Mm → Option (Unit × Mm)} {a2 : Int32 → Mm → Option (Unit × Mm)} {a3 : Int32 → Mm → Option (Unit × Mm)} {a4 : Int32 → Mm → Option (Unit × Mm)} {a5 : Int32 → Mm → Option (Unit × Mm)} {a6 : Int32 → Mm → Option (Unit × Mm)} {b1 : Mm → Option (Int32 × Mm)} {b2 : Mm → Option (Int32 × Mm)} {b3 : Mm → Option (Int32 × Mm)} {b4 : Mm → Option (Int32 × Mm)} {b5 : Mm → Option (Int32 × Mm)} {b6 : Mm → Option (Int32 × Mm)} {B : Nat → Int32} {n h o : Nat} (hb : BB B n) (h1 : 1 ≤ h) (hk : OKF B n h o a3 b3) : OKF B n (h + 1) o (mb_X1_readAnd a1 a2 a3 a4 a5 a6) (mb_X5_both b1 b2 b3 b4 b5 b6) := by
  intro A R s e hx hm g h26 he
  have e1 : mb_X1_readAnd a1 a2 a3 a4 a5 a6 (nI o) A = bd (a3 (nI o) A) (fun _ A1 => m_X1_readAnd_L7 a1 a2 a3 a4 a5 a6 FU (nI o) 0 A1) := congrArg (bd _) (funext fun _ => funext fun M => lt1_d _ _)
  have e2 : mb_X5_both b1 b2 b3 b4 b5 b6 R = bd (b3 R) (fun v R1 => m_X5_both_L5 b1 b2 b3 b4 b5 b6 FU v R1) := congrArg (bd _) (funext fun _ => funext fun M => lt1_d _ _)
  rw [e1, e2]
  refine row_ok (op := opAnd) hb h1 hk hopAnd ?_ ?_ A R s e hx hm g h26 he
  · intro fu t A R hop st hm
    have t1 : ¬ A 5 3 = 266 := by
      intro q
      unfold opAnd at hop
      rw [if_pos q] at hop
      cases hop
    refine ⟨?_, fun v => ?_⟩
    · show m_X1_readAnd_B7 a1 a2 a3 a4 a5 a6 (m_X1_readAnd_L7 a1 a2 a3 a4 a5 a6 fu) (nI o) t A = _
      rw [m_X1_readAnd_B7, if_neg t1]
      split <;> rfl
    · show m_X5_both_B5 b1 b2 b3 b4 b5 b6 (m_X5_both_L5 b1 b2 b3 b4 b5 b6 fu) v R = _
      have ew : m_X5_isWord 97 110 100 0 0 0 0 0 R = _ := v_wd hb hm (w := 10) (by omega) st
      rw [show nI (256 + 10) = (266 : Int32) by decide, decide_eq_false t1] at ew
      rw [m_X5_both_B5, ew, bd_s, b2i_f, if_pos rfl]
  · intro fu t A R c hop st hm ht
    have nt : ¬ (160 : Int32) ≤ nI t := nI_ge (b := 160) (by omega) (by omega)
    unfold opAnd at hop
    by_cases t1 : A 5 3 = 266
    · rw [if_pos t1] at hop
      obtain rfl := Option.some.inj hop
      refine ⟨?_, fun v => ?_⟩
      · show m_X1_readAnd_B7 a1 a2 a3 a4 a5 a6 (m_X1_readAnd_L7 a1 a2 a3 a4 a5 a6 fu) (nI o) (nI t) A = _
        rw [m_X1_readAnd_B7, if_neg nt, if_pos t1, nI_1]
        rfl
      · show m_X5_both_B5 b1 b2 b3 b4 b5 b6 (m_X5_both_L5 b1 b2 b3 b4 b5 b6 fu) v R = _
        have ew : m_X5_isWord 97 110 100 0 0 0 0 0 R = _ := v_wd hb hm (w := 10) (by omega) st
        rw [show nI (256 + 10) = (266 : Int32) by decide, decide_eq_true t1] at ew
        rw [m_X5_both_B5, ew, bd_s, b2i_t, if_neg one_ne0]
        refine congrArg (bd _) (funext fun _ => funext fun M4 => congrArg (bd _) (funext fun x => funext fun M5 => ?_))
        · rw [lt1_d]
          rw [jn12]
          by_cases h1 : v = 0
          · rw [if_pos h1, if_pos h1]; rfl
          · rw [if_neg h1, if_neg h1]
            by_cases h2 : x = 0
            · rw [if_pos h2, if_pos h2]; rfl
            · rw [if_neg h2, if_neg h2]; rfl
    · rw [if_neg t1] at hop
      cases hop
def opSum (t : Int32) : Option Int32 := if t = 43 then some (-15) else if t = 45 then some (-16) else none
theorem hopSum (tok c : Int32) (h : opSum tok = some c) : c ≤ -11 ∧ ¬ c ≤ -21 ∧ tok ≠ 0 ∧ tok ≠ 2 := by
  unfold opSum at h
  by_cases h0 : tok = 43
  · rw [if_pos h0] at h
    obtain rfl := Option.some.inj h
    subst h0
    exact ⟨by decide, by decide, by decide, by decide⟩
  by_cases h1 : tok = 45
  · rw [if_neg h0, if_pos h1] at h
    obtain rfl := Option.some.inj h
    subst h1
    exact ⟨by decide, by decide, by decide, by decide⟩
  rw [if_neg h0, if_neg h1] at h
  cases h
theorem ok_sum {a1 : Int32 → Mm → Option (Unit × Mm)} {a2 : Int32 → Mm → Option (Unit × Mm)} {a3 : Int32 → Mm → Option (Unit × Mm)} {a4 : Int32 → Mm → Option (Unit × Mm)} {a5 : Int32 → Mm → Option (Unit × Mm)} {a6 : Int32 → Mm → Option (Unit × Mm)} {b1 : Mm → Option (Int32 × Mm)} {b2 : Mm → Option (Int32 × Mm)} {b3 : Mm → Option (Int32 × Mm)} {b4 : Mm → Option (Int32 × Mm)} {b5 : Mm → Option (Int32 × Mm)} {b6 : Mm → Option (Int32 × Mm)} {B : Nat → Int32} {n h o : Nat} (hb : BB B n) (h1 : 1 ≤ h) (hk : OKF B n h o a5 b5) : OKF B n (h + 1) o (mb_X1_readSum a1 a2 a3 a4 a5 a6) (mb_X5_added b1 b2 b3 b4 b5 b6) := by
  intro A R s e hx hm g h26 he
  have e1 : mb_X1_readSum a1 a2 a3 a4 a5 a6 (nI o) A = bd (a5 (nI o) A) (fun _ A1 => m_X1_readSum_L7 a1 a2 a3 a4 a5 a6 FU (nI o) 0 A1) := congrArg (bd _) (funext fun _ => funext fun M => lt1_d _ _)
  have e2 : mb_X5_added b1 b2 b3 b4 b5 b6 R = bd (b5 R) (fun v R1 => m_X5_added_L5 b1 b2 b3 b4 b5 b6 FU v R1) := congrArg (bd _) (funext fun _ => funext fun M => lt1_d _ _)
  rw [e1, e2]
  refine row_ok (op := opSum) hb h1 hk hopSum ?_ ?_ A R s e hx hm g h26 he
  · intro fu t A R hop st hm
    have t1 : ¬ A 5 3 = 43 := by
      intro q
      unfold opSum at hop
      rw [if_pos q] at hop
      cases hop
    have t2 : ¬ A 5 3 = 45 := by
      intro q
      unfold opSum at hop
      rw [if_neg t1, if_pos q] at hop
      cases hop
    refine ⟨?_, fun v => ?_⟩
    · show m_X1_readSum_B7 a1 a2 a3 a4 a5 a6 (m_X1_readSum_L7 a1 a2 a3 a4 a5 a6 fu) (nI o) t A = _
      rw [m_X1_readSum_B7, if_neg t1, if_neg t2]
      split <;> rfl
    · show m_X5_added_B5 b1 b2 b3 b4 b5 b6 (m_X5_added_L5 b1 b2 b3 b4 b5 b6 fu) v R = _
      rw [m_X5_added_B5, v_sg (c := 43) (by decide) st, bd_s, decide_eq_false t1, b2i_f, if_pos rfl, v_sg (c := 45) (by decide) st, bd_s, decide_eq_false t2, b2i_f, if_pos rfl]
  · intro fu t A R c hop st hm ht
    have nt : ¬ (160 : Int32) ≤ nI t := nI_ge (b := 160) (by omega) (by omega)
    unfold opSum at hop
    have val : sgB (A 5 3) = true → R 0 25 = A 5 3 := by
      intro hs
      rcases st with ⟨s, e, g⟩ | ⟨z, -⟩
      · exact sg_val g hs
      · rw [z] at hs; exact absurd hs (by decide)
    by_cases t1 : A 5 3 = 43
    · rw [if_pos t1] at hop
      obtain rfl := Option.some.inj hop
      refine ⟨?_, fun v => ?_⟩
      · show m_X1_readSum_B7 a1 a2 a3 a4 a5 a6 (m_X1_readSum_L7 a1 a2 a3 a4 a5 a6 fu) (nI o) (nI t) A = _
        rw [m_X1_readSum_B7, if_neg nt, if_pos t1, m_X1_readSum_J32, if_pos t1, m_X1_readSum_J48, lt1_d, nI_1]
        rfl
      · show m_X5_added_B5 b1 b2 b3 b4 b5 b6 (m_X5_added_L5 b1 b2 b3 b4 b5 b6 fu) v R = _
        rw [m_X5_added_B5, v_sg (c := 43) (by decide) st, bd_s, decide_eq_true t1, b2i_t, if_neg one_ne0, m_X5_added_J23, val (by rw [t1]; decide), t1, if_pos (cmp_0.mpr (by decide)), m_X5_added_J39, lt1_d]
        refine congrArg (bd _) (funext fun _ => funext fun M4 => congrArg (bd _) (funext fun x => funext fun M5 => ?_))
        · rw [lt1_d, if_neg one_ne0, jn15, m_X5_added_J62, lt1_d]
    rw [if_neg t1] at hop
    by_cases t2 : A 5 3 = 45
    · rw [if_pos t2] at hop
      obtain rfl := Option.some.inj hop
      refine ⟨?_, fun v => ?_⟩
      · show m_X1_readSum_B7 a1 a2 a3 a4 a5 a6 (m_X1_readSum_L7 a1 a2 a3 a4 a5 a6 fu) (nI o) (nI t) A = _
        rw [m_X1_readSum_B7, if_neg nt, if_neg t1, if_pos t2, m_X1_readSum_J32, if_neg t1, m_X1_readSum_J48, lt1_d, nI_1]
        rfl
      · show m_X5_added_B5 b1 b2 b3 b4 b5 b6 (m_X5_added_L5 b1 b2 b3 b4 b5 b6 fu) v R = _
        have q : ¬ lg_cmp ((45 : Int32).toInt64) (43 : Int64) = 0 := fun z => absurd (cmp_0.mp z) (by decide)
        rw [m_X5_added_B5, v_sg (c := 43) (by decide) st, bd_s, decide_eq_false t1, b2i_f, if_pos rfl, v_sg (c := 45) (by decide) st, bd_s, decide_eq_true t2, b2i_t, if_neg one_ne0, m_X5_added_J23, val (by rw [t2]; decide), t2, if_neg q, m_X5_added_J39, lt1_d]
        refine congrArg (bd _) (funext fun _ => funext fun M4 => congrArg (bd _) (funext fun x => funext fun M5 => ?_))
        · rw [lt1_d, if_pos rfl, jn16, m_X5_added_J62, lt1_d]
    · rw [if_neg t2] at hop
      cases hop
def opTerm (t : Int32) : Option Int32 := if t = 42 then some (-17) else none
theorem hopTerm (tok c : Int32) (h : opTerm tok = some c) : c ≤ -11 ∧ ¬ c ≤ -21 ∧ tok ≠ 0 ∧ tok ≠ 2 := by
  unfold opTerm at h
  by_cases h0 : tok = 42
  · rw [if_pos h0] at h
    obtain rfl := Option.some.inj h
    subst h0
    exact ⟨by decide, by decide, by decide, by decide⟩
  rw [if_neg h0] at h
  cases h
theorem ok_term {a1 : Int32 → Mm → Option (Unit × Mm)} {a2 : Int32 → Mm → Option (Unit × Mm)} {a3 : Int32 → Mm → Option (Unit × Mm)} {a4 : Int32 → Mm → Option (Unit × Mm)} {a5 : Int32 → Mm → Option (Unit × Mm)} {a6 : Int32 → Mm → Option (Unit × Mm)} {b1 : Mm → Option (Int32 × Mm)} {b2 : Mm → Option (Int32 × Mm)} {b3 : Mm → Option (Int32 × Mm)} {b4 : Mm → Option (Int32 × Mm)} {b5 : Mm → Option (Int32 × Mm)} {b6 : Mm → Option (Int32 × Mm)} {B : Nat → Int32} {n h o : Nat} (hb : BB B n) (h1 : 1 ≤ h) (hk : OKF B n h o a6 b6) : OKF B n (h + 1) o (mb_X1_readTerm a1 a2 a3 a4 a5 a6) (mb_X5_term b1 b2 b3 b4 b5 b6) := by
  intro A R s e hx hm g h26 he
  have e1 : mb_X1_readTerm a1 a2 a3 a4 a5 a6 (nI o) A = bd (a6 (nI o) A) (fun _ A1 => m_X1_readTerm_L7 a1 a2 a3 a4 a5 a6 FU (nI o) 0 A1) := congrArg (bd _) (funext fun _ => funext fun M => lt1_d _ _)
  have e2 : mb_X5_term b1 b2 b3 b4 b5 b6 R = bd (b6 R) (fun v R1 => m_X5_term_L5 b1 b2 b3 b4 b5 b6 FU v R1) := congrArg (bd _) (funext fun _ => funext fun M => lt1_d _ _)
  rw [e1, e2]
  refine row_ok (op := opTerm) hb h1 hk hopTerm ?_ ?_ A R s e hx hm g h26 he
  · intro fu t A R hop st hm
    have t1 : ¬ A 5 3 = 42 := by
      intro q
      unfold opTerm at hop
      rw [if_pos q] at hop
      cases hop
    refine ⟨?_, fun v => ?_⟩
    · show m_X1_readTerm_B7 a1 a2 a3 a4 a5 a6 (m_X1_readTerm_L7 a1 a2 a3 a4 a5 a6 fu) (nI o) t A = _
      rw [m_X1_readTerm_B7, if_neg t1]
      split <;> rfl
    · show m_X5_term_B5 b1 b2 b3 b4 b5 b6 (m_X5_term_L5 b1 b2 b3 b4 b5 b6 fu) v R = _
      rw [m_X5_term_B5, v_sg (c := 42) (by decide) st, bd_s, decide_eq_false t1, b2i_f, if_pos rfl]
  · intro fu t A R c hop st hm ht
    have nt : ¬ (160 : Int32) ≤ nI t := nI_ge (b := 160) (by omega) (by omega)
    unfold opTerm at hop
    by_cases t1 : A 5 3 = 42
    · rw [if_pos t1] at hop
      obtain rfl := Option.some.inj hop
      refine ⟨?_, fun v => ?_⟩
      · show m_X1_readTerm_B7 a1 a2 a3 a4 a5 a6 (m_X1_readTerm_L7 a1 a2 a3 a4 a5 a6 fu) (nI o) (nI t) A = _
        rw [m_X1_readTerm_B7, if_neg nt, if_pos t1, nI_1]
        rfl
      · show m_X5_term_B5 b1 b2 b3 b4 b5 b6 (m_X5_term_L5 b1 b2 b3 b4 b5 b6 fu) v R = _
        rw [m_X5_term_B5, v_sg (c := 42) (by decide) st, bd_s, decide_eq_true t1, b2i_t, if_neg one_ne0]
        refine congrArg (bd _) (funext fun _ => funext fun M4 => congrArg (bd _) (funext fun x => funext fun M5 => ?_))
        · rw [lt1_d, jn17]
    · rw [if_neg t1] at hop
      cases hop
