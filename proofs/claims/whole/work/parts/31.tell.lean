/-! to whom to write -/
def tlF (f : Nat → Int32) (p : Nat) (set : Int32) : Nat → Nat → Int32
  | 0, _ => -1
  | k + 1, q => if q = p then tlF f p set k (q + 1) else if f q = set then nI q else tlF f p set k (q + 1)
def tlf (tx : Tx) (s : Vs) (N p : Nat) : Nat → Int32 := fun q => daysS tx N (postS tx s p q) 8 (vL s)
theorem x3_tell_L {T N p P : Nat} {tx : Tx} {s : Vs} {set : Int32} (hN : N < 1000) (hw : WF T s) (s6 : s 0 6 = 0) (hP : vP s = P) (hp : p < P) (hl : vL s < 8) : ∀ (k q n : Nat) (A : Mm), k < n → q + k = P → TXx A T tx → nx A 7 = s → ∃ A', m_X4_tell_L57 n (nI p) set (nI N) (nI q) A = some (tlF (tlf tx s N p) p set k q, A') ∧ FV 16 A A' := by
  have h5 : P ≤ 5 := by rw [← hP]; exact hw.1.2.1
  intro k
  induction k with
  | zero =>
    intro q n A hn hq hx hA
    obtain ⟨n, rfl⟩ : ∃ m, n = m + 1 := ⟨n - 1, by omega⟩
    have hwA : WF T (nx A 7) := by rw [hA]; exact hw
    have c := hwA.cv
    rw [hA, hP] at c
    show ∃ A', m_X4_tell_B57 (m_X4_tell_L57 n) (nI p) set (nI N) (nI q) A = _ ∧ _
    rw [m_X4_tell_B57, c.1, if_pos (nI_le (by omega) (by omega))]
    exact ⟨A, rfl, FV.rf⟩
  | succ k ih =>
    intro q n A hn hq hx hA
    obtain ⟨n, rfl⟩ : ∃ m, n = m + 1 := ⟨n - 1, by omega⟩
    have hwA : WF T (nx A 7) := by rw [hA]; exact hw
    have c := hwA.cv
    rw [hA, hP] at c
    obtain ⟨A1, a1, a2, a3⟩ := x3_take (M := A) (v := 16) (w := 7) (by omega) (by omega) hwA
    rw [hA, keep0 s6] at a2
    show ∃ A', m_X4_tell_B57 (m_X4_tell_L57 n) (nI p) set (nI N) (nI q) A = some (tlF (tlf tx s N p) p set (k + 1) q, A') ∧ _
    rw [m_X4_tell_B57, c.1, if_neg (nI_ge (by omega) (by omega)), a1, bd_s]
    unfold m_X4_tell_J111 tlF
    have go : ∀ A2 : Mm, FV 16 A A2 → ∃ A', m_X4_tell_L57 n (nI p) set (nI N) (nI (q + 1)) A2 = some (tlF (tlf tx s N p) p set k (q + 1), A') ∧ FV 16 A A' := by
      intro A2 f
      obtain ⟨A', b1, b2⟩ := ih (q + 1) n A2 (by omega) (by omega) (FV.tx (by omega) hx f) (by rw [f.nxe (u := 7) (by omega) (by omega)]; exact hA)
      exact ⟨A', b1, f.tr b2⟩
    by_cases e : q = p
    · rw [if_pos (by rw [e]), if_pos e, lt1_d, nI_1]
      exact go A1 a3
    · rw [if_neg (fun z => e ((nI_eq (by omega) (by omega)).mp z)), if_neg e]
      obtain ⟨A2, b1, b2, b3⟩ := x3_post (M := A1) (v := 16) (T := T) (tx := tx) (p := p) (q := q) (by omega) (FV.tx (by omega) hx a3) (by rw [a2]; exact hw) (by rw [a2]; omega) (by rw [a2]; omega) (by rw [a2]; exact hl)
      rw [a2] at b1 b2
      have w2 : WF T (postS tx s p q) := hw.pst (by omega) (by omega) hl
      have l2 : vL (postS tx s p q) = vL s + 1 := (addL_L hl).1
      obtain ⟨A3, d1, d2⟩ := x3_rb (M := A2) (v := 16) (N := N) (l := vL s) (by omega) hN (FV.tx (by omega) hx (a3.tr b3)) (by rw [b2]; exact w2) (by rw [b2, l2]; omega)
      rw [b2] at d1
      rw [b1, bd_s, d1, bd_s]
      by_cases e2 : daysS tx N (postS tx s p q) 8 (vL s) = set
      · rw [if_pos e2, if_pos (show tlf tx s N p q = set from e2)]
        exact ⟨A3, rfl, (a3.tr b3).tr d2⟩
      · rw [if_neg e2, if_neg (show ¬ tlf tx s N p q = set from e2), lt1_d, nI_1]
        exact go A3 ((a3.tr b3).tr d2)
/-- the post is as it was, as far as it counts -/
def KL (L : Nat) (M M' : Mm) : Prop := (∀ k, k ≠ 0 → k ≠ 5 → k ≠ 6 → M' k = M k) ∧ (∀ j, j < 14 ∨ 28 < j → M' 0 j = M 0 j) ∧ ∀ j, j < 5 * L → M' 5 j = M 5 j
theorem KL.rf {L : Nat} {M : Mm} : KL L M M := ⟨fun _ _ _ _ => rfl, fun _ _ => rfl, fun _ _ => rfl⟩
theorem KL.tr {L : Nat} {M M1 M2 : Mm} (h : KL L M M1) (g : KL L M1 M2) : KL L M M2 := ⟨fun k a b c => (g.1 k a b c).trans (h.1 k a b c), fun j a => (g.2.1 j a).trans (h.2.1 j a), fun j a => (g.2.2 j a).trans (h.2.2 j a)⟩
theorem KL.rk {L : Nat} {M M' : Mm} (h : KL L M M') : RK M M' := ⟨fun k a => h.1 k (by omega) (by omega) (by omega), fun j a => h.2.1 j (by omega)⟩
theorem KL.nme {L : Nat} {M M' : Mm} (h : KL L M M') (hL : vL (nm M) = L) : nm M' = nm M := by
  have e0 : ∀ j, vm M' 0 j = vm M 0 j := by
    intro j
    unfold vm
    simp only []
    split <;> first | rfl | exact h.2.1 _ (by omega)
  have eP : vP (vm M') = vP (vm M) := by unfold vP; rw [e0]
  have eL : vL (vm M') = vL (vm M) := by unfold vL; rw [e0]
  have q : vL (vm M) = L := by rw [← hL]; unfold nm; rw [nrm_L]
  funext i j
  show nrm (vm M') i j = nrm (vm M) i j
  unfold nrm
  rw [eP, eL]
  have e4 : ∀ a, M' 4 a = M 4 a := fun a => by rw [h.1 4 (by decide) (by decide) (by decide)]
  match i with
  | 0 => rw [if_pos rfl, if_pos rfl, e0]
  | 1 => rw [show vm M' 1 j = vm M 1 j from e4 _, e0]
  | 2 => rw [show vm M' 2 j = vm M 2 j from e4 _, e0]
  | 3 => rw [show vm M' 3 j = vm M 3 j from e4 _, e0]
  | 4 =>
    by_cases hj : j < vL (vm M)
    · rw [show vm M' 4 j = vm M 4 j from h.2.2 _ (by omega), e0]
    · simp [hj]
  | 5 =>
    by_cases hj : j < vL (vm M)
    · rw [show vm M' 5 j = vm M 5 j from h.2.2 _ (by omega), e0]
    · simp [hj]
  | 6 =>
    by_cases hj : j < vL (vm M)
    · rw [show vm M' 6 j = vm M 6 j from h.2.2 _ (by omega), e0]
    · simp [hj]
  | 7 =>
    by_cases hj : j < vL (vm M)
    · rw [show vm M' 7 j = vm M 7 j from h.2.2 _ (by omega), e0]
    · simp [hj]
  | 8 =>
    by_cases hj : j < vL (vm M)
    · rw [show vm M' 8 j = vm M 8 j from h.2.2 _ (by omega), e0]
    · simp [hj]
  | n + 9 => rw [e0]; simp [show ¬ n + 9 ≤ 3 by omega, show ¬ n + 9 ≤ 8 by omega]
theorem x5_tell_L {T N p P : Nat} {tx : Tx} {s : Vs} {set : Int32} (hN : N ≤ 40) (hw : WF T s) (hP : vP s = P) (hp : p < P) (hl : vL s < 8) : ∀ (q n : Nat) (R : Mm), q < n → q ≤ P → TXm R T tx → nm R = s → ∃ R', m_X5_tell_L64 n (nI p) set (nI N) (tlF (tlf tx s N p) p set (P - q) q) (nI q - 1) R = some (tlF (tlf tx s N p) p set P 0, R') ∧ KL (vL s) R R' := by
  have h5 : P ≤ 5 := by rw [← hP]; exact hw.1.2.1
  intro q
  induction q with
  | zero =>
    intro n R hn hq hx hR
    obtain ⟨n, rfl⟩ : ∃ m, n = m + 1 := ⟨n - 1, by omega⟩
    show ∃ R', m_X5_tell_B64 (m_X5_tell_L64 n) (nI p) set (nI N) _ (nI 0 - 1) R = _ ∧ _
    rw [m_X5_tell_B64, if_pos (by decide)]
    exact ⟨R, rfl, KL.rf⟩
  | succ q ih =>
    intro n R hn hq hx hR
    obtain ⟨n, rfl⟩ : ∃ m, n = m + 1 := ⟨n - 1, by omega⟩
    have em : nI q + (-1) = nI q - 1 := (Int32.sub_eq_add_neg _ _).symm
    have eu : tlF (tlf tx s N p) p set (P - q) q = if q = p then tlF (tlf tx s N p) p set (P - (q + 1)) (q + 1) else if tlf tx s N p q = set then nI q else tlF (tlf tx s N p) p set (P - (q + 1)) (q + 1) := by
      rw [show P - q = P - (q + 1) + 1 by omega]
      rfl
    show ∃ R', m_X5_tell_B64 (m_X5_tell_L64 n) (nI p) set (nI N) _ (nI (q + 1) - 1) R = _ ∧ _
    rw [m_X5_tell_B64, nI_pred, if_neg (nI_pos (by omega))]
    unfold m_X5_tell_J105 m_X5_tell_J117
    have go : ∀ R2 : Mm, KL (vL s) R R2 → ∃ R', m_X5_tell_L64 n (nI p) set (nI N) (tlF (tlf tx s N p) p set (P - q) q) (nI q - 1) R2 = some (tlF (tlf tx s N p) p set P 0, R') ∧ KL (vL s) R R' := by
      intro R2 f
      obtain ⟨R', b1, b2⟩ := ih n R2 (by omega) (by omega) (f.rk.tx hx) (by rw [f.nme (by rw [hR])]; exact hR)
      exact ⟨R', b1, f.tr b2⟩
    by_cases e : q = p
    · rw [if_pos (by rw [e]), lt1_d, em]
      rw [if_pos e] at eu
      rw [← eu]
      exact go R KL.rf
    · rw [if_neg (fun z => e ((nI_eq (by omega) (by omega)).mp z))]
      rw [if_neg e] at eu
      obtain ⟨R1, a1, a2, a3⟩ := x5_sends (M := R) (T := T) (tx := tx) (p := p) (q := q) hx (by rw [hR]; exact hw) (by rw [hR]; omega) (by rw [hR]; omega) (by rw [hR]; exact hl)
      rw [hR] at a2 a3
      have w2 : WF T (postS tx s p q) := hw.pst (by omega) (by omega) hl
      have l2 : vL (postS tx s p q) = vL s + 1 := (addL_L hl).1
      obtain ⟨R2, d1, d2⟩ := x5_run2 (M := R1) (N := N) (l := vL s) hN (HV.tx hx a3.hv) (by rw [a2]; exact w2) (by rw [a2, l2]; omega)
      rw [a2] at d1
      have e12 : R2 0 12 = nI (vL s + 1) := by rw [d2.2.1 12 (by omega)]; exact a3.2.2.1
      have r12 : R 0 12 = nI (vL s) := by
        have : WF T (nm R) := by rw [hR]; exact hw
        have := this.mv.2.2.1
        rw [hR] at this
        exact this
      have f : KL (vL s) R (up R2 0 12 (nI (vL s))) := by
        refine ⟨fun k k0 k5 k6 => ?_, fun j hj => ?_, fun j hj => ?_⟩
        · funext b; rw [up_k k0, d2.1 k k0 k5 k6, a3.1 k k0 k5]
        · by_cases q12 : j = 12
          · subst q12; rw [up_s, r12]
          · rw [up_j q12, d2.2.1 j hj, a3.2.1 j hj q12]
        · rw [up_k (by decide), d2.2.2 j (by omega), a3.2.2.2 j hj]
      rw [a1, bd_s, a3.2.2.1, nI_pred, d1, bd_s]
      by_cases e2 : daysS tx N (postS tx s p q) 8 (vL s) = set
      · rw [if_pos (show tlf tx s N p q = set from e2)] at eu
        rw [if_pos e2, lt1_d, lt1_d, lt1_d, e12, nI_pred, em]
        have g := go _ f
        rw [eu] at g
        exact g
      · rw [if_neg (show ¬ tlf tx s N p q = set from e2)] at eu
        rw [if_neg e2, lt1_d, lt1_d, lt1_d, e12, nI_pred, em]
        have g := go _ f
        rw [eu] at g
        exact g
theorem call_tell {Mx Mr : Mm} (h : Rel Mx Mr) (x y z : Int32) : Ans (m_X4_tell x y z Mx) (m_X5_tell x y z Mr) := by
  obtain ⟨T, tx, hR, hV⟩ := id h
  obtain ⟨v1, v2, v3, hdd⟩ := id hV
  have cx := hV.cx
  have cm := hV.cm
  have h5 := cm.2.1
  have h8 := cm.2.2.2
  unfold m_X4_tell m_X5_tell
  rcases ix_cases x (vP (nm Mr)) (by omega) with q | ⟨p, p1, rfl⟩
  · rw [x3_one_out cx q, x5_one_out cm q, bd_s, bd_s, if_pos rfl, if_pos rfl]
    exact ⟨_, _, _, rfl, rfl, h⟩
  rw [x3_one_in cx p1, x5_one_in cm p1, bd_s, bd_s, if_neg one_ne0, if_neg one_ne0, cx.1, cm.1, sh1P _ (by omega)]
  have p32 : 2 ^ vP (nm Mr) ≤ 32 := Nat.pow_le_pow_right (n := 2) (by decide) h5
  have p0 : 0 < 2 ^ vP (nm Mr) := Nat.two_pow_pos _
  rcases ix_cases y (2 ^ vP (nm Mr)) (by omega) with q | ⟨c, c1, rfl⟩
  · rw [x5_in_out (n := 2 ^ vP (nm Mr)) (by rw [nI_sub1 (by omega)]; omega) (by omega) q, bd_s, if_pos rfl]
    by_cases q1 : y < 0
    · rw [if_pos q1]
      exact ⟨_, _, _, rfl, rfl, h⟩
    · rw [if_neg q1, if_pos (q.resolve_left q1)]
      exact ⟨_, _, _, rfl, rfl, h⟩
  rw [x5_in_in (n := 2 ^ vP (nm Mr) - 1) (by rw [nI_sub1 (by omega)]; omega) (by omega) (by omega), bd_s, if_neg one_ne0, if_neg (nI_pos (by omega)), if_neg (nI_ge c1 (by omega))]
  rcases ix_cases z 21 (by omega) with q | ⟨N, N1, rfl⟩
  · rw [x5_in_out (n := 21) (b := 20) (by decide) (by omega) q, bd_s, if_pos rfl]
    rcases rg_out (n := 20) (by omega) q with q | ⟨q1, q2, q3⟩
    · rw [if_pos q]
      exact ⟨_, _, _, rfl, rfl, h⟩
    · rw [if_neg q1, if_neg (show ¬ z ≤ (20 : Int32) from q2)]
      exact ⟨_, _, _, rfl, rfl, h⟩
  have rn := rg_in (n := 20) N1 (by omega)
  rw [x5_in_in (n := 20) (b := 20) (by decide) (by omega) (by omega), bd_s, if_neg one_ne0, if_neg rn.1, if_pos (show nI N ≤ (20 : Int32) from rn.2.1), cm.2.2.1]
  unfold m_X3_hasRoom
  rw [cx.2.2.1]
  by_cases e : vL (nm Mr) = 8
  · rw [if_pos (show (8 : Int32) ≤ nI (vL (nm Mr)) from nI_le (a := 8) (by omega) (by omega)), if_pos (show nI (vL (nm Mr)) = (8 : Int32) by rw [e]; rfl), bd_s, if_pos rfl]
    exact ⟨_, _, _, rfl, rfl, h⟩
  · rw [if_neg (show ¬ (8 : Int32) ≤ nI (vL (nm Mr)) from nI_ge (b := 8) (by omega) (by omega)), if_neg (show ¬ nI (vL (nm Mr)) = (8 : Int32) from fun z => e ((nI_eq (b := 8) (by omega) (by omega)).mp z)), bd_s, if_neg one_ne0, lt1_d, lt1_d, lt1_d]
    obtain ⟨A, a1, a2⟩ := x3_tell_L (T := T) (N := N) (set := nI c) (by omega) v2 v3 rfl p1 (by omega) (vP (nm Mr)) 0 FU Mx (by unfold FU; omega) (by omega) hR.1.1 v1
    obtain ⟨R, b1, b2⟩ := x5_tell_L (T := T) (N := N) (set := nI c) (by omega) v2 rfl p1 (by omega) (vP (nm Mr)) FU Mr (by unfold FU; omega) (by omega) hR.1.2 rfl
    rw [Nat.sub_self, show tlF (tlf tx (nm Mr) N p) p (nI c) 0 (vP (nm Mr)) = -1 from rfl] at b1
    rw [nI_0] at a1
    rw [cm.1, a1, b1]
    exact ⟨_, _, _, rfl, rfl, T, tx, hR.keep (a2.xk (Or.inr rfl)) b2.rk, hV.th2 a2 (b2.nme rfl)⟩
/-! drawn -/
theorem drw_L {T N : Nat} {tx : Tx} (hN : N < 1000) : ∀ (k i fx fm : Nat) (z : Int32) (A R : Mm), k < fx → k < fm → i + k = N → TXx A T tx → TXm R T tx → WF T (nm R) → nx A 16 = nm R → ∃ (r : Int32) (A' R' : Mm), m_X4_homesDrawn_L16 fx (nI N) z (nI i) A = some (r, A') ∧ m_X5_homeDrawn_L9 fm (nI N) z (nI i) R = bd (m_X5_laysBack R') (fun _ M => some (r, M)) ∧ FV 16 A A' ∧ HV R R' := by
  intro k
  induction k with
  | zero =>
    intro i fx fm z A R h1 h2 hi hx hm hw hA
    obtain ⟨fx, rfl⟩ : ∃ m, fx = m + 1 := ⟨fx - 1, by omega⟩
    obtain ⟨fm, rfl⟩ : ∃ m, fm = m + 1 := ⟨fm - 1, by omega⟩
    have hwA : WF T (nx A 16) := by rw [hA]; exact hw
    show ∃ (r : Int32) (A' R' : Mm), m_X4_homesDrawn_B16 (m_X4_homesDrawn_L16 fx) (nI N) z (nI i) A = _ ∧ m_X5_homeDrawn_B9 (m_X5_homeDrawn_L9 fm) (nI N) z (nI i) R = _ ∧ _
    rw [m_X4_homesDrawn_B16, m_X5_homeDrawn_B9, if_pos (nI_le (by omega) (by omega)), if_pos (nI_le (by omega) (by omega)), x3_homes hwA.cv, x5_homeMany hw.mv, bd_s, bd_s, lt1_d, hA]
    exact ⟨_, A, R, rfl, rfl, FV.rf, HV.rf⟩
  | succ k ih =>
    intro i fx fm z A R h1 h2 hi hx hm hw hA
    obtain ⟨fx, rfl⟩ : ∃ m, fx = m + 1 := ⟨fx - 1, by omega⟩
    obtain ⟨fm, rfl⟩ : ∃ m, fm = m + 1 := ⟨fm - 1, by omega⟩
    have hwA : WF T (nx A 16) := by rw [hA]; exact hw
    have cx := hwA.cv
    rw [hA] at cx
    have cm := hw.mv
    have h8 := cm.2.2.2
    show ∃ (r : Int32) (A' R' : Mm), m_X4_homesDrawn_B16 (m_X4_homesDrawn_L16 fx) (nI N) z (nI i) A = _ ∧ m_X5_homeDrawn_B9 (m_X5_homeDrawn_L9 fm) (nI N) z (nI i) R = _ ∧ _
    rw [m_X4_homesDrawn_B16, m_X5_homeDrawn_B9, if_neg (nI_ge (by omega) (by omega)), if_neg (nI_ge (by omega) (by omega)), lt1_d, dec8', gd_t, lt1_d, lt1_d, gd_t, lt1_d, lt1_d, gd_t, lt1_d, lt1_d, gd_t, lt1_d]
    generalize irm (ushr (z * 1103515245 + 12345) 9) 8 = a
    generalize (z * 1103515245 + 12345) * 1103515245 + 12345 = z2
    generalize irm (ushr z2 9) 8 = b
    unfold m_X4_homesDrawn_J86 m_X5_homeDrawn_J81
    have go : ∀ (A1 R1 : Mm), WF T (nm R1) → nx A1 16 = nm R1 → FV 16 A A1 → HV R R1 → ∃ (r : Int32) (A' R' : Mm), (bd (m_X3_passDay 16 A1) fun r2 M1 => lt1 (nI i + 1) fun y3 => m_X4_homesDrawn_L16 fx (nI N) z2 y3 M1) = some (r, A') ∧ (bd (m_X5_passes R1) fun _ M1 => lt1 (nI i + 1) fun y2 => m_X5_homeDrawn_L9 fm (nI N) z2 y2 M1) = bd (m_X5_laysBack R') (fun _ M => some (r, M)) ∧ FV 16 A A' ∧ HV R R' := by
      intro A1 R1 w1 e1 f1 g1
      obtain ⟨A2, a1, a2, a3⟩ := x3_day (M := A1) (v := 16) (by omega) (FV.tx (by omega) hx f1) (by rw [e1]; exact w1)
      obtain ⟨R2, b1, b2, b3⟩ := x5_day (M := R1) (HV.tx hm g1) w1
      rw [a1, b1, bd_s, bd_s, lt1_d, lt1_d, nI_1]
      obtain ⟨r, A', R', c1, c2, c3, c4⟩ := ih (i + 1) fx fm z2 A2 R2 (by omega) (by omega) (by omega) (FV.tx (by omega) hx (f1.tr a3)) (HV.tx hm (g1.tr b3)) (by rw [b2]; exact w1.day) (by rw [a2, b2, e1])
      exact ⟨r, A', R', c1, c2, (f1.tr a3).tr c3, (g1.tr b3).tr c4⟩
    rcases two_R cx cm a b with ⟨d1, d2⟩ | ⟨p, q, p1, q1, rfl, rfl, hpq, d1, d2⟩
    · rw [d1, d2, bd_s, bd_s, if_pos rfl, if_pos rfl]
      exact go A R hw hA FV.rf HV.rf
    · rw [d1, d2, bd_s, bd_s, if_neg one_ne0, if_neg one_ne0, cm.2.2.1]
      by_cases e : vL (nm R) = 8
      · rw [if_pos (show (8 : Int32) ≤ nI (vL (nm R)) from nI_le (a := 8) (by omega) (by omega)), x3_post_full (by rw [← e]; exact cx), bd_s]
        exact go A R hw hA FV.rf HV.rf
      · rw [if_neg (show ¬ (8 : Int32) ≤ nI (vL (nm R)) from nI_ge (b := 8) (by omega) (by omega))]
        obtain ⟨A1, a1, a2, a3⟩ := x3_post (M := A) (v := 16) (p := p) (q := q) (by omega) hx hwA (by rw [hA]; exact p1) (by rw [hA]; exact q1) (by rw [hA]; omega)
        obtain ⟨R1, b1, b2, b3⟩ := x5_sends (p := p) (q := q) hm hw p1 q1 (by omega)
        rw [a1, b1, bd_s, bd_s]
        exact go A1 R1 (by rw [b2]; exact hw.pst p1 q1 (by omega)) (by rw [a2, b2, hA]) a3 b3.hv
theorem drw_R {T N : Nat} {tx : Tx} {Mx Mr : Mm} (z : Int32) (hN : N < 1000) (hR : Rest T tx Mx Mr) (hV : RelV T Mx Mr) : ∃ (r : Int32) (A R : Mm), m_X4_homesDrawn z (nI N) Mx = some (r, A) ∧ m_X5_homeDrawn z (nI N) Mr = some (r, R) ∧ FV 16 Mx A ∧ KR Mr R := by
  obtain ⟨v1, v2, v3, hdd⟩ := id hV
  have hw : WF T (nx Mx 7) := by rw [v1]; exact v2
  obtain ⟨A1, a1, a2, a3⟩ := x3_take (M := Mx) (v := 16) (w := 7) (by omega) (by omega) hw
  rw [v1, keep0 v3] at a2
  obtain ⟨R1, c0, ca⟩ := x5_aside Mr
  have n1 : nm R1 = nm Mr := aside_nm ca.2.2.2
  obtain ⟨r, A', R', b1, b2, b3, b4⟩ := drw_L (T := T) (N := N) (tx := tx) hN N 0 FU FU z A1 R1 (by unfold FU; omega) (by unfold FU; omega) (by omega) (FV.tx (by omega) hR.1.1 a3) (aside_tx hR.1.2 ca.2.2.2) (by rw [n1]; exact v2) (by rw [n1]; exact a2)
  obtain ⟨R3, f0, fc⟩ := x5_back R'
  refine ⟨r, A', R3, ?_, ?_, a3.tr b3, x5_between ca b4 fc⟩
  · unfold m_X4_homesDrawn
    rw [nI_0] at b1
    rw [a1, bd_s, lt1_d, lt1_d, b1]
  · unfold m_X5_homeDrawn
    rw [nI_0] at b2
    rw [c0, bd_s, lt1_d, lt1_d, b2, f0, bd_s]
theorem call_drawn {Mx Mr : Mm} (h : Rel Mx Mr) (x y : Int32) : Ans (m_X4_drawn x y Mx) (m_X5_drawn x y Mr) := by
  obtain ⟨T, tx, hR, hV⟩ := id h
  unfold m_X4_drawn m_X5_drawn m_X4_drawn_J10
  rcases ix_cases y 41 (by omega) with q | ⟨N, N1, rfl⟩
  · rw [x5_in_out (n := 41) (b := 40) (by decide) (by omega) q, bd_s, if_pos rfl]
    rcases rg_out (n := 40) (by omega) q with q | ⟨q1, q2, q3⟩
    · rw [if_pos q]
      exact ⟨_, _, _, rfl, rfl, h⟩
    · rw [if_neg q1, if_neg (show ¬ y ≤ (40 : Int32) from q2)]
      exact ⟨_, _, _, rfl, rfl, h⟩
  have rn := rg_in (n := 40) N1 (by omega)
  rw [x5_in_in (n := 40) (b := 40) (by decide) (by omega) (by omega), bd_s, if_neg one_ne0, if_neg rn.1, if_pos (show nI N ≤ (40 : Int32) from rn.2.1)]
  obtain ⟨r, A, R, a, b, c, d⟩ := drw_R x (N := N) (by omega) hR hV
  rw [a, b, bd_s, bd_s]
  exact ⟨_, _, _, rfl, rfl, T, tx, hR.keep (c.xk (Or.inr rfl)) d.rk, hV.thought c d⟩
