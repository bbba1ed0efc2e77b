/-! the call live -/
theorem nm_ext {R R' : Mm} {T : Nat} (hw : WF T (nm R)) (h0 : ∀ j, j < 14 → R' 0 j = R 0 j) (h4 : ∀ j, j < 15 → R' 4 j = R 4 j) (h5 : ∀ j, j < 40 → R' 5 j = R 5 j) : nm R' = nm R := by
  have hc := hw.mv
  have p5 := hc.2.1
  have h8 := hc.2.2.2
  have e0 : ∀ j, vm R' 0 j = vm R 0 j := by
    intro j
    unfold vm
    simp only []
    split <;> first | rfl | exact h0 _ (by omega)
  have eP : vP (vm R') = vP (vm R) := by unfold vP; rw [e0]
  have eL : vL (vm R') = vL (vm R) := by unfold vL; rw [e0]
  have q : vL (vm R) ≤ 8 := by rw [nm, nrm_L] at h8; exact h8
  have qp : vP (vm R) ≤ 5 := by rw [nm, nrm_P] at p5; exact p5
  funext i j
  show nrm (vm R') i j = nrm (vm R) i j
  unfold nrm
  rw [eP, eL]
  match i with
  | 0 => rw [if_pos rfl, if_pos rfl, e0]
  | 1 =>
    by_cases hj : j < vP (vm R)
    · rw [show vm R' 1 j = vm R 1 j from h4 _ (by omega), e0]
    · simp [hj]
  | 2 =>
    by_cases hj : j < vP (vm R)
    · rw [show vm R' 2 j = vm R 2 j from h4 _ (by omega), e0]
    · simp [hj]
  | 3 =>
    by_cases hj : j < vP (vm R)
    · rw [show vm R' 3 j = vm R 3 j from h4 _ (by omega), e0]
    · simp [hj]
  | 4 =>
    by_cases hj : j < vL (vm R)
    · rw [show vm R' 4 j = vm R 4 j from h5 _ (by omega), e0]
    · simp [hj]
  | 5 =>
    by_cases hj : j < vL (vm R)
    · rw [show vm R' 5 j = vm R 5 j from h5 _ (by omega), e0]
    · simp [hj]
  | 6 =>
    by_cases hj : j < vL (vm R)
    · rw [show vm R' 6 j = vm R 6 j from h5 _ (by omega), e0]
    · simp [hj]
  | 7 =>
    by_cases hj : j < vL (vm R)
    · rw [show vm R' 7 j = vm R 7 j from h5 _ (by omega), e0]
    · simp [hj]
  | 8 =>
    by_cases hj : j < vL (vm R)
    · rw [show vm R' 8 j = vm R 8 j from h5 _ (by omega), e0]
    · simp [hj]
  | n + 9 => rw [e0]; simp [show ¬ n + 9 ≤ 3 by omega, show ¬ n + 9 ≤ 8 by omega]
theorem x5_hm_L {s : Vs} {T : Nat} {x1 x2 : Int32} (hw : WF T s) : ∀ (k h c fu : Nat) (R : Mm), k < fu → h + k = 8 → nm R = s → c + (hsA s k h).length ≤ 5 → ∃ R1, m_X5_live_L30 fu x1 x2 (nI c) (nI h) R = m_X5_live_L67 FU x1 x2 0 R1 ∧ (∀ q, q ≠ 7 → R1 q = R q) ∧ (∀ j, j < c → R1 7 j = R 7 j) ∧ ∀ i, i < (hsA s k h).length → R1 7 (c + i) = nI ((hsA s k h).getD i 0) := by
  intro k
  induction k with
  | zero =>
    intro h c fu R hf hh hn hc
    obtain ⟨fu, rfl⟩ : ∃ m, fu = m + 1 := ⟨fu - 1, by omega⟩
    refine ⟨R, ?_, fun _ _ => rfl, fun _ _ => rfl, fun i hi => absurd hi (by simp [hsA])⟩
    show m_X5_live_B30 (m_X5_live_L30 fu) x1 x2 (nI c) (nI h) R = _
    rw [m_X5_live_B30, if_pos (show (8 : Int32) ≤ nI h from nI_le (a := 8) (by omega) (by omega)), lt1_d]
  | succ k ih =>
    intro h c fu R hf hh hn hc
    obtain ⟨fu, rfl⟩ : ∃ m, fu = m + 1 := ⟨fu - 1, by omega⟩
    have hwr : WF T (nm R) := by rw [hn]; exact hw
    unfold hsA at hc ⊢
    have e0 : m_X5_live_L30 (fu + 1) x1 x2 (nI c) (nI h) R = m_X5_live_B30 (m_X5_live_L30 fu) x1 x2 (nI c) (nI h) R := rfl
    rw [e0, m_X5_live_B30, if_neg (show ¬ (8 : Int32) ≤ nI h from nI_ge (b := 8) (by omega) (by omega)), x5_whoIn hwr.mv hwr.2.2.2.1, bd_s, hn]
    by_cases e : whoS s (nI h) = -1
    · rw [if_pos e] at hc ⊢
      rw [if_pos e, m_X5_live_J58, lt1_d, nI_1]
      exact ih (h + 1) c fu R (by omega) (by omega) hn hc
    · rw [if_neg e] at hc ⊢
      simp only [List.length_cons] at hc
      have q7 : ∀ q, q ≠ 7 → up R 7 c (nI h) q = R q := fun q hq => by funext z; exact up_k hq
      have hn' : nm (up R 7 c (nI h)) = s := by rw [← hn]; exact nm_cong (q7 0 (by decide)) (q7 4 (by decide)) (q7 5 (by decide))
      obtain ⟨R1, a1, a2, a3, a4⟩ := ih (h + 1) (c + 1) fu (up R 7 c (nI h)) (by omega) (by omega) hn' (by omega)
      rw [if_neg e, inr_n (by omega) (by omega), gd_t, nI_clamp (by omega), lt1_d, lt1_d, nI_1, m_X5_live_J58, lt1_d, nI_1]
      refine ⟨R1, a1, fun q hq => by rw [a2 q hq, q7 q hq], fun j hj => by rw [a3 j (by omega), up_j (by omega)], fun i hi => ?_⟩
      simp only [List.length_cons] at hi
      by_cases z : i = 0
      · subst z
        rw [Nat.add_zero, a3 c (by omega), up_s]
        rfl
      · obtain ⟨i, rfl⟩ : ∃ m, i = m + 1 := ⟨i - 1, by omega⟩
        have := a4 i (by omega)
        rw [show c + 1 + i = c + (i + 1) by omega] at this
        exact this
theorem x5_67 {x1 x2 : Int32} : ∀ (k i fu : Nat) (R : Mm), k < fu → i + k = 15 → ∃ R1, m_X5_live_L67 fu x1 x2 (nI i) R = m_X5_live_L100 FU x1 x2 1 0 R1 ∧ (∀ q, q ≠ 9 → R1 q = R q) ∧ (∀ j, i ≤ j → j < 15 → R1 9 j = R 4 j) ∧ ∀ j, j < i → R1 9 j = R 9 j := by
  intro k
  induction k with
  | zero =>
    intro i fu R hf hi
    obtain ⟨fu, rfl⟩ : ∃ m, fu = m + 1 := ⟨fu - 1, by omega⟩
    refine ⟨R, ?_, fun _ _ => rfl, fun j h1 h2 => by omega, fun _ _ => rfl⟩
    show m_X5_live_B67 (m_X5_live_L67 fu) x1 x2 (nI i) R = _
    rw [m_X5_live_B67, if_pos (show (15 : Int32) ≤ nI i from nI_le (a := 15) (by omega) (by omega)), lt1_d, lt1_d]
  | succ k ih =>
    intro i fu R hf hi
    obtain ⟨fu, rfl⟩ : ∃ m, fu = m + 1 := ⟨fu - 1, by omega⟩
    obtain ⟨R1, a1, a2, a3, a4⟩ := ih (i + 1) fu (up R 9 i (R 4 i)) (by omega) (by omega)
    refine ⟨R1, ?_, fun q hq => by rw [a2 q hq]; funext z; exact up_k hq, fun j h1 h2 => ?_, fun j hj => by rw [a4 j (by omega), up_j (by omega)]⟩
    · show m_X5_live_B67 (m_X5_live_L67 fu) x1 x2 (nI i) R = _
      rw [m_X5_live_B67, if_neg (show ¬ (15 : Int32) ≤ nI i from nI_ge (b := 15) (by omega) (by omega)), inr_n (by omega) (by omega), gd_t, gd_t, nI_clamp (by omega), lt1_d, lt1_d, nI_1]
      exact a1
    · by_cases e : j = i
      · subst e; rw [a4 j (by omega), up_s]
      · rw [a3 j (by omega) h2, up_k (by decide)]
theorem x5_221 {x2 x5 x6 : Int32} : ∀ (k i fu : Nat) (R : Mm), k < fu → i + k = 15 → ∃ R1, m_X5_live_L221 fu x2 x5 x6 (nI i) R = (if x2 = 0 then some (x5, R1) else some (x6, R1)) ∧ (∀ q, q ≠ 4 → R1 q = R q) ∧ (∀ j, i ≤ j → j < 15 → R1 4 j = R 9 j) ∧ ∀ j, j < i → R1 4 j = R 4 j := by
  intro k
  induction k with
  | zero =>
    intro i fu R hf hi
    obtain ⟨fu, rfl⟩ : ∃ m, fu = m + 1 := ⟨fu - 1, by omega⟩
    refine ⟨R, ?_, fun _ _ => rfl, fun j h1 h2 => by omega, fun _ _ => rfl⟩
    show m_X5_live_B221 (m_X5_live_L221 fu) x2 x5 x6 (nI i) R = _
    rw [m_X5_live_B221, if_pos (show (15 : Int32) ≤ nI i from nI_le (a := 15) (by omega) (by omega))]
  | succ k ih =>
    intro i fu R hf hi
    obtain ⟨fu, rfl⟩ : ∃ m, fu = m + 1 := ⟨fu - 1, by omega⟩
    obtain ⟨R1, a1, a2, a3, a4⟩ := ih (i + 1) fu (up R 4 i (R 9 i)) (by omega) (by omega)
    refine ⟨R1, ?_, fun q hq => by rw [a2 q hq]; funext z; exact up_k hq, fun j h1 h2 => ?_, fun j hj => by rw [a4 j (by omega), up_j (by omega)]⟩
    · show m_X5_live_B221 (m_X5_live_L221 fu) x2 x5 x6 (nI i) R = _
      rw [m_X5_live_B221, if_neg (show ¬ (15 : Int32) ≤ nI i from nI_ge (b := 15) (by omega) (by omega)), inr_n (by omega) (by omega), gd_t, gd_t, nI_clamp (by omega), lt1_d, lt1_d, nI_1]
      exact a1
    · by_cases e : j = i
      · subst e; rw [a4 j (by omega), up_s]
      · rw [a3 j (by omega) h2, up_k (by decide)]
theorem x5_100 {P : Nat} {x1 x2 : Int32} (hP : P ≤ 5) {R : Mm} (h10 : R 0 10 = nI P) : ∀ (k i fu : Nat), k < fu → i + k = P → m_X5_live_L100 fu x1 x2 (nI (P ^ i)) (nI i) R = m_X5_live_L133 FU x1 x2 (nI (P ^ P)) 0 (-1) 0 R := by
  intro k
  induction k with
  | zero =>
    intro i fu hf hi
    obtain ⟨fu, rfl⟩ : ∃ m, fu = m + 1 := ⟨fu - 1, by omega⟩
    have : i = P := by omega
    subst this
    show m_X5_live_B100 (m_X5_live_L100 fu) x1 x2 (nI (i ^ i)) (nI i) R = _
    rw [m_X5_live_B100, h10, if_pos (nI_le (by omega) (by omega)), lt1_d, lt1_d, lt1_d]
  | succ k ih =>
    intro i fu hf hi
    obtain ⟨fu, rfl⟩ : ∃ m, fu = m + 1 := ⟨fu - 1, by omega⟩
    show m_X5_live_B100 (m_X5_live_L100 fu) x1 x2 (nI (P ^ i)) (nI i) R = _
    rw [m_X5_live_B100, h10, if_neg (nI_ge (by omega) (by omega)), pk_mul, ← Nat.pow_succ, lt1_d, lt1_d, nI_1]
    exact ih (i + 1) fu (by omega) (by omega)
theorem x5_157 {P L : Nat} {n133 : Int32 → Int32 → Int32 → Int32 → Int32 → Int32 → Mm → Option (Int32 × Mm)} {x1 x2 x4 x5 x6 x7 x8 : Int32} {g : Nat → Int32} : ∀ (k p fu : Nat) (R : Mm), k < fu → p + k = P → MV R P L → (∀ i, i < P → R 8 i = g i) → ∃ R1, m_X5_live_L157 n133 fu x1 x2 x4 x5 x6 x7 x8 (nI p) R = (bd (m_X5_homeBehind x1 R1) fun r5 M4 => lt1 r5 fun y6 => if y6 ≤ x6 then (m_X5_live_J212 n133 x1 x2 x4 x5 x6 x7 M4) else (lt1 x8 fun y7 => lt1 y6 fun y8 => m_X5_live_J212 n133 x1 x2 x4 y7 y8 x7 M4)) ∧ nm R1 = mvA g k p (nm R) ∧ ∀ q, q ≠ 4 → R1 q = R q := by
  intro k
  induction k with
  | zero =>
    intro p fu R hf hp hc hg
    have h5 := hc.2.1
    obtain ⟨fu, rfl⟩ : ∃ m, fu = m + 1 := ⟨fu - 1, by omega⟩
    refine ⟨R, ?_, rfl, fun _ _ => rfl⟩
    show m_X5_live_B157 n133 (m_X5_live_L157 n133 fu) x1 x2 x4 x5 x6 x7 x8 (nI p) R = _
    rw [m_X5_live_B157, hc.1, if_pos (nI_le (by omega) (by omega))]
  | succ k ih =>
    intro p fu R hf hp hc hg
    have h5 := hc.2.1
    obtain ⟨fu, rfl⟩ : ∃ m, fu = m + 1 := ⟨fu - 1, by omega⟩
    obtain ⟨R1, a1, a2, a3⟩ := ih (p + 1) fu (up R 4 (3 * p + 2) (g p)) (by omega) (by omega) (mv_upr hc) (fun i hi => by rw [up_k (by decide)]; exact hg i hi)
    refine ⟨R1, ?_, ?_, fun q hq => by rw [a3 q hq]; funext z; exact up_k hq⟩
    · show m_X5_live_B157 n133 (m_X5_live_L157 n133 fu) x1 x2 x4 x5 x6 x7 x8 (nI p) R = _
      rw [m_X5_live_B157, hc.1, if_neg (nI_ge (by omega) (by omega)), inr_n (by omega) (by omega), gd_t, pl3, pla2, inr_n (by omega) (by omega), gd_t, nI_clamp (by omega), nI_clamp (by omega), hg p (by omega), lt1_d, lt1_d, nI_1]
      exact a1
    · rw [a2]
      show _ = mvA g k (p + 1) (up (nm R) 3 p (g p))
      rw [nm_upr (c := 2) (r := 3) hc (by omega) (by omega)]
theorem ok_at {P w : Nat} (hP : P < 6) (h0 : 0 < P) (hw : w < P ^ P) : okF P w = true := by
  by_cases e : P = 5
  · subst e
    have h5 : w < 3125 := hw
    have := ok_5 (w / 125) (by omega) (w % 125 / 5) (by omega) (w % 5) (by omega)
    rw [show 125 * (w / 125) + 5 * (w % 125 / 5) + w % 5 = w by omega] at this
    exact this
  · exact ok_4 P (by omega) h0 w hw
theorem vd_is {P w : Nat} : vdF P w = true ↔ ∀ p, p < P → ∀ q, q < P → vcF P w p = vcF P w q → p = q := by
  unfold vdF
  exact decide_eq_true_iff
theorem vc_lt {P w p : Nat} (h : p < P) : vcF P w p < P := Nat.mod_lt _ (by omega)
/-- from a way to the next -/
theorem x4_step {P w k : Nat} {s : Vs} {T : Nat} (hP : P ≤ 5) (hw : WF T s) (hs : vP s = P) (hk : w + 1 + k = P ^ P) (hv : vdF P w = true) {A : Mm} (h7 : A 7 4 = nI P) (ha : ∀ i, i < P → A 34 i = nI (HH s (vcF P w i))) : ∃ b A', m_X4_nextWay A = some (b, A') ∧ (∀ q, q ≠ 34 → A' q = A q) ∧ (nvF P k (w + 1) < P ^ P → b = 1 ∧ ∀ i, i < P → A' 34 i = nI (HH s (vcF P (nvF P k (w + 1)) i))) ∧ (nvF P k (w + 1) = P ^ P → b = 0) := by
  by_cases h0 : P = 0
  · subst h0
    have k0 : k = 0 := by
      have : (0 : Nat) ^ 0 = 1 := rfl
      omega
    have w0 : w = 0 := by
      have : (0 : Nat) ^ 0 = 1 := rfl
      omega
    subst k0 w0
    refine ⟨0, A, ?_, fun _ _ => rfl, fun q => absurd q (by decide), fun _ => rfl⟩
    obtain ⟨f, hf⟩ := FU_s
    unfold m_X4_nextWay
    rw [h7, show mmin (nI 0) 5 = 0 by decide, lt1_d, lt1_d, hf]
    show m_X4_nextWay_B20 (m_X4_nextWay_L20 f) 0 (0 - 2) A = _
    rw [m_X4_nextWay_B20, if_pos (show (0 : Int32) - 2 < 0 by decide), m_X4_nextWay_J47, if_neg (show ¬ (0 : Int32) ≤ 0 - 2 by decide)]
  · have hl : (hsA s 8 0).length = P := by rw [HH_len hw, hs]
    have ok := ok_at (P := P) (w := w) (by omega) (by omega) (by omega)
    unfold okF at ok
    rw [if_pos hv, show P ^ P - (w + 1) = k by omega] at ok
    rcases x4_next (P := P) hP (by omega) (h := HH s) (g := vcF P w) (fun i j hi hj => HH_iff (by rw [hl]; exact vc_lt hi) (by rw [hl]; exact vc_lt hj)) (fun i => HH_8 i) h7 ha with ⟨n1, n2⟩ | ⟨g', A', n1, n2, n3, n4⟩
    · rw [n1] at ok
      have q := of_decide_eq_true ok
      exact ⟨0, A, n2, fun _ _ => rfl, fun z => by omega, fun _ => rfl⟩
    · rw [n1] at ok
      simp only [Bool.and_eq_true, decide_eq_true_eq] at ok
      refine ⟨1, A', n2, n4, fun _ => ⟨rfl, fun i hi => ?_⟩, fun z => by omega⟩
      rw [n3 i hi, ok.2 i hi]
/-- the reference's memory while it goes through the ways -/
def LRm (Mr R : Mm) (s : Vs) : Prop := (∀ k, k = 1 ∨ k = 2 ∨ k = 3 ∨ 10 ≤ k → R k = Mr k) ∧ (∀ j, j < 14 ∨ 28 < j → R 0 j = Mr 0 j) ∧ (∀ j, j < 40 → R 5 j = Mr 5 j) ∧ (∀ j, j < 15 → R 9 j = Mr 4 j) ∧ (∀ i, i < vP s → R 7 i = nI (HH s i)) ∧ ∃ g, nm R = hsS s g
theorem LRm.rk {Mr R : Mm} {s : Vs} (h : LRm Mr R s) : RK Mr R := ⟨h.1, fun j hj => h.2.1 j (by omega)⟩
theorem live_L {T N P : Nat} {tx : Tx} {s : Vs} {x2 : Int32} {Mx Mr : Mm} (hN : N < 1000) (hw : WF T s) (s6 : s 0 6 = 0) (hP : vP s = P) (hx : TXx Mx T tx) (hm : TXm Mr T tx) : ∀ (k way fx fm t : Nat) (best most more : Int32) (A R : Mm), way + k = P ^ P → cvF P k way < fx → k < fm → t + cvF P k way ≤ 120 → XK Mx A → nx A 7 = s → (nvF P k way < P ^ P → more = 1 ∧ ∀ i, i < P → A 34 i = nI (HH s (vcF P (nvF P k way) i))) → (nvF P k way = P ^ P → more = 0) → LRm Mr R s → ∃ (b m : Int32) (A' R' : Mm), m_X4_live_L37 fx (nI N) x2 best most more (nI t) A = m_X4_live_J109 x2 b m A' ∧ m_X5_live_L133 fm (nI N) x2 (nI (P ^ P)) best most (nI way) R = m_X5_live_L221 FU x2 b m 0 R' ∧ XK Mx A' ∧ nx A' 7 = s ∧ LRm Mr R' s := by
  have h5 : P ≤ 5 := by rw [← hP]; exact hw.1.2.1
  have hl : (hsA s 8 0).length = P := by rw [HH_len hw, hP]
  have pp : P ^ P ≤ 3125 := by
    rcases (show P = 0 ∨ P = 1 ∨ P = 2 ∨ P = 3 ∨ P = 4 ∨ P = 5 by omega) with rfl | rfl | rfl | rfl | rfl | rfl <;> decide
  intro k
  induction k with
  | zero =>
    intro way fx fm t best most more A R hk hf1 hf2 ht xk h7 c1 c2 lr
    obtain ⟨fx, rfl⟩ : ∃ z, fx = z + 1 := ⟨fx - 1, by omega⟩
    obtain ⟨fm, rfl⟩ : ∃ z, fm = z + 1 := ⟨fm - 1, by omega⟩
    have e : way = P ^ P := by omega
    have m0 := c2 e
    subst m0
    refine ⟨best, most, A, R, ?_, ?_, xk, h7, lr⟩
    · show m_X4_live_B37 (m_X4_live_L37 fx) (nI N) x2 best most 0 (nI t) A = _
      rw [m_X4_live_B37, if_pos (rfl : (0 : Int32) = 0)]
      split <;> rfl
    · show m_X5_live_B133 (m_X5_live_L133 fm) (nI N) x2 (nI (P ^ P)) best most (nI way) R = _
      rw [m_X5_live_B133, if_pos (nI_le (by omega) (by omega)), lt1_d]
  | succ k ih =>
    intro way fx fm t best most more A R hk hf1 hf2 ht xk h7 c1 c2 lr
    obtain ⟨fm, rfl⟩ : ∃ z, fm = z + 1 := ⟨fm - 1, by omega⟩
    obtain ⟨l1, l2, l3, l4, l5, g0, l6⟩ := id lr
    have wr : WF T (nx A 7) := by rw [h7]; exact hw
    have mvs : MV R P (vL s) := by
      have a1 := nm_0 (M := R)
      refine ⟨?_, h5, ?_, hw.1.2.2.2⟩
      · rw [← a1.2.2.2.1, l6]
        show s 0 4 = nI P
        rw [hw.1.1, hP]
      · rw [← a1.2.2.2.2.1, l6]
        exact hw.1.2.2.1
    -- the reference's way
    have h8 : ∀ p, HH s (vcF P way p) < 8 := fun p => HH_8 _
    obtain ⟨R1, b1, b2, b3, b4⟩ := x5_L15 (P := P) (w := way) h5 (by omega) (h := HH s) (x2 := 0) (x3 := 0) P FU R (by unfold FU; omega) (Nat.le_refl _) mvs.1 (fun i hi => l5 i (by omega))
    rw [Nat.sub_self, Nat.pow_zero, Nat.div_one] at b1
    have b5 := x5_L57 h5 (h := fun p => HH s (vcF P way p)) h8 (R := R1) (by rw [b4 0 (by decide)]; exact mvs.1) b2 P 0 FU 0 0 (by unfold FU; omega) (by omega) (by omega)
    rw [nI_0] at b5
    have ew : m_X5_wayOf (nI way) R = some (if pcN (usA (fun p => HH s (vcF P way p)) P 0 0) = P then nI (dgA (fun p => HH s (vcF P way p)) P 0 0) else -1, R1) := by
      unfold m_X5_wayOf
      rw [lt1_d, lt1_d, lt1_d, mvs.1, lt1_d, b1, b5]
    have evd : pcN (usA (fun p => HH s (vcF P way p)) P 0 0) = P ↔ vdF P way = true := by
      have q := us_iff (h := fun p => HH s (vcF P way p)) h8 P 0 0 (by omega)
      rw [show pcN 0 + P = P by rw [show pcN 0 = 0 by decide, Nat.zero_add]] at q
      rw [q, vd_is]
      constructor
      · rintro ⟨-, q2⟩ p hp r hr e
        rcases Nat.lt_trichotomy p r with z | z | z
        · exact absurd (congrArg (HH s) e) (q2 p r (by omega) z (by omega))
        · exact z
        · exact absurd (congrArg (HH s) e.symm) (q2 r p (by omega) z (by omega))
      · intro q2
        refine ⟨fun q _ _ => Nat.zero_testBit _, fun q r _ h1 h2 e => ?_⟩
        have := q2 q (by omega) r (by omega) (HH_inj (by rw [hl]; exact vc_lt (by omega)) (by rw [hl]; exact vc_lt (by omega)) e)
        omega
    have lr1 : LRm Mr R1 s := ⟨fun q hq => by rw [b4 q (by omega)]; exact l1 q hq, fun j hj => by rw [b4 0 (by decide)]; exact l2 j hj, fun j hj => by rw [b4 5 (by decide)]; exact l3 j hj, fun j hj => by rw [b4 9 (by decide)]; exact l4 j hj, fun i hi => by rw [b4 7 (by decide)]; exact l5 i hi, g0, by rw [← l6]; exact nm_cong (b4 0 (by decide)) (b4 4 (by decide)) (b4 5 (by decide))⟩
    have em0 : m_X5_live_L133 (fm + 1) (nI N) x2 (nI (P ^ P)) best most (nI way) R = m_X5_live_B133 (m_X5_live_L133 fm) (nI N) x2 (nI (P ^ P)) best most (nI way) R := rfl
    rw [em0, m_X5_live_B133, if_neg (nI_ge (by omega) (by omega)), ew, bd_s, lt1_d]
    by_cases hv : vdF P way = true
    · -- a way
      have nv : nvF P (k + 1) way = way := by unfold nvF; rw [if_pos hv]
      have cv : cvF P (k + 1) way = cvF P k (way + 1) + 1 := by
        show (if vdF P way = true then cvF P k (way + 1) + 1 else cvF P k (way + 1)) = _
        rw [if_pos hv]
      rw [nv] at c1
      rw [cv] at hf1 ht
      obtain ⟨m1, ha⟩ := c1 (by omega)
      subst m1
      obtain ⟨fx, rfl⟩ : ∃ z, fx = z + 1 := ⟨fx - 1, by omega⟩
      -- the houses by it
      have hv2 := vd_is.mp hv
      have wsy : WF T (hsS s (fun p => nI (HH s (vcF P way p)))) := WF.way hw (fun p hp => by rw [hP] at hp ⊢; exact vc_lt hp) (fun p q hp hq e => hv2 p (by omega) q (by omega) e)
      -- the class
      have xt : TXx A T tx := xk.tx hx
      obtain ⟨A1, d1, d2, d3⟩ := x3_take (M := A) (v := 16) (w := 7) (by omega) (by omega) wr
      rw [h7, keep0 s6] at d2
      have A17 : nx A1 7 = s := by rw [d3.nxe (by omega) (by omega)]; exact h7
      have c16 : CV A1 16 P (vL s) := by
        have := (show WF T (nx A1 16) by rw [d2]; exact hw).cv
        rw [d2, hP] at this
        exact this
      have A174 : A1 7 4 = nI P := by
        have := (show WF T (nx A1 7) by rw [A17]; exact hw).cv.1
        rw [A17, hP] at this
        exact this
      have A134 : ∀ i, i < P → A1 34 i = nI (HH s (vcF P way i)) := fun i hi => by rw [d3.1 34 (by decide) (by decide) (by omega)]; exact ha i hi
      obtain ⟨A2, e1, e2, e3⟩ := x4_mv_L (g := fun i => nI (HH s (vcF P way i))) P 0 FU A1 (by unfold FU; omega) (by omega) A174 c16 A134
      have hmv : mvA (fun i => nI (HH s (vcF P way i))) P 0 s = hsS s (fun p => nI (HH s (vcF P way p))) := by
        have := mvA_hs (g := fun i => nI (HH s (vcF P way i))) (g' := s 3) (s := s)
        rw [hsS_self, hP] at this
        exact this
      rw [d2, hmv] at e2
      obtain ⟨A3, f1, f2, f3⟩ := x3_days (M := A2) (v := 16) (N := N) (by omega) hN (FV.tx (by omega) xt (d3.tr e3)) (by rw [e2]; exact wsy)
      rw [e2] at f2
      have w3 : WF T (nx A3 16) := by rw [f2]; exact wsy.days N _
      have fv : FV 16 A A3 := (d3.tr e3).tr f3
      have A37 : nx A3 7 = s := by rw [fv.nxe (by omega) (by omega)]; exact h7
      have A374 : A3 7 4 = nI P := by
        have := (show WF T (nx A3 7) by rw [A37]; exact hw).cv.1
        rw [A37, hP] at this
        exact this
      have A334 : ∀ i, i < P → A3 34 i = nI (HH s (vcF P way i)) := fun i hi => by rw [fv.1 34 (by decide) (by decide) (by omega)]; exact ha i hi
      obtain ⟨mb, A4, n1, n2, n3, n4⟩ := x4_step (k := k) (w := way) h5 hw hP (by omega) hv A374 A334
      have xk4 : XK Mx A4 := by
        have x3 : XK A A3 := fv.xk (Or.inr rfl)
        refine xk.tr (x3.tr ⟨fun q hq => n2 q (by omega), fun j _ => by rw [n2 1 (by decide)]⟩)
      have A47 : nx A4 7 = s := by rw [← A37]; exact nx_cong (fun i hi => n2 _ (by omega))
      have dg : m_X4_digitsOfWay A3 = some (nI (dgA (fun p => HH s (vcF P way p)) P 0 0), A3) := by
        have := x4_dg_L h5 (h := fun p => HH s (vcF P way p)) P 0 FU 0 A3 (by unfold FU; omega) (by omega) A374 A334
        unfold m_X4_digitsOfWay
        rw [lt1_d, lt1_d]
        rw [nI_0] at this
        exact this
      -- the reference
      obtain ⟨R2, r1, r2, r3⟩ := x5_157 (n133 := m_X5_live_L133 fm) (x1 := nI N) (x2 := x2) (x4 := nI (P ^ P)) (x5 := best) (x6 := most) (x7 := nI way) (x8 := nI (dgA (fun p => HH s (vcF P way p)) P 0 0)) (g := fun i => nI (HH s (vcF P way i))) P 0 FU R1 (by unfold FU; omega) (by omega) (show MV R1 P (vL s) by unfold MV; rw [b4 0 (by decide)]; exact mvs) b2
      have hR1 : nm R1 = hsS s g0 := lr1.2.2.2.2.2.elim (fun g hg => by rw [← l6]; exact nm_cong (b4 0 (by decide)) (b4 4 (by decide)) (b4 5 (by decide)))
      have nR2 : nm R2 = hsS s (fun p => nI (HH s (vcF P way p))) := by
        rw [r2, hR1]
        have := mvA_hs (g := fun i => nI (HH s (vcF P way i))) (g' := g0) (s := s)
        rw [hP] at this
        exact this
      have rk2 : RK Mr R2 := ⟨fun q hq => by rw [r3 q (by omega)]; exact lr1.1 q hq, fun j hj => by rw [r3 0 (by decide)]; exact lr1.2.1 j (by omega)⟩
      obtain ⟨R3, u1, u2⟩ := x5_homeBehind (M := R2) (N := N) hN (rk2.tx hm) (by rw [nR2]; exact wsy)
      rw [nR2] at u1
      have nR3 : nm R3 = hsS s (fun p => nI (HH s (vcF P way p))) := by
        rw [u2.nme (T := T) (by rw [nR2]; exact wsy), nR2]
      have lr3 : LRm Mr R3 s := ⟨fun q hq => by rw [u2.1 q (by omega) (by omega) (by omega), r3 q (by omega)]; exact lr1.1 q hq, fun j hj => by rw [u2.2.1 j hj, r3 0 (by decide)]; exact lr1.2.1 j hj, fun j hj => by rw [u2.2.2 j hj, r3 5 (by decide)]; exact lr1.2.2.1 j hj, fun j hj => by rw [u2.1 9 (by decide) (by decide) (by decide), r3 9 (by decide)]; exact lr1.2.2.2.1 j hj, fun i hi => by rw [u2.1 7 (by decide) (by decide) (by decide), r3 7 (by decide)]; exact lr1.2.2.2.2.1 i hi, _, nR3⟩
      have dlt := dgA_lt (h := fun p => HH s (vcF P way p)) h8 h5
      rw [if_pos (evd.mpr hv), if_neg (nI_m1 (by omega)), lt1_d, ← nI_0, r1, u1, bd_s, lt1_d]
      have ec0 : m_X4_live_L37 (fx + 1) (nI N) x2 best most 1 (nI t) A = m_X4_live_B37 (m_X4_live_L37 fx) (nI N) x2 best most 1 (nI t) A := rfl
      have emb : m_X4_moveByWay A1 = some ((), A2) := by
        unfold m_X4_moveByWay
        rw [lt1_d, ← nI_0, e1]
      rw [ec0, m_X4_live_B37, if_neg (show ¬ (120 : Int32) ≤ nI t from nI_ge (b := 120) (by omega) (by omega)), if_neg one_ne0, d1, bd_s, emb, bd_s, f1, bd_s, x3_homes w3.cv, bd_s, lt1_d, f2]
      unfold m_X4_live_J97 m_X5_live_J212
      by_cases hb : homS (daysS tx N (hsS s (fun p => nI (HH s (vcF P way p))))) ≤ most
      · rw [if_pos hb, if_pos hb, n1, bd_s, lt1_d, lt1_d, lt1_d, nI_1, nI_1, nI_0]
        exact ih (way + 1) fx fm (t + 1) best most mb A4 R3 (by omega) (by omega) (by omega) (by omega) xk4 A47 n3 n4 lr3
      · rw [if_neg hb, if_neg hb, lt1_d, lt1_d, lt1_d, dg, bd_s, lt1_d, n1, bd_s, lt1_d, lt1_d, lt1_d, nI_1, nI_1, nI_0]
        exact ih (way + 1) fx fm (t + 1) _ _ mb A4 R3 (by omega) (by omega) (by omega) (by omega) xk4 A47 n3 n4 lr3
    · -- none
      have nv : nvF P (k + 1) way = nvF P k (way + 1) := by
        show (if vdF P way = true then way else nvF P k (way + 1)) = _
        rw [if_neg hv]
      have cv : cvF P (k + 1) way = cvF P k (way + 1) := by
        show (if vdF P way = true then cvF P k (way + 1) + 1 else cvF P k (way + 1)) = _
        rw [if_neg hv]
      rw [nv] at c1 c2
      rw [cv] at hf1 ht
      rw [if_neg (fun q => hv (evd.mp q)), if_pos rfl, m_X5_live_J212, lt1_d, nI_1]
      exact ih (way + 1) fx fm t best most more A R1 (by omega) hf1 (by omega) ht xk h7 c1 c2 lr1
theorem call_live {Mx Mr : Mm} (h : Rel Mx Mr) (x y : Int32) : Ans (m_X4_live x y Mx) (m_X5_live x y Mr) := by
  obtain ⟨T, tx, hR, hV⟩ := id h
  obtain ⟨v1, v2, v3, hdd⟩ := id hV
  have h5 := v2.1.2.1
  unfold m_X4_live m_X5_live
  rcases ix_cases x 21 (by omega) with q | ⟨N, N1, rfl⟩
  · rw [x5_in_out (n := 21) (b := 20) (by decide) (by omega) q, bd_s, if_pos rfl]
    rcases rg_out (n := 20) (by omega) q with q | ⟨q1, q2, q3⟩
    · rw [if_pos q]
      exact ⟨_, _, _, rfl, rfl, h⟩
    · rw [if_neg q1, if_pos (show (20 : Int32) < x from q3)]
      exact ⟨_, _, _, rfl, rfl, h⟩
  have rn := rg_in (n := 20) N1 (by omega)
  rw [x5_in_in (n := 20) (b := 20) (by decide) (by omega) (by omega), bd_s, if_neg one_ne0, if_neg rn.1, if_neg (show ¬ (20 : Int32) < nI N from rn.2.2)]
  rcases ix_cases y 2 (by omega) with q | ⟨c, c1, rfl⟩
  · rw [x5_in_out (n := 2) (b := 1) (by decide) (by omega) q, bd_s, if_pos rfl]
    rcases rg_out (n := 1) (by omega) q with q | ⟨q1, q2, q3⟩
    · rw [if_pos q]
      exact ⟨_, _, _, rfl, rfl, h⟩
    · rw [if_neg q1, if_neg (show ¬ y ≤ (1 : Int32) from q2)]
      exact ⟨_, _, _, rfl, rfl, h⟩
  have rc := rg_in (n := 1) c1 (by omega)
  rw [x5_in_in (n := 1) (b := 1) (by decide) (by omega) (by omega), bd_s, if_neg one_ne0, if_neg rc.1, if_pos (show nI c ≤ (1 : Int32) from rc.2.1), lt1_d, lt1_d]
  have hl := HH_len v2
  -- the first way
  obtain ⟨A1, a1, a2, -, a4⟩ := x4_fw_L v2 8 0 0 FU Mx (by unfold FU; omega) (by omega) v1 (by omega)
  have ef : m_X4_firstWay Mx = some ((), A1) := by
    unfold m_X4_firstWay
    rw [lt1_d, lt1_d, ← nI_0, a1]
  obtain ⟨R1, b1, b2, -, b4⟩ := x5_hm_L (x1 := nI N) (x2 := nI c) v2 8 0 0 FU Mr (by unfold FU; omega) (by omega) rfl (by omega)
  obtain ⟨R2, c1', c2, c3, -⟩ := x5_67 (x1 := nI N) (x2 := nI c) 15 0 FU R1 (by unfold FU; omega) (by omega)
  rw [nI_0] at b1 c1'
  have s10 : R2 0 10 = nI (vP (nm Mr)) := by
    rw [c2 0 (by decide), b2 0 (by decide)]
    exact hV.cm.1
  have e100 := x5_100 (x1 := nI N) (x2 := nI c) h5 s10 (vP (nm Mr)) 0 FU (by unfold FU; omega) (by omega)
  rw [nI_0, Nat.pow_zero, show nI 1 = (1 : Int32) from rfl] at e100
  rw [ef, bd_s, lt1_d, lt1_d, lt1_d, lt1_d, b1, c1', e100]
  obtain ⟨st1, st2, st3⟩ := st_all (vP (nm Mr)) (by omega)
  have pp : vP (nm Mr) ^ vP (nm Mr) ≤ 3125 := by
    rcases (show vP (nm Mr) = 0 ∨ vP (nm Mr) = 1 ∨ vP (nm Mr) = 2 ∨ vP (nm Mr) = 3 ∨ vP (nm Mr) = 4 ∨ vP (nm Mr) = 5 by omega) with e | e | e | e | e | e <;> rw [e] <;> decide
  have xk1 : XK Mx A1 := ⟨fun k hk => a2 k (by omega), fun j _ => by rw [a2 1 (by decide)]⟩
  have lr0 : LRm Mr R2 (nm Mr) := by
    refine ⟨fun q hq => by rw [c2 q (by omega), b2 q (by omega)], fun j _ => by rw [c2 0 (by decide), b2 0 (by decide)], fun j _ => by rw [c2 5 (by decide), b2 5 (by decide)], fun j hj => by rw [c3 j (by omega) hj, b2 4 (by decide)], fun i hi => ?_, nm Mr 3, ?_⟩
    · have := b4 i (by omega)
      rw [Nat.zero_add] at this
      rw [c2 7 (by decide), this]
      rfl
    · rw [hsS_self]
      exact nm_cong (by rw [c2 0 (by decide), b2 0 (by decide)]) (by rw [c2 4 (by decide), b2 4 (by decide)]) (by rw [c2 5 (by decide), b2 5 (by decide)])
  obtain ⟨b, m, A', R', l1, l2, l3, l4, l5⟩ := live_L (P := vP (nm Mr)) (N := N) (x2 := nI c) (Mx := Mx) (Mr := Mr) (by omega) v2 v3 rfl hR.1.1 hR.1.2 (vP (nm Mr) ^ vP (nm Mr)) 0 FU FU 0 0 (-1) 1 A1 R2 (by omega) (by unfold FU; omega) (by unfold FU; omega) (by omega) xk1 (by rw [← v1]; exact nx_cong (fun i hi => a2 _ (by omega))) (fun _ => ⟨rfl, fun i hi => by
      have := a4 i (by omega)
      rw [Nat.zero_add] at this
      rw [st3 i hi, this]
      rfl⟩) (fun z => by omega) lr0
  rw [nI_0] at l1 l2
  rw [l1, l2]
  obtain ⟨R3, z1, z2, z3, -⟩ := x5_221 (x2 := nI c) (x5 := b) (x6 := m) 15 0 FU R' (by unfold FU; omega) (by omega)
  rw [nI_0] at z1
  rw [z1]
  have nR3 : nm R3 = nm Mr := nm_ext v2 (fun j hj => by rw [z2 0 (by decide)]; exact l5.2.1 j (by omega)) (fun j hj => by rw [z3 j (by omega) hj]; exact l5.2.2.2.1 j hj) (fun j hj => by rw [z2 5 (by decide)]; exact l5.2.2.1 j hj)
  have rk3 : RK Mr R3 := ⟨fun q hq => by rw [z2 q (by omega)]; exact l5.1 q hq, fun j hj => by rw [z2 0 (by decide)]; exact l5.2.1 j (by omega)⟩
  have fin : Rel A' R3 := by
    refine ⟨T, tx, hR.keep l3 rk3, ?_⟩
    unfold RelV
    rw [l4, nR3]
    exact ⟨rfl, v2, v3, hdd⟩
  unfold m_X4_live_J109
  by_cases e : nI c = 0
  · rw [if_pos e, if_pos e]
    exact ⟨_, _, _, rfl, rfl, fin⟩
  · rw [if_neg e, if_neg e]
    exact ⟨_, _, _, rfl, rfl, fin⟩

