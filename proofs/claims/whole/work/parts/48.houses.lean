/-! the houses that are lived in, from the lowest up -/
def hsA (s : Vs) : Nat → Nat → List Nat
  | 0, _ => []
  | k + 1, h => if whoS s (nI h) = -1 then hsA s k (h + 1) else h :: hsA s k (h + 1)
theorem hsA_in {s : Vs} : ∀ (k h : Nat), (∀ x, x ∈ hsA s k h → h ≤ x ∧ x < h + k) ∧ (hsA s k h).Pairwise (· < ·) := by
  intro k
  induction k with
  | zero => intro h; exact ⟨fun x hx => absurd hx (by simp [hsA]), by simp [hsA]⟩
  | succ k ih =>
    intro h
    obtain ⟨i1, i2⟩ := ih (h + 1)
    unfold hsA
    split
    · exact ⟨fun x hx => by have := i1 x hx; omega, i2⟩
    · refine ⟨fun x hx => ?_, List.pairwise_cons.mpr ⟨fun x hx => by have := i1 x hx; omega, i2⟩⟩
      rcases List.mem_cons.mp hx with q | q
      · omega
      · have := i1 x q; omega
def HH (s : Vs) (i : Nat) : Nat := (hsA s 8 0).getD i 0
theorem gdN {l : List Nat} {i : Nat} (h : i < l.length) : l.getD i 0 = l[i] := by
  simp [List.getD, h]
theorem HH_lt {s : Vs} {i j : Nat} (hij : i < j) (hj : j < (hsA s 8 0).length) : HH s i < HH s j := by
  have h := (hsA_in (s := s) 8 0).2
  rw [List.pairwise_iff_getElem] at h
  unfold HH
  rw [gdN (show i < (hsA s 8 0).length by omega), gdN hj]
  exact h i j (by omega) hj hij
theorem HH_8 {s : Vs} (i : Nat) : HH s i < 8 := by
  by_cases h : i < (hsA s 8 0).length
  · unfold HH
    rw [gdN h]
    have := (hsA_in (s := s) 8 0).1 _ (List.getElem_mem h)
    omega
  · unfold HH
    simp [List.getD, List.getElem?_eq_none (Nat.le_of_not_lt h)]
theorem HH_iff {s : Vs} {i j : Nat} (hi : i < (hsA s 8 0).length) (hj : j < (hsA s 8 0).length) : HH s i < HH s j ↔ i < j := by
  rcases Nat.lt_trichotomy i j with h | h | h
  · exact ⟨fun _ => h, fun _ => HH_lt h hj⟩
  · subst h; exact ⟨fun q => absurd q (Nat.lt_irrefl _), fun q => absurd q (Nat.lt_irrefl _)⟩
  · have := HH_lt (s := s) h hi
    exact ⟨fun q => by omega, fun q => by omega⟩
theorem HH_inj {s : Vs} {i j : Nat} (hi : i < (hsA s 8 0).length) (hj : j < (hsA s 8 0).length) (h : HH s i = HH s j) : i = j := by
  rcases Nat.lt_trichotomy i j with q | q | q
  · have := HH_lt (s := s) q hj; omega
  · exact q
  · have := HH_lt (s := s) q hi; omega
/-! as many as there are people -/
def cntB (f : Nat → Bool) : Nat → Nat → Nat
  | 0, _ => 0
  | k + 1, h => if f h = true then cntB f k (h + 1) + 1 else cntB f k (h + 1)
theorem cntB_cong {f g : Nat → Bool} : ∀ (k h : Nat), (∀ j, h ≤ j → j < h + k → f j = g j) → cntB f k h = cntB g k h := by
  intro k
  induction k with
  | zero => intro h _; rfl
  | succ k ih =>
    intro h q
    unfold cntB
    rw [q h (Nat.le_refl h) (by omega), ih (h + 1) (fun j h1 h2 => q j (by omega) (by omega))]
theorem cntB_up {f g : Nat → Bool} {x : Nat} (hx : f x = false) (gx : g x = true) (ho : ∀ j, j ≠ x → g j = f j) : ∀ (k h : Nat), cntB g k h = cntB f k h + (if h ≤ x ∧ x < h + k then 1 else 0) := by
  intro k
  induction k with
  | zero => intro h; rw [if_neg (by omega)]; rfl
  | succ k ih =>
    intro h
    unfold cntB
    rw [ih (h + 1)]
    by_cases e : h = x
    · subst e
      rw [if_pos gx, hx, if_neg (show ¬ (h + 1 ≤ h ∧ h < h + 1 + k) by omega), if_neg (show ¬ (false = true) by decide), if_pos (by omega)]
    · rw [ho h e]
      by_cases q : h + 1 ≤ x ∧ x < h + 1 + k
      · rw [if_pos q, if_pos (show h ≤ x ∧ x < h + (k + 1) by omega)]
        split <;> omega
      · rw [if_neg q, if_neg (show ¬ (h ≤ x ∧ x < h + (k + 1)) by omega)]
        split <;> omega
def lvB (s : Vs) : Nat → Nat → Bool
  | 0, _ => false
  | m + 1, h => decide (s 3 m = nI h) || lvB s m h
theorem lvB_no {s : Vs} {h : Nat} : ∀ m, lvB s m h = false ↔ ∀ p, p < m → s 3 p ≠ nI h := by
  intro m
  induction m with
  | zero => exact ⟨fun _ p hp => by omega, fun _ => rfl⟩
  | succ m ih =>
    unfold lvB
    rw [Bool.or_eq_false_iff, decide_eq_false_iff_not, ih]
    refine ⟨fun ⟨h1, h2⟩ p hp => ?_, fun q => ⟨q m (by omega), fun p hp => q p (by omega)⟩⟩
    by_cases e : p = m
    · subst e; exact h1
    · exact h2 p (by omega)
theorem lv_cnt {T : Nat} {s : Vs} (hw : WF T s) : ∀ m, m ≤ vP s → cntB (lvB s m) 8 0 = m := by
  intro m
  induction m with
  | zero => intro _; rfl
  | succ m ih =>
    intro hm
    obtain ⟨-, -, x, x1, x2⟩ := hw.2.2.1 m (by omega)
    have h1 : lvB s m x = false := (lvB_no m).mpr (fun p hp q => by
      have := hw.2.2.2.1 p m (by omega) (by omega) (q.trans x2.symm)
      omega)
    have h2 : lvB s (m + 1) x = true := by
      unfold lvB
      rw [x2, decide_eq_true rfl, Bool.true_or]
    have h3 : ∀ j, j ≠ x → j < 2 ^ 30 → lvB s (m + 1) j = lvB s m j := by
      intro j hj hjj
      show (decide (s 3 m = nI j) || lvB s m j) = _
      rw [x2, decide_eq_false (fun q => hj ((nI_eq (by omega) (by omega)).mp q).symm), Bool.false_or]
    have e : cntB (lvB s (m + 1)) 8 0 = cntB (fun j => if j = x then true else lvB s m j) 8 0 := cntB_cong 8 0 (fun j _ hj => by
      by_cases q : j = x
      · subst q; rw [h2, if_pos rfl]
      · rw [h3 j q (by omega)]; exact (if_neg q).symm)
    rw [e, cntB_up (f := lvB s m) (x := x) h1 (if_pos rfl) (fun j hj => if_neg hj) 8 0, ih (by omega), if_pos (by omega)]
theorem hs_cnt {T : Nat} {s : Vs} (hw : WF T s) : ∀ k h, (hsA s k h).length = cntB (lvB s (vP s)) k h := by
  have h5 := hw.1.2.1
  intro k
  induction k with
  | zero => intro h; rfl
  | succ k ih =>
    intro h
    unfold hsA cntB
    by_cases e : whoS s (nI h) = -1
    · have : lvB s (vP s) h = false := (lvB_no _).mpr (who_no e h5)
      rw [if_pos e, this, if_neg (by decide), ih]
    · have : ¬ lvB s (vP s) h = false := by
        intro q
        rcases whoS_in (s := s) (h := nI h) with z | ⟨p, p1, p2, -⟩
        · exact e z
        · exact (lvB_no _).mp q p p1 p2
      rw [if_neg e, if_pos (by simpa using this), List.length_cons, ih]
theorem HH_len {T : Nat} {s : Vs} (hw : WF T s) : (hsA s 8 0).length = vP s := by
  rw [hs_cnt hw, lv_cnt hw _ (Nat.le_refl _)]
/-! the houses of all changed -/
def hsS (s : Vs) (g : Nat → Int32) : Vs := fun i j => if i = 3 ∧ j < vP s then g j else s i j
def mvA (g : Nat → Int32) : Nat → Nat → Vs → Vs
  | 0, _, s => s
  | k + 1, p, s => mvA g k (p + 1) (up s 3 p (g p))
theorem mvA_at {g : Nat → Int32} : ∀ (k p : Nat) (s : Vs) (i j : Nat), mvA g k p s i j = if i = 3 ∧ p ≤ j ∧ j < p + k then g j else s i j := by
  intro k
  induction k with
  | zero => intro p s i j; rw [if_neg (by omega)]; rfl
  | succ k ih =>
    intro p s i j
    unfold mvA
    rw [ih (p + 1)]
    by_cases h : i = 3 ∧ p + 1 ≤ j ∧ j < p + 1 + k
    · rw [if_pos h, if_pos (by omega)]
    · rw [if_neg h]
      by_cases e : i = 3 ∧ j = p
      · rw [if_pos (by omega), e.1, e.2, up_s]
      · rw [if_neg (by omega)]
        by_cases e3 : i = 3
        · rw [e3]; exact up_j (by omega)
        · exact up_k e3
theorem mvA_hs {g g' : Nat → Int32} {s : Vs} : mvA g (vP s) 0 (hsS s g') = hsS s g := by
  funext i j
  rw [mvA_at]
  unfold hsS
  by_cases h : i = 3 ∧ j < vP s
  · rw [if_pos (by omega), if_pos h]
  · rw [if_neg (by omega), if_neg h, if_neg h]
theorem hsS_self {s : Vs} : hsS s (s 3) = s := by
  funext i j
  unfold hsS
  by_cases h : i = 3 ∧ j < vP s
  · rw [if_pos h, h.1]
  · rw [if_neg h]
theorem hsS_P {s : Vs} {g : Nat → Int32} : vP (hsS s g) = vP s ∧ vL (hsS s g) = vL s := by
  constructor <;> rfl
theorem hsS_c {s : Vs} {g g' : Nat → Int32} (h : ∀ p, p < vP s → g p = g' p) : hsS s g = hsS s g' := by
  funext i j
  unfold hsS
  by_cases q : i = 3 ∧ j < vP s
  · rw [if_pos q, if_pos q, h j q.2]
  · rw [if_neg q, if_neg q]
theorem hsS_3 {s : Vs} {g : Nat → Int32} {p : Nat} (h : p < vP s) : hsS s g 3 p = g p := if_pos ⟨rfl, h⟩
/-- a way's village -/
theorem WF.way {T : Nat} {s : Vs} {v : Nat → Nat} (hw : WF T s) (hv : ∀ p, p < vP s → v p < vP s) (hd : ∀ p q, p < vP s → q < vP s → v p = v q → p = q) : WF T (hsS s (fun p => nI (HH s (v p)))) := by
  have hl := HH_len hw
  refine hw.hse (fun i j hi => if_neg (fun q => hi q.1)) (fun p hp => ⟨HH s (v p), HH_8 _, hsS_3 hp⟩) (fun p q hp hq e => ?_)
  rw [hsS_3 hp, hsS_3 hq] at e
  have e2 := (nI_eq (a := HH s (v p)) (b := HH s (v q)) (by have := HH_8 (s := s) (v p); omega) (by have := HH_8 (s := s) (v q); omega)).mp e
  exact hd p q hp hq (HH_inj (by rw [hl]; exact hv p hp) (by rw [hl]; exact hv q hq) e2)
/-! the class: the first way, the houses by it, its digits -/
theorem nx_cong {A A' : Mm} {v : Nat} (h : ∀ i, i ≤ 8 → A' (v + i) = A (v + i)) : nx A' v = nx A v := by
  have e : ∀ i j, i ≤ 8 → vx A' v i j = vx A v i j := by
    intro i j hi
    show A' (v + i) j = A (v + i) j
    rw [h i hi]
  have eP : vP (vx A' v) = vP (vx A v) := by unfold vP; rw [e 0 4 (by omega)]
  have eL : vL (vx A' v) = vL (vx A v) := by unfold vL; rw [e 0 5 (by omega)]
  funext i j
  show nrm (vx A' v) i j = nrm (vx A v) i j
  unfold nrm
  rw [eP, eL]
  by_cases h8 : i ≤ 8
  · by_cases hi : i = 0
    · subst hi
      rw [if_pos rfl, if_pos rfl, e 0 j (by omega)]
    · rw [if_neg hi, if_neg hi, e i j h8]
  · simp [show ¬ i = 0 by omega, show ¬ i ≤ 3 by omega, h8]
theorem nm_cong {R R' : Mm} (h0 : R' 0 = R 0) (h4 : R' 4 = R 4) (h5 : R' 5 = R 5) : nm R' = nm R := by
  have e : vm R' = vm R := by
    funext i j
    unfold vm
    rw [h0, h4, h5]
  unfold nm
  rw [e]
theorem x4_fw_L {s : Vs} {T : Nat} (hw : WF T s) : ∀ (k h c fu : Nat) (A : Mm), k < fu → h + k = 8 → nx A 7 = s → c + (hsA s k h).length ≤ 5 → ∃ A', m_X4_firstWay_L4 fu (nI c) (nI h) A = some ((), A') ∧ (∀ q, q ≠ 34 → A' q = A q) ∧ (∀ j, j < c → A' 34 j = A 34 j) ∧ ∀ i, i < (hsA s k h).length → A' 34 (c + i) = nI ((hsA s k h).getD i 0) := by
  intro k
  induction k with
  | zero =>
    intro h c fu A hf hh hn hc
    obtain ⟨fu, rfl⟩ : ∃ m, fu = m + 1 := ⟨fu - 1, by omega⟩
    refine ⟨A, ?_, fun _ _ => rfl, fun _ _ => rfl, fun i hi => absurd hi (by simp [hsA])⟩
    show m_X4_firstWay_B4 (m_X4_firstWay_L4 fu) (nI c) (nI h) A = _
    rw [m_X4_firstWay_B4, if_pos (show (8 : Int32) ≤ nI h from nI_le (a := 8) (by omega) (by omega))]
  | succ k ih =>
    intro h c fu A hf hh hn hc
    obtain ⟨fu, rfl⟩ : ∃ m, fu = m + 1 := ⟨fu - 1, by omega⟩
    have hcv : CV A 7 (vP (nx A 7)) (vL (nx A 7)) := (show WF T (nx A 7) by rw [hn]; exact hw).cv
    unfold hsA at hc ⊢
    have e0 : m_X4_firstWay_L4 (fu + 1) (nI c) (nI h) A = m_X4_firstWay_B4 (m_X4_firstWay_L4 fu) (nI c) (nI h) A := rfl
    rw [e0, m_X4_firstWay_B4, if_neg (show ¬ (8 : Int32) ≤ nI h from nI_ge (b := 8) (by omega) (by omega)), x3_livesIn hcv, bd_s, hn]
    by_cases e : whoS s (nI h) = -1
    · rw [if_pos e] at hc ⊢
      rw [if_pos e, m_X4_firstWay_J41, lt1_d, nI_1]
      exact ih (h + 1) c fu A (by omega) (by omega) hn hc
    · rw [if_neg e] at hc ⊢
      simp only [List.length_cons] at hc
      have q34 : ∀ q, q ≠ 34 → up A 34 c (nI h) q = A q := fun q hq => by funext z; exact up_k hq
      have hn' : nx (up A 34 c (nI h)) 7 = s := by rw [← hn]; exact nx_cong (fun i hi => q34 _ (by omega))
      obtain ⟨A', a1, a2, a3, a4⟩ := ih (h + 1) (c + 1) fu (up A 34 c (nI h)) (by omega) (by omega) hn' (by omega)
      rw [if_neg e, if_neg (show ¬ (5 : Int32) ≤ nI c from nI_ge (b := 5) (by omega) (by omega)), inr_n (by omega) (by omega), gd_t, nI_clamp (by omega), lt1_d, lt1_d, nI_1, m_X4_firstWay_J41, lt1_d, nI_1]
      refine ⟨A', a1, fun q hq => by rw [a2 q hq, q34 q hq], fun j hj => by rw [a3 j (by omega), up_j (by omega)], fun i hi => ?_⟩
      simp only [List.length_cons] at hi
      by_cases z : i = 0
      · subst z
        rw [Nat.add_zero, a3 c (by omega), up_s]
        rfl
      · obtain ⟨i, rfl⟩ : ∃ m, i = m + 1 := ⟨i - 1, by omega⟩
        have := a4 i (by omega)
        rw [show c + 1 + i = c + (i + 1) by omega] at this
        exact this
theorem x4_mv_L {P L : Nat} {g : Nat → Int32} : ∀ (k p fu : Nat) (A : Mm), k < fu → p + k = P → A 7 4 = nI P → CV A 16 P L → (∀ i, i < P → A 34 i = g i) → ∃ A', m_X4_moveByWay_L2 fu (nI p) A = some ((), A') ∧ nx A' 16 = mvA g k p (nx A 16) ∧ FV 16 A A' := by
  intro k
  induction k with
  | zero =>
    intro p fu A hf hp h7 hc hg
    have h5 := hc.2.1
    obtain ⟨fu, rfl⟩ : ∃ m, fu = m + 1 := ⟨fu - 1, by omega⟩
    refine ⟨A, ?_, rfl, FV.rf⟩
    show m_X4_moveByWay_B2 (m_X4_moveByWay_L2 fu) (nI p) A = _
    rw [m_X4_moveByWay_B2, h7, if_pos (nI_le (by omega) (by omega))]
  | succ k ih =>
    intro p fu A hf hp h7 hc hg
    have h5 := hc.2.1
    obtain ⟨fu, rfl⟩ : ∃ m, fu = m + 1 := ⟨fu - 1, by omega⟩
    have c2 : CV (up A (16 + 3) p (g p)) 16 P L := by
      unfold CV
      rw [up_k (by decide), up_k (by decide)]
      exact hc
    obtain ⟨A', a1, a2, a3⟩ := ih (p + 1) fu (up A (16 + 3) p (g p)) (by omega) (by omega) (by rw [up_k (by decide)]; exact h7) c2 (fun i hi => by rw [up_k (by decide)]; exact hg i hi)
    refine ⟨A', ?_, ?_, (FV.up (v := 16) (i := 3) (by omega) (by omega)).tr a3⟩
    · show m_X4_moveByWay_B2 (m_X4_moveByWay_L2 fu) (nI p) A = _
      unfold m_X4_moveByWay_B2 m_X3_moveTo
      rw [h7, if_neg (nI_ge (by omega) (by omega)), if_neg (show ¬ (5 : Int32) ≤ nI p from nI_ge (b := 5) (by omega) (by omega)), inr_n (by omega) (by omega), gd_t, x3_one_in hc (by omega), bd_s, if_neg one_ne0, gd_t, nI_clamp (by omega), hg p (by omega), lt1_d, bd_s, lt1_d, nI_1]
      exact a1
    · rw [a2]
      show _ = mvA g k (p + 1) (up (nx A 16) 3 p (g p))
      rw [nx_up (v := 16) (i := 3) hc (by omega)]
def dgA (h : Nat → Nat) : Nat → Nat → Nat → Nat
  | 0, _, a => a
  | k + 1, p, a => dgA h k (p + 1) (a * 10 + h p + 1)
theorem dgA_le {h : Nat → Nat} (hh : ∀ p, h p < 8) : ∀ (k p a : Nat), dgA h k p a ≤ (a + 1) * 10 ^ k := by
  intro k
  induction k with
  | zero => intro p a; show a ≤ (a + 1) * 1; omega
  | succ k ih =>
    intro p a
    have h1 := ih (p + 1) (a * 10 + h p + 1)
    have h2 := hh p
    have h3 : (a * 10 + h p + 1 + 1) * 10 ^ k ≤ ((a + 1) * 10) * 10 ^ k := Nat.mul_le_mul_right _ (by omega)
    rw [Nat.pow_succ, Nat.mul_comm (10 ^ k) 10, ← Nat.mul_assoc]
    exact Nat.le_trans h1 h3
theorem dgA_lt {h : Nat → Nat} (hh : ∀ p, h p < 8) {k : Nat} (hk : k ≤ 5) : dgA h k 0 0 < 2 ^ 30 := by
  have h1 := dgA_le hh k 0 0
  have h2 : (10 : Nat) ^ k ≤ 10 ^ 5 := Nat.pow_le_pow_right (by omega) hk
  omega
theorem x4_dg_L {P : Nat} (hP : P ≤ 5) {h : Nat → Nat} : ∀ (k p fu a : Nat) (A : Mm), k < fu → p + k = P → A 7 4 = nI P → (∀ i, i < P → A 34 i = nI (h i)) → m_X4_digitsOfWay_L4 fu (nI a) (nI p) A = some (nI (dgA h k p a), A) := by
  intro k
  induction k with
  | zero =>
    intro p fu a A hf hp h7 hg
    obtain ⟨fu, rfl⟩ : ∃ m, fu = m + 1 := ⟨fu - 1, by omega⟩
    show m_X4_digitsOfWay_B4 (m_X4_digitsOfWay_L4 fu) (nI a) (nI p) A = _
    rw [m_X4_digitsOfWay_B4, h7, if_pos (nI_le (by omega) (by omega))]
    rfl
  | succ k ih =>
    intro p fu a A hf hp h7 hg
    obtain ⟨fu, rfl⟩ : ∃ m, fu = m + 1 := ⟨fu - 1, by omega⟩
    show m_X4_digitsOfWay_B4 (m_X4_digitsOfWay_L4 fu) (nI a) (nI p) A = _
    have e : nI a * (10 : Int32) + nI (h p) + 1 = nI (a * 10 + h p + 1) := by
      show nI a * nI 10 + nI (h p) + 1 = _
      rw [pk_mul, nI_add, nI_1]
    rw [m_X4_digitsOfWay_B4, h7, if_neg (nI_ge (by omega) (by omega)), if_neg (show ¬ (5 : Int32) ≤ nI p from nI_ge (b := 5) (by omega) (by omega)), inr_n (by omega) (by omega), gd_t, nI_clamp (by omega), hg p (by omega), e, lt1_d, lt1_d, nI_1, ih (p + 1) fu _ A (by omega) (by omega) h7 hg]
    rfl

