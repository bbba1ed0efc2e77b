/-! the class's next way -/
theorem sub_m1 (x : Int32) : x + (-1) = x - 1 := (Int32.sub_eq_add_neg ..).symm
theorem nI_m (k : Nat) : nI (k + 1) - 1 = nI k := nI_pred k
theorem x4_L20 {P : Nat} (hP : P ≤ 5) {h : Nat → Nat} {g : Nat → Nat} (hg : ∀ i j, i < P → j < P → (h (g i) < h (g j) ↔ g i < g j)) (h8 : ∀ i, h i < 8) {A : Mm} (ha : ∀ i, i < P → A 34 i = nI (h (g i))) : ∀ (k fu : Nat), k < fu → k + 1 ≤ P → m_X4_nextWay_L20 fu (nI P) (nI k - 1) A = m_X4_nextWay_J47 (nI P) (nI (lowF g k) - 1) A := by
  intro k
  induction k with
  | zero =>
    intro fu hf hk
    obtain ⟨fu, rfl⟩ : ∃ m, fu = m + 1 := ⟨fu - 1, by omega⟩
    show m_X4_nextWay_B20 (m_X4_nextWay_L20 fu) (nI P) (nI 0 - 1) A = _
    rw [m_X4_nextWay_B20, if_pos (show nI 0 - 1 < (0 : Int32) by decide)]
    rfl
  | succ k ih =>
    intro fu hf hk
    obtain ⟨fu, rfl⟩ : ∃ m, fu = m + 1 := ⟨fu - 1, by omega⟩
    show m_X4_nextWay_B20 (m_X4_nextWay_L20 fu) (nI P) (nI (k + 1) - 1) A = _
    have a1 := h8 (g k)
    have a2 := h8 (g (k + 1))
    rw [m_X4_nextWay_B20, nI_m, if_neg (nI_pos (by omega)), inr_n (by omega) (by omega), gd_t, nI_1, inr_n (by omega) (by omega), gd_t, nI_clamp (by omega), nI_clamp (by omega), ha k (by omega), ha (k + 1) (by omega)]
    unfold lowF
    by_cases e : g k < g (k + 1)
    · rw [if_pos (nI_lt ((hg k (k + 1) (by omega) (by omega)).mpr e) (by omega)), if_pos e, nI_m]
    · have e2 : ¬ h (g k) < h (g (k + 1)) := fun q => e ((hg k (k + 1) (by omega) (by omega)).mp q)
      rw [if_neg (nI_nlt (by omega) (by omega)), if_neg e, lt1_d, sub_m1]
      exact ih fu (by omega) (by omega)
theorem x4_L57 {P : Nat} (hP : P ≤ 5) {h : Nat → Nat} {g : Nat → Nat} (hg : ∀ i j, i < P → j < P → (h (g i) < h (g j) ↔ g i < g j)) (h8 : ∀ i, h i < 8) {l : Nat} (hl : l < P) {A : Mm} (ha : ∀ i, i < P → A 34 i = nI (h (g i))) : ∀ (k fu : Nat), k < fu → k < P → m_X4_nextWay_L57 fu (nI P) (nI l) (nI k) A = m_X4_nextWay_J83 (nI P) (nI l) (nI (highF g l k)) A := by
  intro k
  induction k with
  | zero =>
    intro fu hf hk
    obtain ⟨fu, rfl⟩ : ∃ m, fu = m + 1 := ⟨fu - 1, by omega⟩
    show m_X4_nextWay_B57 (m_X4_nextWay_L57 fu) (nI P) (nI l) (nI 0) A = _
    rw [m_X4_nextWay_B57, if_pos (nI_le (by omega) (by omega))]
    rfl
  | succ k ih =>
    intro fu hf hk
    obtain ⟨fu, rfl⟩ : ∃ m, fu = m + 1 := ⟨fu - 1, by omega⟩
    show m_X4_nextWay_B57 (m_X4_nextWay_L57 fu) (nI P) (nI l) (nI (k + 1)) A = _
    have a1 := h8 (g l)
    have a2 := h8 (g (k + 1))
    unfold highF
    rw [m_X4_nextWay_B57]
    by_cases q : k + 1 ≤ l
    · rw [if_pos (nI_le q (by omega)), if_pos q]
    · rw [if_neg (nI_ge (by omega) (by omega)), if_neg q, inr_n (by omega) (by omega), gd_t, inr_n (by omega) (by omega), gd_t, nI_clamp (by omega), nI_clamp (by omega), ha l hl, ha (k + 1) hk]
      by_cases e : g l < g (k + 1)
      · rw [if_pos (nI_lt ((hg l (k + 1) hl hk).mpr e) (by omega)), if_pos e]
      · have e2 : ¬ h (g l) < h (g (k + 1)) := fun z => e ((hg l (k + 1) hl hk).mp z)
        rw [if_neg (nI_nlt (by omega) (by omega)), if_neg e, lt1_d, sub_m1, nI_m]
        exact ih fu (by omega) (by omega)
theorem x4_ex {i k : Nat} (hi : i < 5) (hk : k < 5) {A : Mm} : m_X4_exchange (nI i) (nI k) A = some ((), up (up A 34 i (A 34 k)) 34 k (A 34 i)) := by
  unfold m_X4_exchange
  rw [if_neg (nI_pos (by omega)), if_neg (show ¬ (5 : Int32) ≤ nI i from nI_ge (b := 5) (by omega) (by omega)), if_neg (nI_pos (by omega)), if_neg (show ¬ (5 : Int32) ≤ nI k from nI_ge (b := 5) (by omega) (by omega)), inr_n hi (by omega), gd_t, lt1_d, inr_n hk (by omega), gd_t, gd_t, lt1_d, gd_t, lt1_d, nI_clamp (by omega), nI_clamp (by omega)]
theorem ex_at {P i k : Nat} {h g : Nat → Nat} {A : Mm} (ha : ∀ j, j < P → A 34 j = nI (h (g j))) (hi : i < P) (hk : k < P) : (∀ j, j < P → up (up A 34 i (A 34 k)) 34 k (A 34 i) 34 j = nI (h (exF g i k j))) ∧ ∀ q, q ≠ 34 → up (up A 34 i (A 34 k)) 34 k (A 34 i) q = A q := by
  refine ⟨fun j hj => ?_, fun q hq => by funext z; rw [up_k hq, up_k hq]⟩
  unfold exF
  by_cases e1 : j = k
  · rw [if_pos e1, e1, up_s, ha i hi]
  · rw [if_neg e1, up_j e1]
    by_cases e2 : j = i
    · rw [if_pos e2, e2, up_s, ha k hk]
    · rw [if_neg e2, up_j e2, ha j hj]
theorem x4_L99 {P : Nat} (hP : P ≤ 5) {h : Nat → Nat} : ∀ (m f i k fu : Nat) (g : Nat → Nat) (A : Mm), k ≤ i + m → m ≤ f → m < fu → 1 ≤ i → i ≤ P → k < P → 1 ≤ k + 1 → (∀ j, j < P → A 34 j = nI (h (g j))) → ∃ A', m_X4_nextWay_L99 fu (nI i) (nI k) A = some (1, A') ∧ (∀ j, j < P → A' 34 j = nI (h (revF f i k g j))) ∧ ∀ q, q ≠ 34 → A' q = A q := by
  intro m
  induction m with
  | zero =>
    intro f i k fu g A h1 h2 h3 h4 h5 h6 h7 ha
    obtain ⟨fu, rfl⟩ : ∃ m, fu = m + 1 := ⟨fu - 1, by omega⟩
    refine ⟨A, ?_, fun j hj => ?_, fun _ _ => rfl⟩
    · show m_X4_nextWay_B99 (m_X4_nextWay_L99 fu) (nI i) (nI k) A = _
      rw [m_X4_nextWay_B99, if_pos (nI_le (by omega) (by omega))]
    · rw [ha j hj]
      cases f with
      | zero => rfl
      | succ f => unfold revF; rw [if_pos (by omega)]
  | succ m ih =>
    intro f i k fu g A h1 h2 h3 h4 h5 h6 h7 ha
    obtain ⟨fu, rfl⟩ : ∃ m, fu = m + 1 := ⟨fu - 1, by omega⟩
    obtain ⟨f, rfl⟩ : ∃ m, f = m + 1 := ⟨f - 1, by omega⟩
    have e0 : m_X4_nextWay_L99 (fu + 1) (nI i) (nI k) A = m_X4_nextWay_B99 (m_X4_nextWay_L99 fu) (nI i) (nI k) A := rfl
    by_cases e : k ≤ i
    · refine ⟨A, ?_, fun j hj => ?_, fun _ _ => rfl⟩
      · rw [e0, m_X4_nextWay_B99, if_pos (nI_le (by omega) (by omega))]
      · rw [ha j hj]; unfold revF; rw [if_pos e]
    · obtain ⟨x1, x2⟩ := ex_at ha (show i < P by omega) h6
      obtain ⟨k', rfl⟩ : ∃ z, k = z + 1 := ⟨k - 1, by omega⟩
      obtain ⟨A', a1, a2, a3⟩ := ih f (i + 1) k' fu (exF g i (k' + 1)) _ (by omega) (by omega) (by omega) (by omega) (by omega) (by omega) (by omega) x1
      refine ⟨A', ?_, fun j hj => ?_, fun q hq => by rw [a3 q hq, x2 q hq]⟩
      · rw [e0, m_X4_nextWay_B99, if_neg (nI_ge (by omega) (by omega)), x4_ex (by omega) (by omega), bd_s, lt1_d, lt1_d, nI_1, sub_m1, nI_m]
        exact a1
      · rw [a2 j hj]
        show _ = nI (h ((if k' + 1 ≤ i then g else revF f (i + 1) (k' + 1 - 1) (exF g i (k' + 1))) j))
        rw [if_neg e, Nat.add_sub_cancel]
theorem lowF_le {g : Nat → Nat} : ∀ k, lowF g k ≤ k := by
  intro k
  induction k with
  | zero => exact Nat.le_refl _
  | succ k ih =>
    unfold lowF
    split
    · exact Nat.le_refl _
    · omega
theorem highF_le {g : Nat → Nat} {l : Nat} : ∀ k, highF g l k ≤ k := by
  intro k
  induction k with
  | zero => exact Nat.le_refl _
  | succ k ih =>
    unfold highF
    split
    · exact Nat.le_refl _
    · split
      · exact Nat.le_refl _
      · omega
theorem x4_next {P : Nat} (hP : P ≤ 5) (h0 : 0 < P) {h : Nat → Nat} {g : Nat → Nat} (hg : ∀ i j, i < P → j < P → (h (g i) < h (g j) ↔ g i < g j)) (h8 : ∀ i, h i < 8) {A : Mm} (h7 : A 7 4 = nI P) (ha : ∀ i, i < P → A 34 i = nI (h (g i))) : (nxF P g = none ∧ m_X4_nextWay A = some (0, A)) ∨ ∃ g' A', nxF P g = some g' ∧ m_X4_nextWay A = some (1, A') ∧ (∀ j, j < P → A' 34 j = nI (h (g' j))) ∧ ∀ q, q ≠ 34 → A' q = A q := by
  have em : mmin (nI P) 5 = nI P := by
    unfold mmin
    rw [if_neg (show ¬ (5 : Int32) < nI P from nI_nlt (a := 5) (by omega) (by omega))]
  have e2 : nI P - (2 : Int32) = nI (P - 1) - 1 := by
    obtain ⟨z, rfl⟩ : ∃ z, P = z + 1 := ⟨P - 1, by omega⟩
    show nI (z + 1) - (1 + 1) = nI z - 1
    rw [← nI_m z, Int32.sub_sub]
  unfold m_X4_nextWay nxF
  rw [h7, em, lt1_d, e2, lt1_d, x4_L20 hP hg h8 ha (P - 1) FU (by unfold FU; omega) (by omega)]
  have hl := lowF_le (g := g) (P - 1)
  unfold m_X4_nextWay_J47
  generalize hlo : lowF g (P - 1) = lo at hl
  by_cases e : lo = 0
  · subst e
    exact Or.inl ⟨if_pos rfl, if_neg (show ¬ (0 : Int32) ≤ nI 0 - 1 by decide)⟩
  · obtain ⟨l, rfl⟩ : ∃ z, lo = z + 1 := ⟨lo - 1, by omega⟩
    obtain ⟨P', rfl⟩ : ∃ z, P = z + 1 := ⟨P - 1, by omega⟩
    have hh := highF_le (g := g) (l := l) P'
    have hp := Nat.add_sub_cancel (n := P') (m := 1)
    rw [hp] at hl
    rw [hp, if_neg e, nI_m, if_pos (nI_pos' (by omega)), nI_m, lt1_d, x4_L57 hP hg h8 (show l < P' + 1 by omega) ha P' FU (by unfold FU; omega) (by omega)]
    unfold m_X4_nextWay_J83
    obtain ⟨x1, x2⟩ := ex_at ha (show l < P' + 1 by omega) (show highF g l P' < P' + 1 by omega)
    obtain ⟨A', a1, a2, a3⟩ := x4_L99 hP (h := h) 5 5 (l + 1) P' FU (exF g l (highF g l P')) _ (by omega) (by omega) (by unfold FU; omega) (by omega) (by omega) (by omega) (by omega) x1
    rw [x4_ex (by omega) (by omega), bd_s, nI_1, lt1_d, nI_m, lt1_d, a1]
    exact Or.inr ⟨_, A', rfl, rfl, fun j hj => a2 j hj, fun q hq => by rw [a3 q hq, x2 q hq]⟩
/-! the reference's ways -/
def pcN (u : Nat) : Nat := (u.testBit 0).toNat + (u.testBit 1).toNat + (u.testBit 2).toNat + (u.testBit 3).toNat + (u.testBit 4).toNat + (u.testBit 5).toNat + (u.testBit 6).toNat + (u.testBit 7).toNat
theorem pcN_all : ∀ u, u < 256 → pcS (nI u) = nI (pcN u) := by decide +kernel
theorem or_all : ∀ h, h < 8 → ∀ u, u < 256 → (nI u ||| shl 1 (nI h) = nI (u ||| 2 ^ h)) ∧ (u ||| 2 ^ h) < 256 ∧ pcN (u ||| 2 ^ h) = pcN u + (if u.testBit h = true then 0 else 1) := by decide +kernel
def usA (h : Nat → Nat) : Nat → Nat → Nat → Nat
  | 0, _, u => u
  | k + 1, p, u => usA h k (p + 1) (u ||| 2 ^ h p)
theorem us_le {h : Nat → Nat} (h8 : ∀ p, h p < 8) : ∀ (k p u : Nat), u < 256 → pcN (usA h k p u) ≤ pcN u + k ∧ usA h k p u < 256 := by
  intro k
  induction k with
  | zero => intro p u hu; exact ⟨Nat.le_refl _, hu⟩
  | succ k ih =>
    intro p u hu
    obtain ⟨-, o2, o3⟩ := or_all (h p) (h8 p) u hu
    obtain ⟨i1, i2⟩ := ih (p + 1) _ o2
    refine ⟨Nat.le_trans i1 ?_, i2⟩
    rw [o3]
    split <;> omega
theorem us_iff {h : Nat → Nat} (h8 : ∀ p, h p < 8) : ∀ (k p u : Nat), u < 256 → (pcN (usA h k p u) = pcN u + k ↔ (∀ q, p ≤ q → q < p + k → u.testBit (h q) = false) ∧ ∀ q r, p ≤ q → q < r → r < p + k → h q ≠ h r) := by
  intro k
  induction k with
  | zero => intro p u hu; exact ⟨fun _ => ⟨fun q h1 h2 => by omega, fun q r h1 h2 h3 => by omega⟩, fun _ => rfl⟩
  | succ k ih =>
    intro p u hu
    obtain ⟨-, o2, o3⟩ := or_all (h p) (h8 p) u hu
    have i1 := (us_le h8 k (p + 1) _ o2).1
    show pcN (usA h k (p + 1) (u ||| 2 ^ h p)) = _ ↔ _
    by_cases e : u.testBit (h p) = true
    · rw [if_pos e] at o3
      refine ⟨fun q => by omega, fun ⟨q, _⟩ => ?_⟩
      have := q p (Nat.le_refl p) (by omega)
      rw [e] at this
      cases this
    · rw [if_neg e] at o3
      have hb : ∀ j, (u ||| 2 ^ h p).testBit j = (u.testBit j || decide (h p = j)) := fun j => by rw [Nat.testBit_or, Nat.testBit_two_pow]
      rw [show pcN u + (k + 1) = pcN (u ||| 2 ^ h p) + k by omega, ih (p + 1) _ o2]
      constructor
      · rintro ⟨q1, q2⟩
        have q3 : ∀ r, p < r → r < p + (k + 1) → u.testBit (h r) = false ∧ h p ≠ h r := by
          intro r h1 h2
          have := q1 r (by omega) (by omega)
          rw [hb, Bool.or_eq_false_iff, decide_eq_false_iff_not] at this
          exact this
        refine ⟨fun q h1 h2 => ?_, fun q r h1 h2 h3 => ?_⟩
        · by_cases z : q = p
          · subst z; exact Bool.eq_false_iff.mpr e
          · exact (q3 q (by omega) h2).1
        · by_cases z : q = p
          · subst z; exact (q3 r h2 h3).2
          · exact q2 q r (by omega) h2 (by omega)
      · rintro ⟨q1, q2⟩
        refine ⟨fun q h1 h2 => ?_, fun q r h1 h2 h3 => q2 q r (by omega) h2 (by omega)⟩
        rw [hb, q1 q (by omega) (by omega), decide_eq_false (q2 p q (Nat.le_refl p) (by omega) (by omega))]
        rfl
theorem x5_L57 {P : Nat} (hP : P ≤ 5) {h : Nat → Nat} (h8 : ∀ p, h p < 8) {R : Mm} (h10 : R 0 10 = nI P) (hr : ∀ p, p < P → R 8 p = nI (h p)) : ∀ (k p fu dg u : Nat), k < fu → p + k = P → u < 256 → m_X5_wayOf_L57 fu (nI dg) (nI u) (nI p) R = some (if pcN (usA h k p u) = P then nI (dgA h k p dg) else -1, R) := by
  intro k
  induction k with
  | zero =>
    intro p fu dg u hf hp hu
    obtain ⟨fu, rfl⟩ : ∃ m, fu = m + 1 := ⟨fu - 1, by omega⟩
    have l8 : pcN u ≤ 8 := by
      unfold pcN
      have q : ∀ b : Bool, b.toNat ≤ 1 := fun b => by cases b <;> decide
      have := q (u.testBit 2); have := q (u.testBit 3); have := q (u.testBit 4); have := q (u.testBit 5); have := q (u.testBit 6); have := q (u.testBit 7); have := q (u.testBit 0); have := q (u.testBit 1)
      omega
    show m_X5_wayOf_B57 (m_X5_wayOf_L57 fu) (nI dg) (nI u) (nI p) R = _
    rw [m_X5_wayOf_B57, h10, if_pos (nI_le (by omega) (by omega)), x5_bits hu, bd_s, h10, pcN_all u hu]
    show (if nI (pcN u) = nI P then some (nI dg, R) else some (-1, R)) = some (if pcN u = P then nI dg else -1, R)
    by_cases e : pcN u = P
    · rw [if_pos (congrArg nI e), if_pos e]
    · rw [if_neg (fun q => e ((nI_eq (by omega) (by omega)).mp q)), if_neg e]
  | succ k ih =>
    intro p fu dg u hf hp hu
    obtain ⟨fu, rfl⟩ : ∃ m, fu = m + 1 := ⟨fu - 1, by omega⟩
    obtain ⟨o1, o2, -⟩ := or_all (h p) (h8 p) u hu
    have e : (10 : Int32) * nI dg + nI (h p) + 1 = nI (dg * 10 + h p + 1) := by
      show nI 10 * nI dg + nI (h p) + 1 = _
      rw [pk_mul, nI_add, nI_1, Nat.mul_comm]
    show m_X5_wayOf_B57 (m_X5_wayOf_L57 fu) (nI dg) (nI u) (nI p) R = _
    rw [m_X5_wayOf_B57, h10, if_neg (nI_ge (by omega) (by omega)), inr_n (by omega) (by omega), gd_t, nI_clamp (by omega), hr p (by omega), o1, e, lt1_d, gd_t, lt1_d, lt1_d, nI_1, ih (p + 1) fu _ _ (by omega) (by omega) o2]
    rfl
theorem x5_L15 {P w : Nat} (hP : P ≤ 5) (hw : w < 2 ^ 30) {h : Nat → Nat} {x2 x3 : Int32} : ∀ (k fu : Nat) (R : Mm), k < fu → k ≤ P → R 0 10 = nI P → (∀ i, i < P → R 7 i = nI (h i)) → ∃ R1, m_X5_wayOf_L15 fu x2 x3 (nI (w / P ^ (P - k))) (nI k - 1) R = m_X5_wayOf_L57 FU x2 x3 0 R1 ∧ (∀ p, p < k → R1 8 p = nI (h (vcF P w p))) ∧ (∀ p, k ≤ p → R1 8 p = R 8 p) ∧ ∀ q, q ≠ 8 → R1 q = R q := by
  intro k
  induction k with
  | zero =>
    intro fu R hf hk h10 h7
    obtain ⟨fu, rfl⟩ : ∃ m, fu = m + 1 := ⟨fu - 1, by omega⟩
    refine ⟨R, ?_, fun p hp => by omega, fun _ _ => rfl, fun _ _ => rfl⟩
    show m_X5_wayOf_B15 (m_X5_wayOf_L15 fu) x2 x3 (nI (w / P ^ (P - 0))) (nI 0 - 1) R = _
    rw [m_X5_wayOf_B15, if_pos (show nI 0 - 1 < (0 : Int32) by decide), lt1_d]
  | succ k ih =>
    intro fu R hf hk h10 h7
    obtain ⟨fu, rfl⟩ : ∃ m, fu = m + 1 := ⟨fu - 1, by omega⟩
    have le : w / P ^ (P - (k + 1)) ≤ w := Nat.div_le_self _ _
    have md : w / P ^ (P - (k + 1)) % P < P := Nat.mod_lt _ (by omega)
    have er : irm (nI (w / P ^ (P - (k + 1)))) (nI P) = nI (w / P ^ (P - (k + 1)) % P) := pk_rem (by omega) (by omega) (by omega)
    have ed : nI (w / P ^ (P - (k + 1))) / nI P = nI (w / P ^ (P - k)) := by
      rw [pk_div (by omega) (by omega) (by omega), Nat.div_div_eq_div_mul, ← Nat.pow_succ, show (P - (k + 1)).succ = P - k by omega]
    have dz : (!(decide (nI P = 0))) = true := by rw [decide_eq_false (nI_ne0 (by omega) (by omega))]; rfl
    have z10 : up R 8 k (nI (h (w / P ^ (P - (k + 1)) % P))) 0 10 = nI P := by rw [up_k (by decide)]; exact h10
    obtain ⟨R1, a1, a2, a3, a4⟩ := ih fu (up R 8 k (nI (h (w / P ^ (P - (k + 1)) % P)))) (by omega) (by omega) z10 (fun i hi => by rw [up_k (by decide)]; exact h7 i hi)
    refine ⟨R1, ?_, fun p hp => ?_, fun p hp => by rw [a3 p (by omega), up_j (by omega)], fun q hq => by rw [a4 q hq]; funext z; exact up_k hq⟩
    · show m_X5_wayOf_B15 (m_X5_wayOf_L15 fu) x2 x3 (nI (w / P ^ (P - (k + 1)))) (nI (k + 1) - 1) R = _
      rw [m_X5_wayOf_B15, nI_m, if_neg (nI_pos (by omega)), h10, dz, gd_t, er, inr_n (by omega) (by omega), gd_t, inr_n (by omega) (by omega), gd_t, nI_clamp (by omega), nI_clamp (by omega), h7 _ md, lt1_d, z10, dz, gd_t, ed, lt1_d, lt1_d, sub_m1]
      exact a1
    · by_cases e : p = k
      · subst e
        rw [a3 p (Nat.le_refl _), up_s]
        unfold vcF
        rw [show P - 1 - p = P - (p + 1) by omega]
      · exact a2 p (by omega)

