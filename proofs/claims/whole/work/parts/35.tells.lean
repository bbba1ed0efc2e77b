/-! what was told of a letter, read back -/
def foS (tx : Tx) (l : Nat) (it : Nat → Int32) : Nat → Nat → Vs → Int32
  | 0, _, _ => -1
  | k + 1, i, s => if oneS tx s l 6 l = it i then foS tx l it k (i + 1) (oneS tx s l) else nI i
def dfS (tx : Tx) (l : Nat) (it : Nat → Int32) : Nat → Nat → Vs → Int32
  | 0, _, _ => -1
  | k + 1, i, s => if dayS tx s 6 l = it i then dfS tx l it k (i + 1) (dayS tx s) else nI i
theorem fo_df {tx : Tx} {l : Nat} {it : Nat → Int32} : ∀ (k i : Nat) (s t : Vs), Ag l s t → l < vL s → foS tx l it k i t = dfS tx l it k i s := by
  intro k
  induction k with
  | zero => intro i s t _ _; rfl
  | succ k ih =>
    intro i s t h hl
    have h1 := h.day (tx := tx) hl
    unfold foS dfS
    rw [h1.2.2.1, ih (i + 1) _ _ h1 (by rw [dayS_P.2]; exact hl)]
theorem gd_pass {β : Type} {v : Nat} {x : Int32} {M : Mm} (F : Mm → Option β) : (bd (m_X3_goesDown v x M) fun _ M1 => lt1 (up M1 v 1 (((M1 v 1) + (1 : Int32)))) fun M3 => F M3) = bd (m_X3_passDayOf v x M) fun _ M3 => F M3 := by
  unfold m_X3_passDayOf
  cases h : m_X3_goesDown v x M with
  | none => rfl
  | some p => rfl
theorem x3_first_L {s N l T : Nat} {tx : Tx} {it : Nat → Int32} (hN : N ≤ 40) : ∀ (k i n : Nat) (A : Mm), k < n → i + k = N → TXx A T tx → WF T (nx A 16) → l < vL (nx A 16) → A (36 + 2 * s) 1 = nI N → (∀ j, j < N → A (36 + 2 * s + 1) j = it j) → ∃ A', m_X3_firstOtherwise_L2 16 (36 + 2 * s) n (nI l) (nI i) A = some (foS tx l it k i (nx A 16), A') ∧ FV 16 A A' := by
  intro k
  induction k with
  | zero =>
    intro i n A hn hi hx hw hl z1 hit
    obtain ⟨n, rfl⟩ : ∃ m, n = m + 1 := ⟨n - 1, by omega⟩
    show ∃ A', m_X3_firstOtherwise_B2 16 (36 + 2 * s) (m_X3_firstOtherwise_L2 16 (36 + 2 * s) n) (nI l) (nI i) A = _ ∧ _
    rw [m_X3_firstOtherwise_B2, z1, if_pos (nI_le (by omega) (by omega))]
    exact ⟨A, rfl, FV.rf⟩
  | succ k ih =>
    intro i n A hn hi hx hw hl z1 hit
    obtain ⟨n, rfl⟩ : ∃ m, n = m + 1 := ⟨n - 1, by omega⟩
    obtain ⟨A1, a1, a2, a3⟩ := x3_oneDay (v := 16) (by omega) hx hw hl
    have w1 : WF T (nx A1 16) := by rw [a2]; exact hw.ones hl
    have l1 : l < vL (nx A1 16) := by rw [a2, oneS_P.2]; exact hl
    have t6 := w1.cv.q (i := 6) (by omega) (by omega) l1
    have s0 : ∀ k, 36 ≤ k → A1 k = A k := fun k hk => a3.1 k (by omega) (by omega) (by omega)
    have z2 : A1 (36 + 2 * s) 1 = nI N := by rw [s0 _ (by omega)]; exact z1
    have it2 : ∀ j, j < N → A1 (36 + 2 * s + 1) j = it j := fun j hj => by rw [s0 _ (by omega)]; exact hit j hj
    show ∃ A', m_X3_firstOtherwise_B2 16 (36 + 2 * s) (m_X3_firstOtherwise_L2 16 (36 + 2 * s) n) (nI l) (nI i) A = _ ∧ _
    rw [m_X3_firstOtherwise_B2, z1, if_neg (nI_ge (by omega) (by omega)), gd_pass, a1, bd_s, (x3_of_let w1.cv l1).2.2.1, bd_s, x0_item z2 hN (by omega), bd_s, it2 i (by omega), ← t6]
    unfold foS
    rw [← a2]
    by_cases e : nx A1 16 6 l = it i
    · rw [if_pos e, if_pos e, lt1_d, nI_1]
      obtain ⟨A', b1, b2⟩ := ih (i + 1) n A1 (by omega) (by omega) (FV.tx (by omega) hx a3) w1 l1 z2 it2
      exact ⟨A', b1, a3.tr b2⟩
    · rw [if_neg e, if_neg e]
      exact ⟨A1, rfl, a3⟩
theorem x3_first {A : Mm} {s N l T : Nat} {tx : Tx} {it : Nat → Int32} {u : Vs} (hN : N ≤ 40) (hx : TXx A T tx) (hu : nx A 16 = u) (hw : WF T u) (hl : l < vL u) (z1 : A (36 + 2 * s) 1 = nI N) (hit : ∀ j, j < N → A (36 + 2 * s + 1) j = it j) : ∃ A', m_X3_firstOtherwise 16 (36 + 2 * s) (nI l) A = some (dfS tx l it N 0 u, A') ∧ FV 16 A A' := by
  subst hu
  obtain ⟨A', a1, a2⟩ := x3_first_L (s := s) (it := it) hN N 0 FU A (by unfold FU; omega) (by omega) hx hw hl z1 hit
  rw [nI_0] at a1
  refine ⟨A', ?_, a2⟩
  unfold m_X3_firstOtherwise
  rw [lt1_d, a1, fo_df N 0 _ _ Ag.rf hl]
theorem x5_first_L {s N l T : Nat} {tx : Tx} {it : Nat → Int32} (hs : s < 4) (hN : N ≤ 40) : ∀ (k i n : Nat) (R : Mm), k + 1 < n → i + k = N → TXm R T tx → WF T (nm R) → l < vL (nm R) → R 14 s = nI N → (∀ j, j < N → R 15 (40 * s + j) = it j) → ∃ R', m_X5_firstOther_L9 n (nI s) (nI l) (-1) (nI i) R = bd (m_X5_laysBack R') (fun _ M => some (dfS tx l it k i (nm R), M)) ∧ HV R R' := by
  have stop : ∀ (n i : Nat) (x : Int32) (R : Mm), ¬ x = -1 → m_X5_firstOther_B9 (m_X5_firstOther_L9 n) (nI s) (nI l) x (nI i) R = bd (m_X5_laysBack R) (fun _ M => some (x, M)) := by
    intro n i x R hx
    unfold m_X5_firstOther_B9 m_X5_firstOther_J67
    rw [inr_n hs (by omega), gd_t]
    by_cases e : R 14 (nI s).toNatClampNeg ≤ nI i
    · rw [if_pos e]
    · rw [if_neg e, if_neg hx]
  intro k
  induction k with
  | zero =>
    intro i n R hn hi hx hw hl z1 hit
    obtain ⟨n, rfl⟩ : ∃ m, n = m + 1 := ⟨n - 1, by omega⟩
    show ∃ R', m_X5_firstOther_B9 (m_X5_firstOther_L9 n) (nI s) (nI l) (-1) (nI i) R = _ ∧ _
    rw [m_X5_firstOther_B9, inr_n hs (by omega), gd_t, nI_clamp (by omega), z1, if_pos (nI_le (by omega) (by omega))]
    exact ⟨R, rfl, HV.rf⟩
  | succ k ih =>
    intro i n R hn hi hx hw hl z1 hit
    obtain ⟨n, rfl⟩ : ∃ m, n = m + 1 := ⟨n - 1, by omega⟩
    obtain ⟨R1, a1, a2, a3⟩ := x5_day hx hw
    have w1 : WF T (nm R1) := by rw [a2]; exact hw.day
    have l1 : l < vL (nm R1) := by rw [a2, dayS_P.2]; exact hl
    have h8 := w1.mv.2.2.2
    have e6 := (w1.mv.q l1).2.2.1
    have z2 : R1 14 s = nI N := by rw [a3.1 14 (by decide) (by decide)]; exact z1
    have it2 : ∀ j, j < N → R1 15 (40 * s + j) = it j := fun j hj => by rw [a3.1 15 (by decide) (by decide)]; exact hit j hj
    show ∃ R', m_X5_firstOther_B9 (m_X5_firstOther_L9 n) (nI s) (nI l) (-1) (nI i) R = _ ∧ _
    rw [m_X5_firstOther_B9, inr_n hs (by omega), gd_t, nI_clamp (show s < 2 ^ 31 by omega), z1, if_neg (nI_ge (by omega) (by omega)), if_pos rfl, a1, bd_s, pl5, pla3, pl40, nI_add, inr_n (show 5 * l + 3 < 40 by omega) (by omega), gd_t, inr_n (show 40 * s + i < 160 by omega) (by omega), gd_t, nI_clamp (show 5 * l + 3 < 2 ^ 31 by omega), nI_clamp (show 40 * s + i < 2 ^ 31 by omega), it2 i (by omega), ← e6]
    unfold m_X5_firstOther_J60 dfS
    rw [← a2]
    by_cases e : nm R1 6 l = it i
    · rw [if_pos e, if_pos e, lt1_d, lt1_d, nI_1]
      obtain ⟨R', b1, b2⟩ := ih (i + 1) n R1 (by omega) (by omega) (HV.tx hx a3) w1 l1 z2 it2
      exact ⟨R', b1, a3.tr b2⟩
    · rw [if_neg e, if_neg e, lt1_d, lt1_d, nI_1]
      obtain ⟨n, rfl⟩ : ∃ m, n = m + 1 := ⟨n - 1, by omega⟩
      refine ⟨R1, ?_, a3⟩
      show m_X5_firstOther_B9 (m_X5_firstOther_L9 n) (nI s) (nI l) (nI i) (nI (i + 1)) R1 = _
      exact stop n (i + 1) (nI i) R1 (nI_m1 (by omega))
theorem x5_first {R : Mm} {s N l T : Nat} {tx : Tx} {it : Nat → Int32} {u : Vs} (hs : s < 4) (hN : N ≤ 40) (hx : TXm R T tx) (hu : nm R = u) (hw : WF T u) (hl : l < vL u) (z1 : R 14 s = nI N) (hit : ∀ j, j < N → R 15 (40 * s + j) = it j) : ∃ R', m_X5_firstOther (nI s) (nI l) R = some (dfS tx l it N 0 u, R') ∧ KR R R' := by
  subst hu
  obtain ⟨R1, c0, ca⟩ := x5_aside R
  have n1 : nm R1 = nm R := aside_nm ca.2.2.2
  obtain ⟨R2, a1, a2⟩ := x5_first_L (s := s) (it := it) hs hN N 0 FU R1 (by unfold FU; omega) (by omega) (aside_tx hx ca.2.2.2) (by rw [n1]; exact hw) (by rw [n1]; exact hl) (by rw [ca.2.2.2 14 (by decide)]; exact z1) (fun j hj => by rw [ca.2.2.2 15 (by decide)]; exact hit j hj)
  obtain ⟨R3, e0, ec⟩ := x5_back R2
  rw [nI_0, n1] at a1
  refine ⟨R3, ?_, x5_between ca a2 ec⟩
  unfold m_X5_firstOther
  rw [c0, bd_s, lt1_d, lt1_d, a1, e0, bd_s]
/-! sets, counts, the least: upwards and downwards -/
def setD (ok : Nat → Bool) : Nat → Int32 → Int32
  | 0, a => a
  | q + 1, a => setD ok q (if ok q = true then a ||| (if q < 10 then shl 1 (nI q) else 0) else a)
def cntS (ok : Nat → Bool) : Nat → Nat → Nat → Nat
  | 0, _, c => c
  | k + 1, i, c => cntS ok k (i + 1) (if ok i = true then c + 1 else c)
def cntD (ok : Nat → Bool) : Nat → Nat → Nat
  | 0, c => c
  | q + 1, c => cntD ok q (if ok q = true then c + 1 else c)
def fstS (ok : Nat → Bool) : Nat → Nat → Int32
  | 0, _ => -1
  | k + 1, i => if ok i = true then nI i else fstS ok k (i + 1)
def lstD (ok : Nat → Bool) : Nat → Int32 → Int32
  | 0, z => z
  | q + 1, z => lstD ok q (if ok q = true then nI q else z)
theorem b_sh10 : ∀ l, l < 10 → ∀ i, i < 32 → bt (shl 1 (nI l)) i = decide (i = l) := by decide +kernel
theorem setA_bt10 (p : Nat → Bool) : ∀ (k l : Nat) (a : Int32), l + k ≤ 10 → ∀ i, i < 32 → bt (setA p k l a) i = (bt a i || (decide (l ≤ i) && decide (i < l + k) && p i)) := by
  intro k
  induction k with
  | zero =>
    intro l a _ i _
    rw [show (decide (l ≤ i) && decide (i < l + 0)) = false by
      by_cases h : l ≤ i
      · rw [decide_eq_false (show ¬ i < l + 0 by omega), Bool.and_false]
      · rw [decide_eq_false h, Bool.false_and]]
    rw [Bool.false_and, Bool.or_false]
    rfl
  | succ k ih =>
    intro l a hl i hi
    unfold setA
    rw [ih (l + 1) _ (by omega) i hi]
    by_cases e : i = l
    · subst e
      rw [decide_eq_false (show ¬ i + 1 ≤ i by omega), Bool.false_and, Bool.false_and, Bool.or_false, decide_eq_true (Nat.le_refl i), decide_eq_true (show i < i + (k + 1) by omega), Bool.true_and, Bool.true_and]
      by_cases q : p i = true
      · rw [if_pos q, b_or, b_sh10 i (by omega) i hi, q, decide_eq_true rfl]
      · rw [if_neg q]
        rw [show p i = false by cases h : p i with | false => rfl | true => exact absurd h q]
        rw [Bool.or_false]
    · have q : bt (if p l = true then a ||| shl 1 (nI l) else a) i = bt a i := by
        split
        · rw [b_or, b_sh10 l (by omega) i hi, decide_eq_false e, Bool.or_false]
        · rfl
      rw [q]
      have q2 : decide (l + 1 ≤ i) = decide (l ≤ i) := decide_eq_decide.mpr (by omega)
      have q3 : decide (i < l + 1 + k) = decide (i < l + (k + 1)) := decide_eq_decide.mpr (by omega)
      rw [q2, q3]
theorem setD_bt (p : Nat → Bool) : ∀ (k : Nat) (a : Int32), k ≤ 10 → ∀ i, i < 32 → bt (setD p k a) i = (bt a i || (decide (i < k) && p i)) := by
  intro k
  induction k with
  | zero =>
    intro a _ i _
    rw [decide_eq_false (show ¬ i < 0 by omega), Bool.false_and, Bool.or_false]
    rfl
  | succ k ih =>
    intro a hk i hi
    unfold setD
    rw [ih _ (by omega) i hi, if_pos (show k < 10 by omega)]
    by_cases e : i = k
    · subst e
      rw [decide_eq_false (show ¬ i < i by omega), Bool.false_and, Bool.or_false, decide_eq_true (show i < i + 1 by omega), Bool.true_and]
      by_cases q : p i = true
      · rw [if_pos q, b_or, b_sh10 i (by omega) i hi, q, decide_eq_true rfl]
      · rw [if_neg q]
        rw [show p i = false by cases h : p i with | false => rfl | true => exact absurd h q]
        rw [Bool.or_false]
    · have q : bt (if p k = true then a ||| shl 1 (nI k) else a) i = bt a i := by
        split
        · rw [b_or, b_sh10 k (by omega) i hi, decide_eq_false e, Bool.or_false]
        · rfl
      rw [q]
      have q3 : decide (i < k) = decide (i < k + 1) := decide_eq_decide.mpr (by omega)
      rw [q3]
theorem set_DA (p : Nat → Bool) {k : Nat} (hk : k ≤ 10) : setD p k 0 = setA p k 0 0 := by
  apply b_ext
  intro i hi
  rw [setD_bt p k 0 hk i hi, setA_bt10 p k 0 0 (by omega) i hi, decide_eq_true (Nat.zero_le i), Bool.true_and, Nat.zero_add]
theorem cnt_last (ok : Nat → Bool) : ∀ (k i c : Nat), cntS ok (k + 1) i c = (if ok (i + k) = true then cntS ok k i c + 1 else cntS ok k i c) := by
  intro k
  induction k with
  | zero => intro i c; rfl
  | succ k ih =>
    intro i c
    show cntS ok (k + 1) (i + 1) (if ok i = true then c + 1 else c) = _
    rw [ih (i + 1), show i + 1 + k = i + (k + 1) by omega]
    rfl
theorem cntD_add (ok : Nat → Bool) : ∀ (k c : Nat), cntD ok k (c + 1) = cntD ok k c + 1 := by
  intro k
  induction k with
  | zero => intro c; rfl
  | succ k ih =>
    intro c
    show cntD ok k (if ok k = true then c + 1 + 1 else c + 1) = cntD ok k (if ok k = true then c + 1 else c) + 1
    by_cases e : ok k = true
    · rw [if_pos e, if_pos e, ih]
    · rw [if_neg e, if_neg e, ih]
theorem cnt_DS (ok : Nat → Bool) : ∀ (k c : Nat), cntD ok k c = cntS ok k 0 c := by
  intro k
  induction k with
  | zero => intro c; rfl
  | succ k ih =>
    intro c
    rw [cnt_last, Nat.zero_add]
    show cntD ok k (if ok k = true then c + 1 else c) = _
    by_cases e : ok k = true
    · rw [if_pos e, if_pos e, cntD_add, ih]
    · rw [if_neg e, if_neg e, ih]
theorem lst_fst (ok : Nat → Bool) : ∀ (k m : Nat), lstD ok k (fstS ok m k) = fstS ok (k + m) 0 := by
  intro k
  induction k with
  | zero => intro m; rw [Nat.zero_add]; rfl
  | succ k ih =>
    intro m
    have := ih (m + 1)
    rw [show k + (m + 1) = k + 1 + m by omega] at this
    exact this
theorem cntS_le (ok : Nat → Bool) : ∀ (k i c : Nat), cntS ok k i c ≤ c + k := by
  intro k
  induction k with
  | zero => intro i c; exact Nat.le_refl _
  | succ k ih =>
    intro i c
    have := ih (i + 1) (if ok i = true then c + 1 else c)
    have h2 : (if ok i = true then c + 1 else c) ≤ c + 1 := by split <;> omega
    show cntS ok k (i + 1) (if ok i = true then c + 1 else c) ≤ _
    omega
/-! the class -/
def varS (c p : Nat) (s : Vs) (v : Int32) : Vs := if c = 1 then up s 1 p v else if c = 2 then up s 2 p v else up s 0 3 v
def okS (tx : Tx) (l N : Nat) (it : Nat → Int32) (f : Int32 → Vs) (v : Nat) : Bool := decide (dfS tx l it N 0 (f (nI v)) = -1)
theorem okS_t {tx : Tx} {l N : Nat} {it : Nat → Int32} {f : Int32 → Vs} {v : Nat} : (okS tx l N it f v = true) ↔ dfS tx l it N 0 (f (nI v)) = -1 := by
  unfold okS
  exact ⟨of_decide_eq_true, decide_eq_true⟩
theorem x3_all_L {Mx : Mm} {st N l p c lim T : Nat} {tx : Tx} {it : Nat → Int32} {s : Vs} (hN : N ≤ 40) (hx : TXx Mx T tx) (h7 : nx Mx 7 = s) (hw : WF T s) (s6 : s 0 6 = 0) (hl : l < vL s) (hp : p < vP s) (hc : c = 1 ∨ c = 2 ∨ c = 5) (hlim : lim ≤ 10) (hv : ∀ v, v < lim → WF T (varS c p s (nI v)) ∧ vL (varS c p s (nI v)) = vL s) (z1 : Mx (36 + 2 * st) 1 = nI N) (hit : ∀ j, j < N → Mx (36 + 2 * st + 1) j = it j) : ∀ (k i n : Nat) (b : Int32) (A : Mm), k < n → i + k = lim → FV 16 Mx A → ∃ A', m_X4_allSo_L6 (36 + 2 * st) n (nI l) (nI p) (nI c) (nI lim) b (nI i) A = some (setA (okS tx l N it (varS c p s)) k i b, A') ∧ FV 16 Mx A' := by
  intro k
  induction k with
  | zero =>
    intro i n b A hn hi hf
    obtain ⟨n, rfl⟩ : ∃ m, n = m + 1 := ⟨n - 1, by omega⟩
    show ∃ A', m_X4_allSo_B6 (36 + 2 * st) (m_X4_allSo_L6 (36 + 2 * st) n) (nI l) (nI p) (nI c) (nI lim) b (nI i) A = _ ∧ _
    rw [m_X4_allSo_B6, if_pos (nI_le (by omega) (by omega))]
    exact ⟨A, rfl, hf⟩
  | succ k ih =>
    intro i n b A hn hi hf
    obtain ⟨n, rfl⟩ : ∃ m, n = m + 1 := ⟨n - 1, by omega⟩
    have hA : nx A 7 = s := by rw [hf.nxe (u := 7) (by omega) (by omega)]; exact h7
    obtain ⟨A1, a1, a2, a3⟩ := x3_take (M := A) (v := 16) (w := 7) (T := T) (by omega) (by omega) (by rw [hA]; exact hw)
    rw [hA, keep0 s6] at a2
    have cA : CV A1 16 (vP s) (vL s) := by
      have : WF T (nx A1 16) := by rw [a2]; exact hw
      have := this.cv
      rw [a2] at this
      exact this
    have h5 := cA.2.1
    obtain ⟨wv, lv⟩ := hv i (by omega)
    have prb : ∀ A2 : Mm, nx A2 16 = varS c p s (nI i) → FV 16 A1 A2 → ∃ A', m_X4_allSo_J87 (36 + 2 * st) (m_X4_allSo_L6 (36 + 2 * st) n) (nI l) (nI p) (nI c) (nI lim) b (nI i) A2 = some (setA (okS tx l N it (varS c p s)) (k + 1) i b, A') ∧ FV 16 Mx A' := by
      intro A2 n2 f2
      have f3 := (hf.tr a3).tr f2
      obtain ⟨A3, b1, b2⟩ := x3_first (A := A2) (s := st) (N := N) (l := l) (T := T) (tx := tx) (it := it) hN (FV.tx (by omega) hx f3) n2 wv (by rw [lv]; exact hl) (by rw [f3.1 _ (by omega) (by omega) (by omega)]; exact z1) (fun j hj => by rw [f3.1 _ (by omega) (by omega) (by omega)]; exact hit j hj)
      unfold m_X4_allSo_J87 m_X4_allSo_J109 setA
      rw [b1, bd_s]
      by_cases e : dfS tx l it N 0 (varS c p s (nI i)) = -1
      · rw [if_pos e, if_pos (okS_t.mpr e), lt1_d, lt1_d, nI_1]
        exact ih (i + 1) n _ A3 (by omega) (by omega) (f3.tr b2)
      · rw [if_neg e, if_neg (fun z => e (okS_t.mp z)), lt1_d, nI_1]
        exact ih (i + 1) n _ A3 (by omega) (by omega) (f3.tr b2)
    show ∃ A', m_X4_allSo_B6 (36 + 2 * st) (m_X4_allSo_L6 (36 + 2 * st) n) (nI l) (nI p) (nI c) (nI lim) b (nI i) A = _ ∧ _
    rw [m_X4_allSo_B6, if_neg (nI_ge (by omega) (by omega)), a1, bd_s]
    rcases hc with rfl | rfl | rfl
    · rw [if_pos (by decide)]
      unfold m_X3_changeKind
      rw [x3_one_in cA hp, bd_s, if_neg one_ne0, inr_n (by omega) (by omega), gd_t, lt1_d, bd_s, nI_clamp (by omega)]
      refine prb _ ?_ (FV.up (i := 1) (by omega) (by omega))
      rw [nx_up (v := 16) (i := 1) cA (by omega), a2]
      rfl
    · rw [if_neg (by decide), if_pos (by decide)]
      unfold m_X3_changeNumber
      rw [x3_one_in cA hp, bd_s, if_neg one_ne0, inr_n (by omega) (by omega), gd_t, lt1_d, bd_s, nI_clamp (by omega)]
      refine prb _ ?_ (FV.up (i := 2) (by omega) (by omega))
      rw [nx_up (v := 16) (i := 2) cA (by omega), a2]
      rfl
    · rw [if_neg (by decide), if_neg (by decide), lt1_d]
      refine prb _ ?_ (FV.up (v := 16) (i := 0) (by omega) (by omega))
      have := nx_up (M := A1) (v := 16) (i := 0) (j := 3) (x := nI i) cA (by omega)
      rw [a2] at this
      exact this
theorem x3_dys_L {Mx : Mm} {st N l T le : Nat} {tx : Tx} {it : Nat → Int32} {s : Vs} (hN : N ≤ 40) (hx : TXx Mx T tx) (h7 : nx Mx 7 = s) (hw : WF T s) (s6 : s 0 6 = 0) (hl : l < vL s) (hle : le < 2) (z1 : Mx (36 + 2 * st) 1 = nI N) (hit : ∀ j, j < N → Mx (36 + 2 * st + 1) j = it j) : ∀ (k i n c : Nat) (A : Mm), k < n → i + k = 100 → FV 16 Mx A → ∃ A', m_X4_daysSo_L6 (36 + 2 * st) n (nI l) (nI le) (nI c) (nI i) A = some (if le = 0 then nI (cntS (okS tx l N it (fun x => up s 0 1 x)) k i c) else fstS (okS tx l N it (fun x => up s 0 1 x)) k i, A') ∧ FV 16 Mx A' := by
  have e0 : ∀ {α : Type} (a b : α), (if nI le = 0 then a else b) = if le = 0 then a else b := by
    intro α a b
    rcases (show le = 0 ∨ le = 1 by omega) with rfl | rfl
    · rw [if_pos nI_0, if_pos rfl]
    · rw [if_neg (by decide), if_neg (by decide)]
  intro k
  induction k with
  | zero =>
    intro i n c A hn hi hf
    obtain ⟨n, rfl⟩ : ∃ m, n = m + 1 := ⟨n - 1, by omega⟩
    show ∃ A', m_X4_daysSo_B6 (36 + 2 * st) (m_X4_daysSo_L6 (36 + 2 * st) n) (nI l) (nI le) (nI c) (nI i) A = _ ∧ _
    rw [m_X4_daysSo_B6, if_pos (show (100 : Int32) ≤ nI i from nI_le (a := 100) (by omega) (by omega)), e0]
    rcases (show le = 0 ∨ le = 1 by omega) with rfl | rfl
    · exact ⟨A, rfl, hf⟩
    · exact ⟨A, rfl, hf⟩
  | succ k ih =>
    intro i n c A hn hi hf
    obtain ⟨n, rfl⟩ : ∃ m, n = m + 1 := ⟨n - 1, by omega⟩
    have hA : nx A 7 = s := by rw [hf.nxe (u := 7) (by omega) (by omega)]; exact h7
    obtain ⟨A1, a1, a2, a3⟩ := x3_take (M := A) (v := 16) (w := 7) (T := T) (by omega) (by omega) (by rw [hA]; exact hw)
    rw [hA, keep0 s6] at a2
    have cA : CV A1 16 (vP s) (vL s) := by
      have : WF T (nx A1 16) := by rw [a2]; exact hw
      have := this.cv
      rw [a2] at this
      exact this
    have n2 : nx (up A1 16 1 (nI i)) 16 = up s 0 1 (nI i) := by
      have := nx_up (M := A1) (v := 16) (i := 0) (j := 1) (x := nI i) cA (by omega)
      rw [a2] at this
      exact this
    have f3 : FV 16 Mx (up A1 16 1 (nI i)) := (hf.tr a3).tr (FV.up (v := 16) (i := 0) (by omega) (by omega))
    obtain ⟨A3, b1, b2⟩ := x3_first (A := up A1 16 1 (nI i)) (s := st) (N := N) (l := l) (T := T) (tx := tx) (it := it) hN (FV.tx (by omega) hx f3) n2 (hw.up0 (Or.inl rfl)) (by rw [vL_up0 (by decide)]; exact hl) (by rw [f3.1 _ (by omega) (by omega) (by omega)]; exact z1) (fun j hj => by rw [f3.1 _ (by omega) (by omega) (by omega)]; exact hit j hj)
    show ∃ A', m_X4_daysSo_B6 (36 + 2 * st) (m_X4_daysSo_L6 (36 + 2 * st) n) (nI l) (nI le) (nI c) (nI i) A = _ ∧ _
    rw [m_X4_daysSo_B6, if_neg (show ¬ (100 : Int32) ≤ nI i from nI_ge (b := 100) (by omega) (by omega)), a1, bd_s, lt1_d, b1, bd_s, e0]
    unfold m_X4_daysSo_J56 cntS fstS
    by_cases e : dfS tx l it N 0 (up s 0 1 (nI i)) = -1
    · have ok : okS tx l N it (fun x => up s 0 1 x) i = true := okS_t.mpr e
      rw [if_pos e, if_pos ok, if_pos ok]
      rcases (show le = 0 ∨ le = 1 by omega) with rfl | rfl
      · rw [if_pos rfl, lt1_d, lt1_d, nI_1, nI_1]
        exact ih (i + 1) n (c + 1) A3 (by omega) (by omega) (f3.tr b2)
      · rw [if_neg (by decide), if_neg (by decide)]
        exact ⟨A3, rfl, f3.tr b2⟩
    · have ok : ¬ okS tx l N it (fun x => up s 0 1 x) i = true := fun z => e (okS_t.mp z)
      rw [if_neg e, if_neg ok, if_neg ok, lt1_d, nI_1]
      exact ih (i + 1) n c A3 (by omega) (by omega) (f3.tr b2)
