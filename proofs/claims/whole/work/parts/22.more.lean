/-! bits (out of the kit's starting texts) -/
def bt (x : Int32) (i : Nat) : Bool := x.toBitVec.getLsbD i
theorem b_ext {x y : Int32} (h : ∀ i, i < 32 → bt x i = bt y i) : x = y := Int32.toBitVec_inj.mp (BitVec.eq_of_getLsbD_eq (fun i hi => h i hi))
theorem b_or (x y : Int32) (i : Nat) : bt (x ||| y) i = (bt x i || bt y i) := by unfold bt; rw [Int32.toBitVec_or, BitVec.getLsbD_or]
theorem b_and (x y : Int32) (i : Nat) : bt (x &&& y) i = (bt x i && bt y i) := by unfold bt; rw [Int32.toBitVec_and, BitVec.getLsbD_and]
theorem b_xor (x y : Int32) (i : Nat) : bt (x ^^^ y) i = (bt x i ^^ bt y i) := by unfold bt; rw [Int32.toBitVec_xor, BitVec.getLsbD_xor]
theorem b_m1 : ∀ i, i < 32 → bt (-1) i = true := by decide +kernel
theorem b_0 (i : Nat) : bt 0 i = false := BitVec.getLsbD_zero
theorem b_sh1 : ∀ l, l < 8 → ∀ i, i < 32 → bt (shl 1 (nI l)) i = decide (i = l) := by decide +kernel
/-- a set of letters, letter by letter -/
def setA (p : Nat → Bool) : Nat → Nat → Int32 → Int32
  | 0, _, a => a
  | k + 1, l, a => setA p k (l + 1) (if p l = true then a ||| shl 1 (nI l) else a)
theorem setA_cong {p q : Nat → Bool} : ∀ (k l : Nat) (a : Int32), (∀ m, l ≤ m → m < l + k → p m = q m) → setA p k l a = setA q k l a := by
  intro k
  induction k with
  | zero => intro l a _; rfl
  | succ k ih =>
    intro l a h
    unfold setA
    rw [h l (Nat.le_refl l) (by omega)]
    exact ih (l + 1) _ (fun m h1 h2 => h m (by omega) (by omega))
theorem setA_bt (p : Nat → Bool) : ∀ (k l : Nat) (a : Int32), l + k ≤ 8 → ∀ i, i < 32 → bt (setA p k l a) i = (bt a i || (decide (l ≤ i) && decide (i < l + k) && p i)) := by
  intro k
  induction k with
  | zero =>
    intro l a _ i _
    rw [show (decide (l ≤ i) && decide (i < l + 0)) = false by
      by_cases h : l ≤ i
      · rw [decide_eq_false (show ¬ i < l + 0 by omega), Bool.and_false]
      · rw [decide_eq_false h, Bool.false_and]]
    rw [Bool.false_and, Bool.or_false]
    rfl
  | succ k ih =>
    intro l a hl i hi
    unfold setA
    rw [ih (l + 1) _ (by omega) i hi]
    by_cases e : i = l
    · subst e
      rw [decide_eq_false (show ¬ i + 1 ≤ i by omega), Bool.false_and, Bool.false_and, Bool.or_false, decide_eq_true (Nat.le_refl i), decide_eq_true (show i < i + (k + 1) by omega), Bool.true_and, Bool.true_and]
      by_cases q : p i = true
      · rw [if_pos q, b_or, b_sh1 i (by omega) i hi, q, decide_eq_true rfl]
      · rw [if_neg q]
        rw [show p i = false by cases h : p i with | false => rfl | true => exact absurd h q]
        rw [Bool.or_false]
    · have q : bt (if p l = true then a ||| shl 1 (nI l) else a) i = bt a i := by
        split
        · rw [b_or, b_sh1 l (by omega) i hi, decide_eq_false e, Bool.or_false]
        · rfl
      rw [q]
      have q2 : decide (l + 1 ≤ i) = decide (l ≤ i) := decide_eq_decide.mpr (by omega)
      have q3 : decide (i < l + 1 + k) = decide (i < l + (k + 1)) := decide_eq_decide.mpr (by omega)
      rw [q2, q3]
theorem hosA_set (s : Vs) : ∀ (k l : Nat) (a : Int32), l + k ≤ 8 → hosA s k l a = setA (fun m => decide (s 6 m = -1)) k l a := by
  intro k
  induction k with
  | zero => intro l a _; rfl
  | succ k ih =>
    intro l a hl
    unfold hosA setA
    rw [ih (l + 1) _ (by omega)]
    by_cases e : s 6 l = -1
    · rw [if_pos e, if_pos (decide_eq_true e)]
    · rw [if_neg e, if_neg (by rw [decide_eq_false e]; decide), shl_0 l (by omega), or_0]
/-- what a step leaves -/
theorem step_oth {tx : Tx} {s : Vs} {l a m : Nat} (h : m ≠ l ∨ a ≤ 5) : stepS tx s l a m = s a m := by
  have z : ∀ (t : Vs) (i : Nat) (x : Int32), 6 ≤ i → up t i l x a m = t a m := by
    intro t i x hi
    by_cases q : a = i
    · subst q; exact up_j (by omega)
    · exact up_k q
  unfold stepS
  simp only []
  split
  · exact z _ _ _ (by decide)
  split
  · rw [z _ _ _ (by decide), z _ _ _ (by decide)]
  split
  · rw [z _ _ _ (by decide), z _ _ _ (by decide), z _ _ _ (by decide)]
  · exact z _ _ _ (by decide)
theorem step_home {T : Nat} {tx : Tx} {s : Vs} {l : Nat} (h : WF T s) (hl : l < vL s) (ha : ¬ s 6 l = -1) : (stepS tx s l 6 l = -1) ↔ whoS s (s 6 l) = s 5 l := by
  obtain ⟨-, ⟨b, b1, b2⟩, g3, -⟩ := h.2.2.2.2 l hl
  have h5 := h.1.2.1
  have hd : ¬ dnS (s 6 l) = -1 := by
    obtain ⟨a, a1, a2⟩ := g3.resolve_left ha
    rw [a2, dn_all a a1]
    exact nI_m1 (by omega)
  unfold stepS
  simp only []
  split
  · rename_i hw
    rw [up_s, hw, b2]
    exact ⟨fun q => absurd q hd, fun q => absurd q.symm (nI_m1 (by omega))⟩
  split
  · rename_i hw ht
    rw [up_s]
    exact ⟨fun _ => ht, fun _ => rfl⟩
  split
  · rename_i hw ht hc
    rw [up_s]
    exact ⟨fun q => absurd q hd, fun q => absurd q ht⟩
  · rename_i hw ht hc
    rw [up_k (by decide)]
    exact ⟨fun q => absurd q ha, fun q => absurd q ht⟩
theorem who_eq {s t : Vs} (h : vP s = vP t) (h3 : ∀ p, s 3 p = t 3 p) (x : Int32) : whoS s x = whoS t x := by
  unfold whoS
  rw [h]
  have : ∀ k p, whoA s x k p = whoA t x k p := by
    intro k
    induction k with
    | zero => intro p; rfl
    | succ k ih => intro p; unfold whoA; rw [h3, ih]
  exact this _ _
/-- the letters that come home by a day, and where all are behind it -/
theorem day_sets {T : Nat} {tx : Tx} : ∀ (k l : Nat) (s : Vs) (a : Int32), WF T s → l + k ≤ vL s → camA tx k l s a = setA (fun m => !(decide (s 6 m = -1)) && decide (whoS s (s 6 m) = s 5 m)) k l a ∧ ∀ m, (m < l ∨ l + k ≤ m → dayA tx k l s 6 m = s 6 m) ∧ (l ≤ m → m < l + k → (dayA tx k l s 6 m = -1 ↔ (s 6 m = -1 ∨ whoS s (s 6 m) = s 5 m))) := by
  intro k
  induction k with
  | zero => intro l s a _ _; exact ⟨rfl, fun m => ⟨fun _ => rfl, fun _ _ => absurd ‹m < l + 0› (by omega)⟩⟩
  | succ k ih =>
    intro l s a h hl
    have h1 := h.one (tx := tx) (l := l) (by omega)
    obtain ⟨p1, p2, p3⟩ := one_P (tx := tx) (s := s) (l := l)
    have o6 : ∀ m, m ≠ l → (if s 6 l = -1 then s else stepS tx s l) 6 m = s 6 m := by
      intro m hm
      split
      · rfl
      · exact step_oth (Or.inl hm)
    have oa : ∀ i m, i ≤ 5 → (if s 6 l = -1 then s else stepS tx s l) i m = s i m := by
      intro i m hi
      split
      · rfl
      · exact step_oth (Or.inr hi)
    generalize ht : (if s 6 l = -1 then s else stepS tx s l) = t at h1 p1 p2 p3 o6 oa
    have wh : ∀ x, whoS t x = whoS s x := fun x => who_eq p1 (fun p => oa 3 p (by omega)) x
    have tl : t 6 l = -1 ↔ (s 6 l = -1 ∨ whoS s (s 6 l) = s 5 l) := by
      rw [← ht]
      by_cases e : s 6 l = -1
      · rw [if_pos e]; exact ⟨fun _ => Or.inl e, fun _ => e⟩
      · rw [if_neg e]
        exact ⟨fun q => Or.inr ((step_home h (by omega) e).mp q), fun q => (step_home h (by omega) e).mpr (q.resolve_left e)⟩
    obtain ⟨i1, i2⟩ := ih (l + 1) t (if s 6 l = -1 then a else if whoS s (s 6 l) = s 5 l then a ||| shl 1 (nI l) else a) h1 (by omega)
    refine ⟨?_, ?_⟩
    · unfold camA setA
      rw [ht, i1]
      have ea : (if s 6 l = -1 then a else if whoS s (s 6 l) = s 5 l then a ||| shl 1 (nI l) else a) = (if (!(decide (s 6 l = -1)) && decide (whoS s (s 6 l) = s 5 l)) = true then a ||| shl 1 (nI l) else a) := by
        by_cases e : s 6 l = -1
        · rw [if_pos e, decide_eq_true e, if_neg (by simp)]
        · rw [if_neg e, decide_eq_false e]
          by_cases q : whoS s (s 6 l) = s 5 l
          · rw [if_pos q, decide_eq_true q, if_pos (by decide)]
          · rw [if_neg q, decide_eq_false q, if_neg (by decide)]
      rw [ea]
      refine setA_cong k (l + 1) _ (fun m hm _ => ?_)
      rw [o6 m (by omega), wh, oa 5 m (by omega)]
    · intro m
      obtain ⟨j1, j2⟩ := i2 m
      refine ⟨fun hm => ?_, fun h3 h4 => ?_⟩
      · show dayA tx k (l + 1) (if s 6 l = -1 then s else stepS tx s l) 6 m = s 6 m
        rw [ht, j1 (by omega), o6 m (by omega)]
      · show dayA tx k (l + 1) (if s 6 l = -1 then s else stepS tx s l) 6 m = -1 ↔ _
        rw [ht]
        by_cases e : m = l
        · subst e
          rw [j1 (by omega)]
          exact tl
        · rw [j2 (by omega) (by omega), o6 m e, wh, oa 5 m (by omega)]
theorem cam_is {T : Nat} {tx : Tx} {s : Vs} (h : WF T s) : camS tx s = (hosS (dayS tx s) &&& (hosS s ^^^ (-1))) := by
  have h8 := h.1.2.2.2
  obtain ⟨d1, d2⟩ := day_sets (tx := tx) (vL s) 0 s 0 h (by omega)
  unfold camS hosS
  rw [d1, hosA_set _ _ _ _ (by rw [dayS_P.2]; omega), hosA_set _ _ _ _ (by omega), dayS_P.2]
  apply b_ext
  intro i hi
  rw [b_and, b_xor, b_m1 i hi, setA_bt _ _ _ _ (by omega) i hi, setA_bt _ _ _ _ (by omega) i hi, setA_bt _ _ _ _ (by omega) i hi, b_0]
  have e6 : dayS tx s 6 i = dayA tx (vL s) 0 s 6 i := by unfold dayS; exact up_k (by decide)
  by_cases hv : i < 0 + vL s
  · rw [decide_eq_true hv, decide_eq_true (Nat.zero_le i), e6]
    have q := (d2 i).2 (Nat.zero_le i) hv
    by_cases a : s 6 i = -1
    · rw [decide_eq_true a, decide_eq_true (q.mpr (Or.inl a))]; rfl
    · by_cases b : whoS s (s 6 i) = s 5 i
      · rw [decide_eq_false a, decide_eq_true b, decide_eq_true (q.mpr (Or.inr b))]; rfl
      · rw [decide_eq_false a, decide_eq_false b, decide_eq_false (fun z => (q.mp z).elim a b)]; rfl
  · rw [decide_eq_false hv]
    simp
theorem call_day' {Mx Mr : Mm} (h : Rel Mx Mr) : Ans (m_X4_day Mx) (m_X5_day Mr) := call_day h (fun _ _ _ hw => cam_is hw)
theorem call_count {Mx Mr : Mm} (h : Rel Mx Mr) (x : Int32) : Ans (m_X4_count x Mx) (m_X5_count x Mr) := by
  obtain ⟨T, tx, hR, hV⟩ := h
  obtain ⟨v1, v2, v3⟩ := id hV
  have hw : WF T (nx Mx 7) := by rw [v1]; exact v2
  have cx := hw.cv
  have cm := v2.mv
  obtain ⟨n, n1, n2, n3, n4⟩ := hR.2.2.2
  have fin : Rel Mx Mr := ⟨T, tx, hR, hV⟩
  have z3 : Mx 7 3 = Mr 0 4 := by
    have := congrFun (congrFun v1 0) 3
    rw [nx_0 (by omega)] at this
    exact this.trans (nm_0 (M := Mr)).2.2.1
  unfold m_X4_count m_X5_count
  rcases ix_cases x 6 (by omega) with q | ⟨c, c1, rfl⟩
  · rw [x5_in_out (n := 6) (b := 5) (by decide) (by omega) q, bd_s, if_pos rfl]
    have ne : ∀ c : Nat, c < 6 → ¬ x = nI c := by
      intro c hc e
      subst e
      rcases q with q | q
      · exact nI_pos (by omega) q
      · exact nI_ge hc (by omega) q
    rw [if_neg (show ¬ x = 0 from ne 0 (by omega)), if_neg (show ¬ x = 1 from ne 1 (by omega)), if_neg (show ¬ x = 2 from ne 2 (by omega)), if_neg (show ¬ x = 3 from ne 3 (by omega)), if_neg (show ¬ x = 4 from ne 4 (by omega)), if_neg (show ¬ x = 5 from ne 5 (by omega))]
    exact ⟨_, _, _, rfl, rfl, fin⟩
  · rw [x5_in_in (n := 5) (b := 5) (by decide) (by omega) (by omega), bd_s, if_neg one_ne0]
    have c0 : (nI c = 0) ↔ c = 0 := nI_eq (b := 0) (by omega) (by omega)
    have d1 : (nI c = 1) ↔ c = 1 := nI_eq (b := 1) (by omega) (by omega)
    have d2 : (nI c = 2) ↔ c = 2 := nI_eq (b := 2) (by omega) (by omega)
    have d3 : (nI c = 3) ↔ c = 3 := nI_eq (b := 3) (by omega) (by omega)
    have d4 : (nI c = 4) ↔ c = 4 := nI_eq (b := 4) (by omega) (by omega)
    have d5 : (nI c = 5) ↔ c = 5 := nI_eq (b := 5) (by omega) (by omega)
    rw [x3_homes cx, x5_homeMany cm, bd_s, bd_s, cx.1, cm.1, cx.2.2.1, cm.2.2.1, v1, n2, n3, hR.1.1.1, hR.1.2.1, z3]
    rcases (show c = 0 ∨ c = 1 ∨ c = 2 ∨ c = 3 ∨ c = 4 ∨ c = 5 by omega) with e | e | e | e | e | e
    · rw [if_pos (c0.mpr e), if_pos (c0.mpr e)]
      exact ⟨_, _, _, rfl, rfl, fin⟩
    · have h0 : ¬ nI c = 0 := fun z => by have := c0.mp z; omega
      rw [if_neg h0, if_neg h0, if_pos (d1.mpr e), if_pos (d1.mpr e)]
      exact ⟨_, _, _, rfl, rfl, fin⟩
    · have h0 : ¬ nI c = 0 := fun z => by have := c0.mp z; omega
      have h1 : ¬ nI c = 1 := fun z => by have := d1.mp z; omega
      rw [if_neg h0, if_neg h0, if_neg h1, if_neg h1, if_pos (d2.mpr e), if_pos (d2.mpr e)]
      exact ⟨_, _, _, rfl, rfl, fin⟩
    · have h0 : ¬ nI c = 0 := fun z => by have := c0.mp z; omega
      have h1 : ¬ nI c = 1 := fun z => by have := d1.mp z; omega
      have h2 : ¬ nI c = 2 := fun z => by have := d2.mp z; omega
      rw [if_neg h0, if_neg h0, if_neg h1, if_neg h1, if_neg h2, if_neg h2, if_pos (d3.mpr e), if_pos (d3.mpr e)]
      exact ⟨_, _, _, rfl, rfl, fin⟩
    · have h0 : ¬ nI c = 0 := fun z => by have := c0.mp z; omega
      have h1 : ¬ nI c = 1 := fun z => by have := d1.mp z; omega
      have h2 : ¬ nI c = 2 := fun z => by have := d2.mp z; omega
      have h3 : ¬ nI c = 3 := fun z => by have := d3.mp z; omega
      rw [if_neg h0, if_neg h0, if_neg h1, if_neg h1, if_neg h2, if_neg h2, if_neg h3, if_neg h3, if_pos (d4.mpr e), if_pos (d4.mpr e)]
      exact ⟨_, _, _, rfl, rfl, fin⟩
    · have h0 : ¬ nI c = 0 := fun z => by have := c0.mp z; omega
      have h1 : ¬ nI c = 1 := fun z => by have := d1.mp z; omega
      have h2 : ¬ nI c = 2 := fun z => by have := d2.mp z; omega
      have h3 : ¬ nI c = 3 := fun z => by have := d3.mp z; omega
      have h4 : ¬ nI c = 4 := fun z => by have := d4.mp z; omega
      rw [if_neg h0, if_neg h0, if_neg h1, if_neg h1, if_neg h2, if_neg h2, if_neg h3, if_neg h3, if_neg h4, if_neg h4, if_pos (d5.mpr e)]
      exact ⟨_, _, _, rfl, rfl, fin⟩
theorem call_force {Mx Mr : Mm} (h : Rel Mx Mr) (x : Int32) : Ans (m_X4_force x Mx) (m_X5_force x Mr) := by
  obtain ⟨T, tx, hR, hV⟩ := h
  obtain ⟨v1, v2, v3, d, d1, d2⟩ := id hV
  have hw : WF T (nx Mx 7) := by rw [v1]; exact v2
  have cx := hw.cv
  have cm := v2.mv
  have t6 := hR.1.1.2.1
  have z3 : Mx 7 3 = Mr 0 4 := by
    have := congrFun (congrFun v1 0) 3
    rw [nx_0 (by omega)] at this
    exact this.trans (nm_0 (M := Mr)).2.2.1
  unfold m_X4_force m_X5_force
  rw [hR.1.2.1]
  rcases ix_cases x T (by omega) with q | ⟨t, t1, rfl⟩
  · have e1 : m_X2_isText x Mx = some (0, Mx) := by
      unfold m_X2_isText
      rw [hR.1.1.1]
      by_cases a : x < 0
      · rw [if_pos a]
      · rw [if_neg a, if_pos (q.resolve_left a)]
    rw [e1, bd_s, if_pos rfl, x5_in_out (n := T) (by rw [nI_sub1 (by omega)]; omega) (by omega) q, bd_s, if_pos rfl]
    exact ⟨_, _, _, rfl, rfl, T, tx, hR, hV⟩
  · have e1 : m_X2_isText (nI t) Mx = some (1, Mx) := by
      unfold m_X2_isText
      rw [hR.1.1.1, if_neg (nI_pos (by omega)), if_neg (nI_ge t1 (by omega)), if_neg (show ¬ (6 : Int32) ≤ nI t from nI_ge (b := 6) (by omega) (by omega))]
    rw [e1, bd_s, if_neg one_ne0, x5_in_in (n := T - 1) (by rw [nI_sub1 (by omega)]; omega) (by omega) (by omega), bd_s, if_neg one_ne0, lt1_d, lt1_d, lt1_d, lt1_d, z3]
    have f1 : FV 7 Mx (up Mx 7 3 (nI t)) := FV.up (v := 7) (i := 0) (by omega) (by omega)
    have f2 : RK Mr (up Mr 0 4 (nI t)) := ⟨fun k a => by funext b; exact up_k (by omega), fun j a => up_j (by omega)⟩
    refine ⟨_, _, _, rfl, rfl, T, tx, hR.keep (f1.xk (Or.inl rfl)) f2, ?_⟩
    have n1 : nx (up Mx 7 3 (nI t)) 7 = up (nm Mr) 0 3 (nI t) := by rw [← v1]; exact nx_up (v := 7) (i := 0) cx (by omega)
    have n2 : nm (up Mr 0 4 (nI t)) = up (nm Mr) 0 3 (nI t) := nm_up0 (by omega)
    refine ⟨by rw [n1, n2], ?_, ?_, d, d1, ?_⟩
    · rw [n2]
      obtain ⟨g1, g2, g3, g4, g5⟩ := v2
      have ep : ∀ a b, a ≠ 0 → up (nm Mr) 0 3 (nI t) a b = nm Mr a b := fun a b ha => up_k ha
      unfold WF Apart KIND
      rw [vP_up0 (by decide), vL_up0 (by decide)]
      refine ⟨by rw [up_j (by decide), up_j (by decide)]; exact g1, ⟨by rw [up_j (by decide)]; exact g2.1, t, t1, up_s⟩, ?_, ?_, ?_⟩
      · intro p hp; rw [ep 1 p (by omega), ep 2 p (by omega), ep 3 p (by omega)]; exact g3 p hp
      · intro p q hp hq; rw [ep 3 p (by omega), ep 3 q (by omega)]; exact g4 p q hp hq
      · intro m hm; rw [ep 4 m (by omega), ep 5 m (by omega), ep 6 m (by omega), ep 7 m (by omega), ep 8 m (by omega)]; exact g5 m hm
    · rw [n2, up_j (by decide)]; exact v3
    · rw [n2, up_j (by decide)]; exact d2
