/-! the call text -/
def txF (M : Mm) : Option (Int32 × Mm) := (gd (inr ((M 0 3)) 6) (lt1 (up M 2 ((M 0 3)).toNatClampNeg ((M 0 6))) fun M1 => lt1 (up M1 0 6 ((0 : Int32))) fun M2 => bd (m_X5_read ((M2 0 3)) ((0 : Int32)) M2) fun r4 M3 => lt1 r4 fun y5 => if (M3 0 27) = 0 then (lt1 (up M3 0 3 (((M3 0 3) + (1 : Int32)))) fun M6 => some (((M6 0 3) - (1 : Int32)), M6)) else (some (((-100 : Int32) - (M3 0 28)), M3))))
theorem x5_tx_L {T n : Nat} (hT : T < 6) (hn : n ≤ 160) : ∀ (k i fu : Nat) (R : Mm), k < fu → i + k = n → R 0 3 = nI T → R 0 6 = nI n → ∃ R1, m_X5_text_L14 fu (nI i) R = txF R1 ∧ (∀ k, k ≠ 1 → R1 k = R k) ∧ (∀ j, i ≤ j → j < n → R1 1 (160 * T + j) = R 3 j) ∧ ∀ j, ¬ (160 * T + i ≤ j ∧ j < 160 * T + n) → R1 1 j = R 1 j := by
  intro k
  induction k with
  | zero =>
    intro i fu R hf hi h3 h6
    obtain ⟨fu, rfl⟩ : ∃ m, fu = m + 1 := ⟨fu - 1, by omega⟩
    refine ⟨R, ?_, fun _ _ => rfl, fun j h1 h2 => absurd h2 (by omega), fun _ _ => rfl⟩
    show m_X5_text_B14 (m_X5_text_L14 fu) (nI i) R = _
    rw [m_X5_text_B14, if_pos (show R 0 6 ≤ nI i by rw [h6]; exact nI_le (by omega) (by omega))]
    rfl
  | succ k ih =>
    intro i fu R hf hi h3 h6
    obtain ⟨fu, rfl⟩ : ∃ m, fu = m + 1 := ⟨fu - 1, by omega⟩
    have e : (160 : Int32) * nI T + nI i = nI (160 * T + i) := by
      show nI 160 * nI T + nI i = _
      rw [pk_mul, nI_add]
    have z0 : up R 1 (160 * T + i) (R 3 i) 0 = R 0 := by funext q; exact up_k (by decide)
    obtain ⟨R1, a1, a2, a3, a4⟩ := ih (i + 1) fu (up R 1 (160 * T + i) (R 3 i)) (by omega) (by omega) (by rw [z0]; exact h3) (by rw [z0]; exact h6)
    refine ⟨R1, ?_, fun q hq => by rw [a2 q hq]; funext z; exact up_k hq, fun j h1 h2 => ?_, fun j hj => ?_⟩
    · show m_X5_text_B14 (m_X5_text_L14 fu) (nI i) R = _
      rw [m_X5_text_B14, if_neg (show ¬ R 0 6 ≤ nI i by rw [h6]; exact nI_ge (by omega) (by omega)), h3, e, inr_n (by omega) (by omega), inr_n (by omega) (by omega), gd_t, gd_t, nI_clamp (by omega), nI_clamp (by omega), lt1_d, lt1_d, nI_1, a1]
    · by_cases q : j = i
      · subst q
        rw [a4 _ (by omega), up_s]
      · rw [a3 j (by omega) h2]; exact up_k (by decide)
    · rw [a4 j (by omega)]; exact up_j (by omega)
theorem WF.mono {T T' : Nat} {s : Vs} (h : WF T s) (q : T ≤ T') : WF T' s := by
  obtain ⟨h1, ⟨h2, t, h3, h4⟩, h5⟩ := h
  exact ⟨h1, ⟨h2, t, by omega, h4⟩, h5⟩
theorem res_b {A' : Mm} {T0 : Nat} {b b' : Nat → Nat} (h : ∀ p, p ≤ 3 → A' 3 (3 * T0 + p) = nI (b p)) (h' : ∀ p, p ≤ 3 → A' 3 (3 * T0 + p) = nI (b' p)) (m : ∀ p, p < 3 → b p ≤ b (p + 1)) (m' : ∀ p, p < 3 → b' p ≤ b' (p + 1)) (l : b 3 ≤ 1200) (l' : b' 3 ≤ 1200) : ∀ p, p ≤ 3 → b p ≤ 1200 ∧ b p = b' p := by
  have up3 : ∀ c : Nat → Nat, (∀ p, p < 3 → c p ≤ c (p + 1)) → ∀ p, p ≤ 3 → c p ≤ c 3 := by
    intro c mc p hp
    rcases (show p = 0 ∨ p = 1 ∨ p = 2 ∨ p = 3 by omega) with rfl | rfl | rfl | rfl
    · exact Nat.le_trans (mc 0 (by omega)) (Nat.le_trans (mc 1 (by omega)) (mc 2 (by omega)))
    · exact Nat.le_trans (mc 1 (by omega)) (mc 2 (by omega))
    · exact mc 2 (by omega)
    · exact Nat.le_refl _
  intro p hp
  have q1 := up3 b m p hp
  have q2 := up3 b' m' p hp
  exact ⟨by omega, (nI_eq (by omega) (by omega)).mp ((h p hp).symm.trans (h' p hp))⟩
/-- both go on, with the texts that stand then -/
theorem text_rel {T T' : Nat} {tx' : Tx} {Mx Mr A' R' : Mm} (hT : T ≤ T') (r2 : RelK T Mx Mr) (r3 : RelS Mx Mr) (hV : RelV T Mx Mr) (t1 : TXx A' T' tx') (t2 : TXm R' T' tx') (xo : ∀ k, k ≠ 1 → k ≠ 2 → k ≠ 3 → k ≠ 5 → A' k = Mx k) (x5 : A' 5 0 = 0) (ro : ∀ k, k ≠ 0 → k ≠ 1 → k ≠ 2 → R' k = Mr k) (r0 : ∀ j, (j < 20 ∨ 28 < j) → j ≠ 3 → j ≠ 6 → R' 0 j = Mr 0 j) (r6 : R' 0 6 = 0) : Rel A' R' := by
  have kx : nx A' 25 = nx Mx 25 := by
    have : vx A' 25 = vx Mx 25 := by funext i j; exact congrFun (xo (25 + i) (by omega) (by omega) (by omega) (by omega)) j
    unfold nx; rw [this]
  have nx7 : nx A' 7 = nx Mx 7 := by
    have : vx A' 7 = vx Mx 7 := by funext i j; exact congrFun (xo (7 + i) (by omega) (by omega) (by omega) (by omega)) j
    unfold nx; rw [this]
  have kr : nmk R' = nmk Mr := by
    have : vmk R' = vmk Mr := by
      funext i j
      unfold vmk
      split
      · split <;> first | rfl | exact r0 _ (by omega) (by omega) (by omega)
      all_goals first | rfl | exact congrFun (ro _ (by omega) (by omega) (by omega)) _
    unfold nmk; rw [this]
  have nr : nm R' = nm Mr := by
    have : vm R' = vm Mr := by
      funext i j
      unfold vm
      split
      · split <;> first | rfl | exact r0 _ (by omega) (by omega) (by omega)
      all_goals first | rfl | exact congrFun (ro _ (by omega) (by omega) (by omega)) _
    unfold nm; rw [this]
  refine ⟨T', tx', ⟨⟨t1, t2⟩, ?_, ?_, 0, by omega, by rw [x5, nI_0], by rw [r6, nI_0], fun j hj => absurd hj (by omega)⟩, ?_⟩
  · unfold RelK at r2 ⊢
    rw [kx, kr, r0 35 (by omega) (by omega) (by omega), xo 0 (by decide) (by decide) (by decide) (by decide)]
    rcases r2 with q | ⟨q1, q2, q3, q4⟩
    · exact Or.inl q
    · exact Or.inr ⟨q1, q2, q3.mono hT, q4⟩
  · intro s hs
    have := r3 s hs
    rw [xo (36 + 2 * s) (by omega) (by omega) (by omega) (by omega), xo (37 + 2 * s) (by omega) (by omega) (by omega) (by omega), ro 12 (by omega) (by omega) (by omega), ro 13 (by omega) (by omega) (by omega), ro 14 (by omega) (by omega) (by omega), ro 15 (by omega) (by omega) (by omega)]
    exact this
  · unfold RelV at hV ⊢
    rw [nx7, nr]
    exact ⟨hV.1, hV.2.1.mono hT, hV.2.2⟩
theorem call_text {Mx Mr : Mm} (h : Rel Mx Mr) : Ans (m_X4_text Mx) (m_X5_text Mr) := by
  obtain ⟨T, tx, hR, hV⟩ := h
  have fin : Rel Mx Mr := ⟨T, tx, hR, hV⟩
  obtain ⟨⟨t1, t2⟩, r2, r3, n, n1, n2, n3, n4⟩ := hR
  have sx := (t1.2.2 Mx rfl rfl rfl).1
  have sm := (t2.2.2 Mr rfl rfl rfl).1
  have T6 := t1.2.1
  have hx10 := t1.1
  have hr03 := t2.1
  unfold m_X4_text m_X5_text m_X2_hasRoom
  rw [hx10]
  by_cases e : T = 6
  · subst e
    rw [if_pos (show (6 : Int32) ≤ nI 6 by decide), bd_s, if_pos rfl, hr03, if_pos (show nI 6 = (6 : Int32) from rfl)]
    exact ⟨_, _, _, rfl, rfl, fin⟩
  have hT : T < 6 := by omega
  have hr3n : ¬ Mr 0 3 = (6 : Int32) := by
    rw [hr03]
    exact fun q => e ((nI_eq (a := T) (b := 6) (by omega) (by omega)).mp q)
  obtain ⟨R1, a1, a2, a3, a4⟩ := x5_tx_L hT n1 n 0 FU Mr (by unfold FU; omega) (by omega) hr03 n3
  rw [nI_0] at a1
  rw [if_neg (show ¬ (6 : Int32) ≤ nI T from nI_ge (b := 6) (by omega) (by omega)), bd_s, if_neg one_ne0, if_neg hr3n, lt1_d, a1]
  unfold txF
  have c03 : R1 0 3 = nI T := by rw [a2 0 (by decide)]; exact hr03
  have c06 : R1 0 6 = nI n := by rw [a2 0 (by decide)]; exact n3
  rw [c03, c06, inr_n hT (by omega), gd_t, nI_clamp (by omega), lt1_d, lt1_d]
  generalize hR2 : up (up R1 2 T (nI n)) 0 6 0 = R2
  have d0 : ∀ j, j ≠ 6 → R2 0 j = Mr 0 j := fun j hj => by rw [← hR2, up_j hj, up_k (by decide), a2 0 (by decide)]
  have d06 : R2 0 6 = 0 := by rw [← hR2, up_s]
  have d1 : R2 1 = R1 1 := by funext j; rw [← hR2, up_k (by decide), up_k (by decide)]
  have d2 : R2 2 T = nI n := by rw [← hR2, up_k (by decide), up_s]
  have d2' : ∀ j, j ≠ T → R2 2 j = Mr 2 j := fun j hj => by rw [← hR2, up_k (by decide), up_j hj, a2 2 (by decide)]
  have dk : ∀ k, k ≠ 0 → k ≠ 1 → k ≠ 2 → R2 k = Mr k := fun k h0 h1 h2 => by funext j; rw [← hR2, up_k h0, up_k h2, a2 k h1]
  obtain ⟨bo, b1, b2, b3, b4⟩ := id sx
  have hb : BB (fun j => if j < n then Mx 6 j else -1) n := ⟨n1, fun j hj => by obtain ⟨q, c, c1, c2⟩ := n4 j hj; simp only [if_pos hj]; exact ⟨c, c1, by rw [q, c2]⟩, fun j hj => if_neg (by omega)⟩
  have hxx : BX Mx (fun j => if j < n then Mx 6 j else -1) n := ⟨n2, fun j hj => (if_pos hj).symm⟩
  have hB : ∀ j, j < n → R1 1 (160 * T + j) = (fun j => if j < n then Mx 6 j else -1) j := fun j hj => by rw [a3 j (by omega) hj, ← (n4 j hj).1]; exact (if_pos hj).symm
  have s03 : R2 0 3 = nI T := by rw [d0 3 (by decide)]; exact hr03
  obtain ⟨r, A', v, R', x1, x2, x3, x4, x5, x6⟩ := read_ok (R := R2) (t := T) (part := 0) hb hxx hT hx10 b3 (b1 _ (Nat.le_refl _)) hT (by omega) d2 (fun j hj => by rw [d1]; exact hB j hj)
  rw [nI_0] at x2
  rw [x1, bd_s, lt1_d, s03, x2, bd_s, lt1_d]
  have ro : ∀ k, k ≠ 0 → k ≠ 1 → k ≠ 2 → R' k = Mr k := fun k h0 h1 h2 => by rw [x4.1 k h0, dk k h0 h1 h2]
  have r0 : ∀ j, (j < 20 ∨ 28 < j) → j ≠ 6 → R' 0 j = Mr 0 j := fun j hj h6 => by rw [x4.2 j hj, d0 j h6]
  have r06 : R' 0 6 = 0 := by rw [x4.2 6 (by omega), d06]
  have r03 : R' 0 3 = nI T := by rw [x4.2 3 (by omega), s03]
  -- the elder texts stand
  have old_b : ∀ j, j ≤ 3 * T → A' 3 j = nI (bo j) := fun j hj => by rw [x3.2.2.2.2 j hj]; exact b1 j hj
  have old_c : ∀ lo hi, hi ≤ bo (3 * T) → sgC (A' 2) lo hi = sgC (Mx 2) lo hi := by
    intro lo hi hh
    unfold sgC
    refine List.map_congr_left (fun j hj => ?_)
    have := (List.mem_range'_1.mp hj)
    exact x3.2.2.2.1 j (by omega)
  have old_t : ∀ t part, t < T → part < 3 → bo (3 * t + part + 1) ≤ bo (3 * T) := by
    intro t part ht hp
    have := bmono b2 (3 * T - (3 * t + part + 1)) (3 * t + part + 1) (by omega)
    rw [show 3 * t + part + 1 + (3 * T - (3 * t + part + 1)) = 3 * T by omega] at this
    exact this
  have old_m : ∀ (R'' : Mm) (tx' : Tx), (R'' 1 = R1 1) → (R'' 2 = R2 2) → (∀ t, t < T → tx' t = tx t) → ∀ t, t < T → ∃ (N N' : Mm) (n T0 : Nat) (b : Nat → Nat), n ≤ 160 ∧ R'' 2 t = nI n ∧ N 5 0 = nI n ∧ (∀ j, j < n → R'' 1 (160 * t + j) = N 6 j ∧ ∃ c, c < 256 ∧ N 6 j = nI c) ∧ T0 < 6 ∧ N 1 0 = nI T0 ∧ (∃ e, e ≤ 160 * T0 ∧ N 3 (3 * T0) = nI e) ∧ m_X1_read N = some (-1, N') ∧ (∀ p, p ≤ 3 → N' 3 (3 * T0 + p) = nI (b p)) ∧ (∀ p, p ≤ 3 → b p ≤ 960) ∧ ∀ p, p < 3 → b p ≤ b (p + 1) ∧ ∀ a1 a2 a3 a4 a5 a6 : Int32, rnC (en6 a1 a2 a3 a4 a5 a6) (sgC (N' 2) (b p) (b (p + 1))) [] = some [tx' t p a1 a2 a3 a4 a5 a6] := by
    intro R'' tx' h1 h2 h3 t ht
    obtain ⟨N, N', m, T0, b, m1, m2, m3, m4, m5⟩ := sm t ht
    refine ⟨N, N', m, T0, b, m1, ?_, m3, fun j hj => ?_, ?_⟩
    · rw [h2, d2' t (by omega)]; exact m2
    · rw [h1, a4 _ (by omega)]; exact m4 j hj
    · rw [h3 t ht]; exact m5
  rcases x6 with ⟨q1, q2, q3, b, p1, p2, p3, p4, p5⟩ | ⟨f, f1, f2, f3, f4, f5⟩
  · -- a text more
    subst q1
    rw [if_pos rfl, if_pos q2, q3, lt1_d, r03, nI_1, up_s]
    have rowk : ∀ k, k ≠ 0 → up R' 0 3 (nI (T + 1)) k = R' k := fun k hk => by funext j; exact up_k hk
    have key : ∀ p, p < 3 → ∀ c1 c2 c3 c4 c5 c6 : Int32, ∃ x, rnC (en6 c1 c2 c3 c4 c5 c6) (sgC (A' 2) (b p) (b (p + 1))) [] = some [x] := by
      intro p hp c1 c2 c3 c4 c5 c6
      obtain ⟨r', A2, v', R3, y1, y2, y3, y4, y5, y6⟩ := read_ok (R := fun k j => if k = 0 then (match j with
        | 14 => c1
        | 15 => c2
        | 16 => c3
        | 17 => c4
        | 18 => c5
        | 19 => c6
        | j => R2 0 j) else R2 k j) (t := T) (part := p) hb hxx hT hx10 b3 (b1 _ (Nat.le_refl _)) hT hp d2 (fun j hj => by
          show R2 1 (160 * T + j) = _
          rw [d1]; exact hB j hj)
      rw [x1] at y1
      have z := Option.some.inj y1
      have z1 : (-1 : Int32) = r' := congrArg Prod.fst z
      have z2 : A' = A2 := congrArg Prod.snd z
      subst z1 z2
      rcases y6 with ⟨-, -, -, b', g1, g2, g3, g4, g5⟩ | ⟨f, f1, f2, -⟩
      · have eb := res_b p2 g2 p3 g3 (by omega) (by omega)
        obtain ⟨x, u1, -⟩ := g5 p hp
        rw [← (eb p (by omega)).2, ← (eb (p + 1) (by omega)).2] at u1
        exact ⟨x, u1⟩
      · exact absurd f2.symm (nI_m1 (by omega))
    refine ⟨_, _, _, rfl, rfl, ?_⟩
    have eb := res_b p2 p2 p3 p3 (by omega) (by omega)
    have b960 : b 3 ≤ 960 := by omega
    have bp : ∀ p, p ≤ 3 → b p ≤ 960 := by
      intro p hp
      have w0 : b 0 ≤ b 1 := p3 0 (by omega)
      have w1 : b 1 ≤ b 2 := p3 1 (by omega)
      have w2 : b 2 ≤ b 3 := p3 2 (by omega)
      rcases (show p = 0 ∨ p = 1 ∨ p = 2 ∨ p = 3 by omega) with rfl | rfl | rfl | rfl <;> omega
    generalize htx : (fun (t p : Nat) (c1 c2 c3 c4 c5 c6 : Int32) => if t = T then (match rnC (en6 c1 c2 c3 c4 c5 c6) (sgC (A' 2) (b p) (b (p + 1))) [] with
      | some (x :: _) => x
      | _ => 0) else tx t p c1 c2 c3 c4 c5 c6 : Tx) = tx'
    have tx_o : ∀ t, t < T → tx' t = tx t := by
      intro t ht
      rw [← htx]
      funext p c1 c2 c3 c4 c5 c6
      exact if_neg (by omega)
    have tx_n : ∀ p, p < 3 → ∀ c1 c2 c3 c4 c5 c6 : Int32, rnC (en6 c1 c2 c3 c4 c5 c6) (sgC (A' 2) (b p) (b (p + 1))) [] = some [tx' T p c1 c2 c3 c4 c5 c6] := by
      intro p hp c1 c2 c3 c4 c5 c6
      obtain ⟨x, hx⟩ := key p hp c1 c2 c3 c4 c5 c6
      rw [← htx]
      show _ = some [if T = T then (match rnC (en6 c1 c2 c3 c4 c5 c6) (sgC (A' 2) (b p) (b (p + 1))) [] with
      | some (x :: _) => x
      | _ => 0) else tx T p c1 c2 c3 c4 c5 c6]
      rw [if_pos rfl, hx]
    refine text_rel (T' := T + 1) (tx' := tx') (by omega) r2 r3 hV ?_ ?_ x3.1 x5 (fun k h0 h1 h2 => by rw [rowk k h0]; exact ro k h0 h1 h2) (fun j hj h3 h6 => by rw [up_j h3]; exact r0 j hj h6) (by rw [up_j (by decide)]; exact r06)
    · refine mkTXx q3 (by omega) ⟨fun j => if j ≤ 3 * T then bo j else b (j - 3 * T), fun j hj => ?_, fun j hj => ?_, ?_, fun t part ht hp c1 c2 c3 c4 c5 c6 => ?_⟩
      · by_cases q : j ≤ 3 * T
        · simp only [if_pos q]; exact old_b j q
        · simp only [if_neg q]
          have := p2 (j - 3 * T) (by omega)
          rw [show 3 * T + (j - 3 * T) = j by omega] at this
          exact this
      · by_cases q : j + 1 ≤ 3 * T
        · simp only [if_pos q, if_pos (show j ≤ 3 * T by omega)]; exact b2 j (by omega)
        · by_cases q2 : j ≤ 3 * T
          · simp only [if_pos q2, if_neg q]
            have : j = 3 * T := by omega
            subst this
            rw [show 3 * T + 1 - 3 * T = 0 + 1 by omega]
            have := p3 0 (by omega)
            omega
          · simp only [if_neg q2, if_neg q]
            have := p3 (j - 3 * T) (by omega)
            rw [show j + 1 - 3 * T = j - 3 * T + 1 by omega]
            exact this
      · simp only [if_neg (show ¬ 3 * (T + 1) ≤ 3 * T by omega)]
        rw [show 3 * (T + 1) - 3 * T = 3 by omega]
        omega
      · by_cases q : t < T
        · simp only [if_pos (show 3 * t + part ≤ 3 * T by omega), if_pos (show 3 * t + part + 1 ≤ 3 * T by omega)]
          rw [old_c _ _ (old_t t part q hp), tx_o t q]
          exact b4 t part q hp c1 c2 c3 c4 c5 c6
        · have : t = T := by omega
          subst this
          have e1 : (if 3 * t + part ≤ 3 * t then bo (3 * t + part) else b (3 * t + part - 3 * t)) = b part := by
            by_cases z : part = 0
            · subst z; rw [if_pos (by omega)]; exact p1.symm
            · rw [if_neg (by omega), show 3 * t + part - 3 * t = part by omega]
          have e2 : (if 3 * t + part + 1 ≤ 3 * t then bo (3 * t + part + 1) else b (3 * t + part + 1 - 3 * t)) = b (part + 1) := by
            rw [if_neg (by omega), show 3 * t + part + 1 - 3 * t = part + 1 by omega]
          simp only [e1, e2]
          exact tx_n part hp c1 c2 c3 c4 c5 c6
    · refine mkTXm up_s (by omega) (fun t ht => ?_)
      by_cases q : t < T
      · exact old_m _ tx' (by rw [rowk 1 (by decide), x4.1 1 (by decide), d1]) (by rw [rowk 2 (by decide), x4.1 2 (by decide)]) tx_o t q
      · have : t = T := by omega
        subst this
        refine ⟨Mx, A', n, t, b, n1, ?_, n2, fun j hj => ?_, hT, hx10, ⟨bo (3 * t), b3, b1 _ (Nat.le_refl _)⟩, x1, p2, bp, fun p hp => ⟨p3 p hp, tx_n p hp⟩⟩
        · rw [rowk 2 (by decide), x4.1 2 (by decide)]; exact d2
        · rw [rowk 1 (by decide), x4.1 1 (by decide), d1, a3 j (by omega) hj]
          obtain ⟨z, c, z1, z2⟩ := n4 j hj
          exact ⟨z.symm, c, z1, by rw [z, z2]⟩
  · -- a fault
    have g27 : ¬ R' 0 27 = 0 := by rw [f3]; decide
    rw [f2, if_neg (nI_m1 (by omega)), if_neg g27, f4]
    refine ⟨_, _, _, rfl, rfl, ?_⟩
    refine text_rel (T' := T) (tx' := tx) (Nat.le_refl _) r2 r3 hV ?_ ?_ x3.1 x5 ro (fun j hj _ h6 => r0 j hj h6) r06
    · refine mkTXx f5 T6 ⟨bo, old_b, b2, b3, fun t part ht hp c1 c2 c3 c4 c5 c6 => ?_⟩
      rw [old_c _ _ (old_t t part ht hp)]
      exact b4 t part ht hp c1 c2 c3 c4 c5 c6
    · exact mkTXm r03 T6 (old_m _ tx (by rw [x4.1 1 (by decide), d1]) (by rw [x4.1 2 (by decide)]) (fun _ _ => rfl))

