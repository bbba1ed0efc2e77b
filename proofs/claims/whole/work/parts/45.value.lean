/-! what the class works out of a row of codes -/
def STK (M : Mm) (st : List Int32) : Prop := ∀ k, k < st.length → M 4 k = st.reverse.getD k 0
theorem STK_tl {M : Mm} {r : Int32} {t : List Int32} (h : STK M (r :: t)) : STK M t ∧ M 4 t.length = r := by
  refine ⟨fun k hk => ?_, ?_⟩
  · rw [h k (by simp only [List.length_cons]; omega), List.reverse_cons, gD_l (by simp; omega)]
  · rw [h t.length (by simp), List.reverse_cons, gD_r (by simp)]
    simp
theorem STK_pu {M : Mm} {v : Int32} {t : List Int32} (h : STK M t) : STK (up M 4 t.length v) (v :: t) := by
  intro k hk
  rw [List.reverse_cons]
  by_cases e : k = t.length
  · subst e
    rw [up_s, gD_r (by simp)]
    simp
  · simp only [List.length_cons] at hk
    rw [up_j e, gD_l (by simp; omega), h k (by omega)]
theorem x2_nm {c : Int32} {M : Mm} : m_X2_named c M = some (nmC (en6 (M 1 1) (M 1 2) (M 1 3) (M 1 4) (M 1 5) (M 1 6)) c, M) := by
  unfold m_X2_named nmC
  by_cases h0 : (-1 : Int32) - c = 0
  case pos => rw [if_pos h0, if_pos h0]; rfl
  rw [if_neg h0, if_neg h0]
  by_cases h1 : (-1 : Int32) - c = 1
  case pos => rw [if_pos h1, if_pos h1]; rfl
  rw [if_neg h1, if_neg h1]
  by_cases h2 : (-1 : Int32) - c = 2
  case pos => rw [if_pos h2, if_pos h2]; rfl
  rw [if_neg h2, if_neg h2]
  by_cases h3 : (-1 : Int32) - c = 3
  case pos => rw [if_pos h3, if_pos h3]; rfl
  rw [if_neg h3, if_neg h3]
  by_cases h4 : (-1 : Int32) - c = 4
  case pos => rw [if_pos h4, if_pos h4]; rfl
  rw [if_neg h4, if_neg h4]
  rfl
theorem x2_jn {c l r : Int32} {M : Mm} : m_X2_joined c l r M = some (jnC c l r, M) := by
  unfold m_X2_joined m_X2_joined_J68 jnC
  by_cases h21 : c = -21
  case pos =>
    rw [if_pos h21, if_pos h21]
    by_cases q : r = 0
    case pos => rw [if_pos q, if_pos q]
    rw [if_neg q, if_neg q]
  rw [if_neg h21, if_neg h21]
  by_cases h20 : c = -20
  case pos =>
    rw [if_pos h20, if_pos h20]
  rw [if_neg h20, if_neg h20]
  by_cases h19 : c = -19
  case pos =>
    rw [if_pos h19, if_pos h19]
  rw [if_neg h19, if_neg h19]
  by_cases h18 : c = -18
  case pos =>
    rw [if_pos h18, if_pos h18]
  rw [if_neg h18, if_neg h18]
  by_cases h17 : c = -17
  case pos =>
    rw [if_pos h17, if_pos h17]
  rw [if_neg h17, if_neg h17]
  by_cases h16 : c = -16
  case pos =>
    rw [if_pos h16, if_pos h16]
  rw [if_neg h16, if_neg h16]
  by_cases h15 : c = -15
  case pos =>
    rw [if_pos h15, if_pos h15]
  rw [if_neg h15, if_neg h15]
  by_cases h14 : c = -14
  case pos =>
    rw [if_pos h14, if_pos h14]
    by_cases q : l = r
    case pos => rw [if_pos q, if_pos q]
    rw [if_neg q, if_neg q]
  rw [if_neg h14, if_neg h14]
  by_cases h13 : c = -13
  case pos =>
    rw [if_pos h13, if_pos h13]
    by_cases q : r ≤ l
    case pos => rw [if_pos q, if_pos q]
    rw [if_neg q, if_neg q]
  rw [if_neg h13, if_neg h13]
  by_cases h12 : c = -12
  case pos =>
    rw [if_pos h12, if_pos h12]
    by_cases q : l = 0
    case pos => rw [if_pos q, if_pos q]
    rw [if_neg q, if_neg q]
    by_cases q2 : r = 0
    case pos => rw [if_pos q2, if_pos q2]
    rw [if_neg q2, if_neg q2]
  rw [if_neg h12, if_neg h12]
  by_cases h11 : c = -11
  case pos =>
    rw [if_pos h11, if_pos h11]
    by_cases q : l = 0
    case neg => rw [if_neg q, if_neg q]
    rw [if_pos q, if_pos q]
    by_cases q2 : r = 0
    case pos => rw [if_pos q2, if_pos q2]
    rw [if_neg q2, if_neg q2]
  rw [if_neg h11, if_neg h11]
theorem x2_val_L {i hi : Nat} {v : Int32} {E : Nat → Int32} (hi18 : i + 1 < 19) (h960 : hi ≤ 960) : ∀ (cs : List Int32) (j fu : Nat) (st : List Int32) (M : Mm), cs.length < fu → j + cs.length = hi → M 3 (i + 1) = nI hi → CDA M j cs → STK M st → en6 (M 1 1) (M 1 2) (M 1 3) (M 1 4) (M 1 5) (M 1 6) = E → st.length ≤ 64 → rnC E cs st = some [v] → ∃ M2, m_X2_value_L46 fu (nI i) (nI st.length) (nI j) M = some (v, M2) ∧ ∀ k, k ≠ 4 → M2 k = M k := by
  intro cs
  induction cs with
  | nil =>
    intro j fu st M hf hj h3 cd sk hE hs hr
    obtain ⟨fu, rfl⟩ : ∃ m, fu = m + 1 := ⟨fu - 1, by omega⟩
    have e : st = [v] := Option.some.inj hr
    subst e
    simp only [List.length_nil] at hj
    have h0 := sk 0 (by simp)
    show ∃ M2, m_X2_value_B46 (m_X2_value_L46 fu) (nI i) (nI 1) (nI j) M = _ ∧ _
    unfold m_X2_value_B46 m_X2_value_J219
    rw [nI_1, inr_n hi18 (by omega), gd_t, nI_clamp (by omega), h3, if_pos (nI_le (by omega) (by omega)), if_neg (show ¬ nI 1 ≤ (0 : Int32) by decide), show inr (0 : Int32) 64 = true by decide, gd_t]
    exact ⟨M, congrArg (fun x => some (x, M)) h0, fun _ _ => rfl⟩
  | cons c cs ih =>
    intro j fu st M hf hj h3 cd sk hE hs hr
    obtain ⟨fu, rfl⟩ : ∃ m, fu = m + 1 := ⟨fu - 1, by omega⟩
    simp only [List.length_cons] at hj hf
    have hc : M 2 j = c := cd 0 (by simp)
    have cd' : CDA M (j + 1) cs := by
      intro k hk
      have := cd (k + 1) (by simp only [List.length_cons]; omega)
      rw [show j + 1 + k = j + (k + 1) by omega]
      exact this
    obtain ⟨st', hst, hr'⟩ : ∃ t, stC E c st = some t ∧ rnC E cs t = some [v] := by
      have : (match stC E c st with | some t => rnC E cs t | none => none) = some [v] := hr
      cases z : stC E c st with
      | none => rw [z] at this; cases this
      | some t => rw [z] at this; exact ⟨t, rfl, this⟩
    -- the push, and on
    have push : ∀ (t : List Int32) (x : Int32), st' = x :: t → STK M t → t.length < 64 → ∃ M2, m_X2_value_J209 (m_X2_value_L46 fu) (nI i) (nI t.length) (nI j) x (nI t.length) M = some (v, M2) ∧ ∀ k, k ≠ 4 → M2 k = M k := by
      intro t x e sk' ht
      subst e
      unfold m_X2_value_J209
      rw [inr_n ht (by omega), gd_t, nI_clamp (by omega), lt1_d, lt1_d, lt1_d, nI_1, nI_1]
      have ks : ∀ k, k ≠ 4 → up M 4 t.length x k = M k := fun k hk => by funext b; exact up_k hk
      obtain ⟨M2, m1, m2⟩ := ih (j + 1) fu (x :: t) (up M 4 t.length x) (by omega) (by omega) (by rw [ks 3 (by decide)]; exact h3) (fun k hk => by rw [ks 2 (by decide)]; exact cd' k hk) (STK_pu sk') (by rw [ks 1 (by decide)]; exact hE) (by simp only [List.length_cons]; omega) hr'
      exact ⟨M2, m1, fun k hk => by rw [m2 k hk, ks k hk]⟩
    show ∃ M2, m_X2_value_B46 (m_X2_value_L46 fu) (nI i) (nI st.length) (nI j) M = _ ∧ _
    unfold m_X2_value_B46
    rw [nI_1, inr_n hi18 (by omega), gd_t, nI_clamp (by omega), h3, if_neg (nI_ge (by omega) (by omega)), if_neg (show ¬ (960 : Int32) ≤ nI j from nI_ge (b := 960) (by omega) (by omega)), inr_n (by omega) (by omega), gd_t, nI_clamp (by omega), hc, lt1_d]
    unfold stC at hst
    by_cases h64 : 64 ≤ st.length
    · rw [if_pos h64] at hst; cases hst
    rw [if_neg h64] at hst
    have l64 : nI st.length < (64 : Int32) := nI_lt (b := 64) (by omega) (by omega)
    by_cases h11 : c ≤ -11
    · have c0 : c < 0 := by
        rw [Int32.le_iff_toInt_le] at h11
        rw [Int32.lt_iff_toInt_lt]
        have e1 : ((-11 : Int32).toInt) = -11 := by decide
        have e2 : ((0 : Int32).toInt) = 0 := by decide
        omega
      rw [if_pos h11] at hst ⊢
      unfold m_X2_value_J101 m_X2_value_J140 m_X2_value_J161
      by_cases h21 : c ≤ -21
      · rw [if_pos h21] at hst ⊢
        cases st with
        | nil => cases hst
        | cons r t =>
          obtain ⟨s1, s2⟩ := STK_tl sk
          have e := Option.some.inj hst
          simp only [List.length_cons] at l64 h64 ⊢
          rw [lt1_d, if_neg (show ¬ nI (t.length + 1) < (1 : Int32) from nI_nlt (b := 1) (by omega) (by omega)), if_pos l64, if_neg (show ¬ (1 : Int32) ≤ 0 by decide), nI_pred, inr_n (show t.length < 64 by omega) (by omega), gd_t, nI_clamp (by omega), s2, lt1_d, if_pos (show (1 : Int32) ≤ 1 by decide), lt1_d, lt1_d, if_pos c0, if_neg one_ne0, x2_jn, bd_s]
          exact push t (jnC c 0 r) e.symm s1 (by omega)
      · rw [if_neg h21] at hst ⊢
        cases st with
        | nil => cases hst
        | cons r t =>
          cases t with
          | nil => cases hst
          | cons l t =>
            obtain ⟨s1, s2⟩ := STK_tl sk
            obtain ⟨s3, s4⟩ := STK_tl s1
            have e := Option.some.inj hst
            simp only [List.length_cons] at l64 h64 s2 ⊢
            have e2 : nI (t.length + 1 + 1) - (2 : Int32) = nI t.length := by
              show nI (t.length + 2) - nI 2 = _
              rw [pk_sub (by omega), show t.length + 2 - 2 = t.length by omega]
            rw [lt1_d, if_neg (show ¬ nI (t.length + 1 + 1) < (2 : Int32) from nI_nlt (b := 2) (by omega) (by omega)), if_pos l64, if_neg (show ¬ (2 : Int32) ≤ 0 by decide), nI_pred, inr_n (show t.length + 1 < 64 by omega) (by omega), gd_t, nI_clamp (by omega), s2, lt1_d, if_neg (show ¬ (2 : Int32) ≤ 1 by decide), e2, inr_n (show t.length < 64 by omega) (by omega), gd_t, nI_clamp (by omega), s4, lt1_d, lt1_d, if_pos c0, if_neg (show ¬ (2 : Int32) = 0 by decide), x2_jn, bd_s]
            exact push t (jnC c l r) e.symm s3 (by omega)
    · rw [if_neg h11] at hst ⊢
      have e := Option.some.inj hst
      unfold m_X2_value_J101 m_X2_value_J140 m_X2_value_J161
      rw [lt1_d, if_neg (nI_pos (by omega)), if_pos l64, if_pos (show (0 : Int32) ≤ 0 by decide), lt1_d, if_pos (show (0 : Int32) ≤ 1 by decide), lt1_d, lt1_d, Int32.sub_zero]
      by_cases c0 : c < 0
      · rw [if_pos c0] at e ⊢
        rw [if_pos rfl, x2_nm, hE, bd_s]
        exact push st _ e.symm sk (by omega)
      · rw [if_neg c0] at e ⊢
        exact push st _ e.symm sk (by omega)
theorem mx_nI {a : Nat} (h : a < 2 ^ 31) : mmax 0 (nI a) = nI a := by
  unfold mmax
  by_cases e : (0 : Int32) < nI a
  · rw [if_pos e]
  · rw [if_neg e]
    have : ¬ 0 < a := fun q => e (nI_lt (a := 0) q h)
    rw [show a = 0 by omega, nI_0]
theorem sgC_cd {M : Mm} {lo hi : Nat} : CDA M lo (sgC (M 2) lo hi) := by
  intro k hk
  have : (sgC (M 2) lo hi).length = hi - lo := wrd_len (M 2) lo hi
  rw [this] at hk
  exact (wrd_get (B := M 2) hk).symm
theorem bmono {b : Nat → Nat} {T : Nat} (h : ∀ j, j < 3 * T → b j ≤ b (j + 1)) : ∀ k j, j + k ≤ 3 * T → b j ≤ b (j + k) := by
  intro k
  induction k with
  | zero => intro j _; exact Nat.le_refl _
  | succ k ih =>
    intro j hj
    exact Nat.le_trans (ih j (by omega)) (h (j + k) (by omega))
theorem mkTXx {M : Mm} {T : Nat} {tx : Tx} (h : M 1 0 = nI T) (hT : T ≤ 6) (hs : STX M T tx) : TXx M T tx := by
  refine ⟨h, hT, fun M' a b c => ?_⟩
  have hs' : STX M' T tx := by
    unfold STX at hs ⊢
    rw [b, c]
    exact hs
  refine ⟨hs', fun t part ht hp => ?_⟩
  obtain ⟨bb, b1, b2, b3, b4⟩ := hs'
  rw [h] at a
  have hr := b4 t part ht hp (M' 1 1) (M' 1 2) (M' 1 3) (M' 1 4) (M' 1 5) (M' 1 6)
  have q1 := bmono b2 (3 * T - (3 * t + part)) (3 * t + part) (by omega)
  rw [show 3 * t + part + (3 * T - (3 * t + part)) = 3 * T by omega] at q1
  have q2 := bmono b2 (3 * T - (3 * t + part + 1)) (3 * t + part + 1) (by omega)
  rw [show 3 * t + part + 1 + (3 * T - (3 * t + part + 1)) = 3 * T by omega] at q2
  have q3 := b2 (3 * t + part) (by omega)
  have len : (sgC (M' 2) (bb (3 * t + part)) (bb (3 * t + part + 1))).length = bb (3 * t + part + 1) - bb (3 * t + part) := wrd_len (M' 2) _ _
  obtain ⟨M2, m1, m2⟩ := x2_val_L (i := 3 * t + part) (hi := bb (3 * t + part + 1)) (by omega) (by omega) _ (bb (3 * t + part)) FU [] M' (by rw [len]; unfold FU; omega) (by rw [len]; omega) (b1 _ (by omega)) sgC_cd (fun k hk => absurd hk (by simp)) rfl (by simp) hr
  refine ⟨M2, ?_, m2⟩
  unfold m_X2_value m_X2_isText
  have e3 : nI t * (3 : Int32) + nI part = nI (3 * t + part) := by
    show nI t * nI 3 + nI part = _
    rw [pk_mul, nI_add, Nat.mul_comm]
  rw [e3, lt1_d, if_neg (nI_pos (by omega)), a, if_neg (nI_ge (by omega) (by omega)), if_neg (show ¬ (6 : Int32) ≤ nI t from nI_ge (b := 6) (by omega) (by omega)), bd_s, if_neg one_ne0, if_neg (nI_pos (by omega)), nI_1, if_pos (show nI (3 * t + part + 1) < (19 : Int32) from nI_lt (b := 19) (by omega) (by omega)), lt1_d, inr_n (by omega) (by omega), gd_t, nI_clamp (by omega), b1 _ (by omega), mx_nI (by omega), lt1_d, ← nI_0]
  exact m1
theorem mkTXm {M : Mm} {T : Nat} {tx : Tx} (h : M 0 3 = nI T) (hT : T ≤ 6) (hs : STM M T tx) : TXm M T tx := by
  refine ⟨h, hT, fun M' a b c => ?_⟩
  have hs' : STM M' T tx := by
    unfold STM at hs ⊢
    rw [b, c]
    exact hs
  refine ⟨hs', fun t part ht hp => ?_⟩
  obtain ⟨N, N', n, T0, bb, n1, n2, n3, n4, n5, n6, ⟨e, e1, e2⟩, n8, n9, n10, n11⟩ := hs' t ht
  have hb : BB (fun j => if j < n then N 6 j else -1) n := ⟨n1, fun j hj => by obtain ⟨-, z⟩ := n4 j hj; simp only [if_pos hj]; exact z, fun j hj => if_neg (by omega)⟩
  have hx : BX N (fun j => if j < n then N 6 j else -1) n := ⟨n3, fun j hj => (if_pos hj).symm⟩
  obtain ⟨r, A', v, R', x1, x2, x3, x4, x5, x6⟩ := read_ok (R := M') (t := t) (part := part) hb hx n5 n6 e1 e2 (by omega) hp n2 (fun j hj => by rw [(n4 j hj).1]; exact (if_pos hj).symm)
  rw [n8] at x1
  have y := Option.some.inj x1
  have y1 : (-1 : Int32) = r := congrArg Prod.fst y
  have y2 : N' = A' := congrArg Prod.snd y
  subst y1 y2
  rcases x6 with ⟨-, -, -, b', p1, p2, p3, p4, p5⟩ | ⟨f, f1, f2, -⟩
  · obtain ⟨x, z1, z2⟩ := p5 part hp
    have z3 := z2 rfl
    subst z3
    have eb : ∀ p, p ≤ 3 → b' p = bb p := by
      intro p hp3
      have q := (p2 p hp3).symm.trans (n9 p hp3)
      have b3 : b' p ≤ b' 3 := by
        rcases (show p = 0 ∨ p = 1 ∨ p = 2 ∨ p = 3 by omega) with rfl | rfl | rfl | rfl
        · exact Nat.le_trans (p3 0 (by omega)) (Nat.le_trans (p3 1 (by omega)) (p3 2 (by omega)))
        · exact Nat.le_trans (p3 1 (by omega)) (p3 2 (by omega))
        · exact p3 2 (by omega)
        · exact Nat.le_refl _
      have := n10 p hp3
      exact (nI_eq (by omega) (by omega)).mp q
    rw [eb part (by omega), eb (part + 1) (by omega)] at z1
    have z4 := (n11 part hp).2 (M' 0 14) (M' 0 15) (M' 0 16) (M' 0 17) (M' 0 18) (M' 0 19)
    have z5 : [v] = [tx t part (M' 0 14) (M' 0 15) (M' 0 16) (M' 0 17) (M' 0 18) (M' 0 19)] := Option.some.inj (z1.symm.trans z4)
    have z6 := List.head_eq_of_cons_eq z5
    refine ⟨R', by rw [x2, z6], ⟨x4.1, fun j hj => x4.2 j (by omega)⟩, fun j hj => x4.2 j (by omega)⟩
  · exact absurd f2.symm (nI_m1 (by omega))

