/-! what changes when a token is read -/
def FA (A A' : Mm) : Prop := (∀ k, k ≠ 5 → A' k = A k) ∧ ∀ j, (j < 3 ∨ 6 < j) → A' 5 j = A 5 j
def FR (R R' : Mm) : Prop := (∀ k, k ≠ 0 → R' k = R k) ∧ ∀ j, (j < 22 ∨ 25 < j) → R' 0 j = R 0 j
theorem FA_rf {A : Mm} : FA A A := ⟨fun _ _ => rfl, fun _ _ => rfl⟩
theorem FR_rf {A : Mm} : FR A A := ⟨fun _ _ => rfl, fun _ _ => rfl⟩
theorem FA_tr {A A1 A2 : Mm} (h : FA A A1) (g : FA A1 A2) : FA A A2 := ⟨fun k a => (g.1 k a).trans (h.1 k a), fun j a => (g.2 j a).trans (h.2 j a)⟩
theorem FR_tr {A A1 A2 : Mm} (h : FR A A1) (g : FR A1 A2) : FR A A2 := ⟨fun k a => (g.1 k a).trans (h.1 k a), fun j a => (g.2 j a).trans (h.2 j a)⟩
theorem FA_up {A : Mm} {j : Nat} {x : Int32} (h : 3 ≤ j ∧ j ≤ 6) : FA A (up A 5 j x) := ⟨fun k a => by funext b; exact up_k a, fun i a => up_j (by omega)⟩
theorem FR_up {A : Mm} {j : Nat} {x : Int32} (h : 22 ≤ j ∧ j ≤ 25) : FR A (up A 0 j x) := ⟨fun k a => by funext b; exact up_k a, fun i a => up_j (by omega)⟩
theorem FA_bx {A A' : Mm} {B : Nat → Int32} {n : Nat} (h : FA A A') (g : BX A B n) : BX A' B n := ⟨by rw [h.2 0 (by omega)]; exact g.1, fun j hj => by rw [h.1 6 (by decide)]; exact g.2 j hj⟩
theorem FR_bm {A A' : Mm} {B : Nat → Int32} {n : Nat} (h : FR A A') (g : BM A B n) : BM A' B n := by
  obtain ⟨h1, t, t6, h2, h3⟩ := g
  exact ⟨by rw [h.2 21 (by omega)]; exact h1, t, t6, by rw [h.2 20 (by omega)]; exact h2, fun j hj => by rw [h.1 1 (by decide)]; exact h3 j hj⟩
def TKx (B : Nat → Int32) (n : Nat) (A : Mm) (s : Nat) : Prop :=
  (s = n ∧ A 5 3 = 0) ∨
  (s < n ∧ woB (B s) = true ∧ A 5 5 = nI (ad woB B (n - s) s) ∧ A 5 3 = wtk (wrd B s (ad woB B (n - s) s)) 12 0 2) ∨
  (s < n ∧ woB (B s) = false ∧ dgB (B s) = true ∧ A 5 5 = nI (ad dgB B (n - s) s) ∧ A 5 6 = dvl B (ad dgB B (n - s) s - s) s 0 ∧ A 5 3 = (if ad dgB B (n - s) s - s ≤ 4 then 1 else 2)) ∨
  (s < n ∧ woB (B s) = false ∧ dgB (B s) = false ∧ sgB (B s) = true ∧ A 5 5 = nI (s + 1) ∧ A 5 3 = B s) ∨
  (s < n ∧ woB (B s) = false ∧ dgB (B s) = false ∧ sgB (B s) = false ∧ A 5 3 = 2)
def TKm (B : Nat → Int32) (n : Nat) (R : Mm) (s : Nat) : Prop :=
  (s = n ∧ R 0 23 = 0) ∨
  (s < n ∧ woB (B s) = true ∧ R 0 22 = nI (ad woB B (n - s) s) ∧ R 0 23 = 1) ∨
  (s < n ∧ woB (B s) = false ∧ dgB (B s) = true ∧ R 0 22 = nI (ad dgB B (n - s) s) ∧ (ad dgB B (n - s) s - s ≤ 4 → ∃ a, a < 10000 ∧ R 0 25 = nI a ∧ R 0 25 = dvl B (ad dgB B (n - s) s - s) s 0) ∧ R 0 23 = (if ad dgB B (n - s) s - s ≤ 4 then 2 else 4)) ∨
  (s < n ∧ woB (B s) = false ∧ dgB (B s) = false ∧ sgB (B s) = true ∧ R 0 22 = nI (s + 1) ∧ R 0 23 = 3 ∧ R 0 25 = B s) ∨
  (s < n ∧ woB (B s) = false ∧ dgB (B s) = false ∧ sgB (B s) = false ∧ R 0 23 = 4)
theorem x1_J39 {A : Mm} {B : Nat → Int32} {n s : Nat} (hb : BB B n) (hx : BX A B n) (hs : s ≤ n) (h5 : A 5 5 = nI s) : ∃ A', m_X1_advance_J39 A = some ((), A') ∧ FA A A' ∧ A' 5 4 = nI s ∧ TKx B n A' s := by
  have n160 := hb.1
  unfold m_X1_advance_J39
  rw [lt1_d]
  have f1 : FA A (up A 5 4 (A 5 5)) := FA_up (by omega)
  have a4 : up A 5 4 (A 5 5) 5 4 = nI s := by rw [up_s, h5]
  have a5 : up A 5 4 (A 5 5) 5 5 = nI s := by rw [up_j (by decide), h5]
  generalize up A 5 4 (A 5 5) = A1 at f1 a4 a5
  have hx1 := FA_bx f1 hx
  rw [a5, x1_by hb hx1 (by omega), bd_s, lt1_d]
  by_cases hn : s = n
  · rw [hb.2.2 s (by omega), if_pos rfl, lt1_d]
    exact ⟨_, rfl, FA_tr f1 (FA_up (by omega)), by rw [up_j (by decide)]; exact a4, Or.inl ⟨hn, up_s⟩⟩
  have sn : s < n := by omega
  obtain ⟨b, b1, b2⟩ := hb.2.1 s sn
  rw [if_neg (by rw [b2]; exact nI_m1 (by omega)), x1_wo, bd_s]
  cases hw : woB (B s) with
  | true =>
    have q := ad_le (p := woB) (B := B) (n - s) s
    have e1 := x1_rw_L hb (n - s) s 0 FU A1 (by unfold FU; omega) (by omega) (by omega) hx1 a5
    rw [nI_0] at e1
    rw [b2i_t, if_neg one_ne0]
    unfold m_X1_readWord
    rw [lt1_d, e1]
    generalize hX : ad woB B (n - s) s = x at q
    have f2 : FA A1 (up A1 5 5 (nI x)) := FA_up (by omega)
    have c4 : up A1 5 5 (nI x) 5 4 = nI s := by rw [up_j (by decide)]; exact a4
    have c5 : up A1 5 5 (nI x) 5 5 = nI x := up_s
    generalize up A1 5 5 (nI x) = A2 at f2 c4 c5
    have e2 := x1_46 hb (s := s) (x := x) q.1 (by omega) 12 0 FU (up A2 5 3 2) (by unfold FU; omega) (by omega) (BX_up (FA_bx f2 hx1) (by decide)) (by rw [up_j (by decide)]; exact c4) (by rw [up_j (by decide)]; exact c5)
    rw [nI_0, up_s, up_up] at e2
    unfold m_X1_readWord_J39
    rw [lt1_d, lt1_d, e2, bd_s]
    refine ⟨_, rfl, FA_tr f1 (FA_tr f2 (FA_up (by omega))), by rw [up_j (by decide)]; exact c4, Or.inr (Or.inl ⟨sn, hw, ?_, ?_⟩)⟩
    · rw [up_j (by decide), hX]; exact c5
    · rw [up_s, hX]
  | false =>
  rw [b2i_f, if_pos rfl, x1_dg, bd_s]
  cases hd : dgB (B s) with
  | true =>
    have q := ad_le (p := dgB) (B := B) (n - s) s
    have g1 : FA A1 (up A1 5 6 0) := FA_up (by omega)
    have g5 : up A1 5 6 0 5 5 = nI s := by rw [up_j (by decide)]; exact a5
    have g4 : up A1 5 6 0 5 4 = nI s := by rw [up_j (by decide)]; exact a4
    have g6 : up A1 5 6 0 5 6 = 0 := up_s
    rw [b2i_t, if_neg one_ne0]
    unfold m_X1_readNumber
    rw [lt1_d, lt1_d]
    generalize up A1 5 6 0 = A2 at g1 g5 g4 g6
    have e1 := x1_rn_L hb (n - s) s 0 FU A2 (by unfold FU; omega) (by omega) (by omega) (FA_bx g1 hx1) g5
    rw [nI_0, g6] at e1
    rw [e1]
    generalize hX : ad dgB B (n - s) s = x at q
    have f2 : FA A2 (up (up A2 5 6 (dvl B (x - s) s 0)) 5 5 (nI x)) := FA_tr (FA_up (by omega)) (FA_up (by omega))
    have c4 : up (up A2 5 6 (dvl B (x - s) s 0)) 5 5 (nI x) 5 4 = nI s := by rw [up_j (by decide), up_j (by decide)]; exact g4
    have c5 : up (up A2 5 6 (dvl B (x - s) s 0)) 5 5 (nI x) 5 5 = nI x := up_s
    have c6 : up (up A2 5 6 (dvl B (x - s) s 0)) 5 5 (nI x) 5 6 = dvl B (x - s) s 0 := by rw [up_j (by decide), up_s]
    generalize up (up A2 5 6 (dvl B (x - s) s 0)) 5 5 (nI x) = A3 at f2 c4 c5 c6
    unfold m_X1_readNumber_J67 m_X1_readNumber_J86
    rw [c4, c5, pk_sub q.1]
    have fin : ∀ v : Int32, v = (if x - s ≤ 4 then 1 else 2) → ∃ A', (bd (lt1 (up A3 5 3 v) fun M1 => some ((), M1)) fun _ M13 => some ((), M13)) = some ((), A') ∧ FA A A' ∧ A' 5 4 = nI s ∧ TKx B n A' s := by
      intro v hv
      rw [lt1_d, bd_s]
      refine ⟨_, rfl, FA_tr f1 (FA_tr g1 (FA_tr f2 (FA_up (by omega)))), by rw [up_j (by decide)]; exact c4, Or.inr (Or.inr (Or.inl ⟨sn, hw, hd, ?_, ?_, ?_⟩))⟩
      · rw [up_j (by decide), hX]; exact c5
      · rw [up_j (by decide), hX]; exact c6
      · rw [up_s, hX]; exact hv
    by_cases h4 : x - s ≤ 4
    · rw [if_neg (show ¬ (4 : Int32) < nI (x - s) from nI_nlt (a := 4) (by omega) (by omega))]
      exact fin 1 (by rw [if_pos h4])
    · rw [if_pos (show (4 : Int32) < nI (x - s) from nI_lt (a := 4) (by omega) (by omega))]
      exact fin 2 (by rw [if_neg h4])
  | false =>
  rw [b2i_f, if_pos rfl, x1_sg, bd_s]
  unfold m_X1_advance_J110
  cases hg : sgB (B s) with
  | true =>
    rw [b2i_t, if_neg one_ne0, lt1_d, lt1_d]
    refine ⟨_, rfl, FA_tr f1 (FA_tr (FA_up (by omega)) (FA_up (by omega))), by rw [up_j (by decide), up_j (by decide)]; exact a4, Or.inr (Or.inr (Or.inr (Or.inl ⟨sn, hw, hd, hg, ?_, ?_⟩)))⟩
    · rw [up_s, up_j (by decide), a5, nI_1]
    · rw [up_j (by decide), up_s]
  | false =>
    rw [b2i_f, if_pos rfl, lt1_d, lt1_d]
    refine ⟨_, rfl, FA_tr f1 (FA_tr (FA_up (by omega)) (FA_up (by omega))), by rw [up_j (by decide), up_j (by decide)]; exact a4, Or.inr (Or.inr (Or.inr (Or.inr ⟨sn, hw, hd, hg, ?_⟩)))⟩
    rw [up_j (by decide), up_s]
theorem x1_adv {A : Mm} {B : Nat → Int32} {n i : Nat} (hb : BB B n) (hx : BX A B n) (hi : i ≤ n) (h5 : A 5 5 = nI i) : ∃ A', m_X1_advance A = some ((), A') ∧ FA A A' ∧ A' 5 4 = nI (ad blB B (n - i) i) ∧ TKx B n A' (ad blB B (n - i) i) := by
  have n160 := hb.1
  have q := ad_le (p := blB) (B := B) (n - i) i
  have e1 := x1_adv_L hb (n - i) i 0 FU A (by unfold FU; omega) (by omega) (by omega) hx h5
  rw [nI_0] at e1
  unfold m_X1_advance
  rw [lt1_d, e1]
  have f1 : FA A (up A 5 5 (nI (ad blB B (n - i) i))) := FA_up (by omega)
  obtain ⟨A', a1, a2, a3⟩ := x1_J39 hb (FA_bx f1 hx) (s := ad blB B (n - i) i) (by omega) up_s
  exact ⟨A', a1, FA_tr f1 a2, a3⟩
/-! the reference's lexer -/
def ntl (M22 : Mm) : Option (Unit × Mm) := lt1 (up M22 0 24 ((M22 0 22))) fun M24 => bd (m_X5_byteAt ((M24 0 22)) M24) fun r26 M25 => lt1 r26 fun y27 => lt1 (up M25 0 23 ((4 : Int32))) fun M28 => if 0 ≤ y27 then (bd (m_X5_in (((y27).toInt64)) ((97 : Int64)) ((122 : Int64)) M28) fun r30 M29 => if r30 = 0 then (bd (m_X5_in (((y27).toInt64)) ((48 : Int64)) ((57 : Int64)) M29) fun r32 M31 => if r32 = 0 then (if y27 = (40 : Int32) then (m_X5_next_J300 y27 M31) else (if y27 = (41 : Int32) then (m_X5_next_J300 y27 M31) else (if y27 = (59 : Int32) then (m_X5_next_J300 y27 M31) else (if y27 = (43 : Int32) then (m_X5_next_J300 y27 M31) else (if y27 = (45 : Int32) then (m_X5_next_J300 y27 M31) else (if y27 = (42 : Int32) then (m_X5_next_J300 y27 M31) else (if y27 = (60 : Int32) then (m_X5_next_J300 y27 M31) else (if y27 = (61 : Int32) then (m_X5_next_J300 y27 M31) else (some ((), M31)))))))))) else (lt1 (up M31 0 23 ((2 : Int32))) fun M33 => gd (decide (((0 : Int64)).toInt32.toInt64 = (0 : Int64))) (lt1 (up M33 0 25 ((0 : Int64)).toInt32) fun M34 => lt1 ((0 : Int32)) fun y35 => m_X5_next_L160 FU y35 M34))) else (lt1 (up M29 0 23 ((1 : Int32))) fun M36 => m_X5_next_L100 FU M36)) else (lt1 (up M28 0 23 ((0 : Int32))) fun M37 => lt1 (up M37 0 24 ((M37 0 21))) fun M38 => some ((), M38))
theorem x5_nx_L {B : Nat → Int32} {n : Nat} (hb : BB B n) : ∀ (k i fu : Nat) (R : Mm), k < fu → i + k = n → BM R B n → R 0 22 = nI i → m_X5_next_L0 fu R = ntl (up R 0 22 (nI (ad blB B k i))) := by
  have n160 := hb.1
  intro k
  induction k with
  | zero =>
    intro i fu R hf hi hm h5
    obtain ⟨fu, rfl⟩ : ∃ m, fu = m + 1 := ⟨fu - 1, by omega⟩
    have e : up R 0 22 (nI (ad blB B 0 i)) = R := by show up R 0 22 (nI i) = R; rw [← h5]; exact up_self
    rw [e]
    show m_X5_next_B0 (m_X5_next_L0 fu) R = _
    have d1 : ¬ (-1 : Int32) = 32 := by decide
    have d2 : ¬ (-1 : Int32) = 10 := by decide
    rw [m_X5_next_B0, h5, x5_by hb hm (by omega), bd_s, hb.2.2 i (by omega), if_neg d1, h5, x5_by hb hm (by omega), bd_s, hb.2.2 i (by omega), if_neg d2, ntl, h5]
  | succ k ih =>
    intro i fu R hf hi hm h5
    obtain ⟨fu, rfl⟩ : ∃ m, fu = m + 1 := ⟨fu - 1, by omega⟩
    show m_X5_next_B0 (m_X5_next_L0 fu) R = _
    rw [m_X5_next_B0, h5, x5_by hb hm (by omega), bd_s]
    have hit : blB (B i) = true → m_X5_next_J26 (m_X5_next_L0 fu) R = ntl (up R 0 22 (nI (ad blB B (k + 1) i))) := by
      intro hp
      rw [m_X5_next_J26, lt1_d, h5, nI_1, ad_t hp, ih (i + 1) fu _ (by omega) (by omega) (BM_up hm (by omega)) up_s, up_up]
    by_cases h1 : B i = 32
    · rw [if_pos h1]
      exact hit (by rw [h1]; decide)
    · rw [if_neg h1, h5, x5_by hb hm (by omega), bd_s]
      by_cases h2 : B i = 10
      · rw [if_pos h2]
        exact hit (by rw [h2]; decide)
      · have hp : ¬ blB (B i) = true := by
          unfold blB
          rw [decide_eq_false h1, decide_eq_false h2]
          decide
        have e : up R 0 22 (nI (ad blB B (k + 1) i)) = R := by rw [ad_f hp, ← h5]; exact up_self
        rw [if_neg h2, e, ntl, h5]
theorem x5_wd_L {B : Nat → Int32} {n : Nat} (hb : BB B n) : ∀ (k i fu : Nat) (R : Mm), k < fu → i + k = n → BM R B n → R 0 22 = nI i → m_X5_next_L100 fu R = some ((), up R 0 22 (nI (ad woB B k i))) := by
  have n160 := hb.1
  intro k
  induction k with
  | zero =>
    intro i fu R hf hi hm h5
    obtain ⟨fu, rfl⟩ : ∃ m, fu = m + 1 := ⟨fu - 1, by omega⟩
    have e : up R 0 22 (nI (ad woB B 0 i)) = R := by show up R 0 22 (nI i) = R; rw [← h5]; exact up_self
    rw [e]
    show m_X5_next_B100 (m_X5_next_L100 fu) R = _
    rw [m_X5_next_B100, h5, x5_by hb hm (by omega), bd_s, in_wo, bd_s, hb.2.2 i (by omega), wo_m1, b2i_f, if_pos rfl]
  | succ k ih =>
    intro i fu R hf hi hm h5
    obtain ⟨fu, rfl⟩ : ∃ m, fu = m + 1 := ⟨fu - 1, by omega⟩
    show m_X5_next_B100 (m_X5_next_L100 fu) R = _
    rw [m_X5_next_B100, h5, x5_by hb hm (by omega), bd_s, in_wo, bd_s]
    by_cases hp : woB (B i) = true
    · rw [hp, b2i_t, if_neg one_ne0, lt1_d, h5, nI_1, ad_t hp, ih (i + 1) fu _ (by omega) (by omega) (BM_up hm (by omega)) up_s, up_up]
    · have e : up R 0 22 (nI (ad woB B (k + 1) i)) = R := by rw [ad_f hp, ← h5]; exact up_self
      rw [show woB (B i) = false from Bool.eq_false_iff.mpr hp, b2i_f, if_pos rfl, e]
theorem dg_is {B : Nat → Int32} {n i : Nat} (hb : BB B n) (hi : i < n) (h : dgB (B i) = true) : ∃ d, d ≤ 9 ∧ B i = nI (48 + d) := by
  obtain ⟨b, b1, b2⟩ := hb.2.1 i hi
  unfold dgB at h
  rw [b2] at h
  have h1 : ¬ nI b < (48 : Int32) := by
    intro q
    rw [decide_eq_true q] at h
    exact absurd h (by simp)
  have h2 : ¬ (57 : Int32) < nI b := by
    intro q
    rw [decide_eq_true q] at h
    exact absurd h (by simp)
  have g1 : 48 ≤ b := by
    by_cases z : 48 ≤ b
    · exact z
    · exact absurd (nI_lt (a := b) (b := 48) (by omega) (by omega)) h1
  have g2 : b ≤ 57 := by
    by_cases z : b ≤ 57
    · exact z
    · exact absurd (nI_lt (a := 57) (b := b) (by omega) (by omega)) h2
  exact ⟨b - 48, by omega, by rw [b2, show 48 + (b - 48) = b by omega]⟩
theorem dv_step {a d : Nat} : nI a * 10 + nI (48 + d) - 48 = nI (10 * a + d) := by
  show nI a * nI 10 + nI (48 + d) - nI 48 = _
  rw [pk_mul, nI_add, pk_sub (by omega), show a * 10 + (48 + d) - 48 = 10 * a + d by omega]
theorem x5_rn_L {B : Nat → Int32} {n : Nat} (hb : BB B n) : ∀ (k i c a fu : Nat) (R : Mm), k < fu → i + k = n → c ≤ i → a < 10 ^ (min c 4) → BM R B n → R 0 22 = nI i → R 0 25 = nI a → ∃ v, m_X5_next_L160 fu (nI c) R = m_X5_next_J246 (if c + (ad dgB B k i - i) ≤ 4 then 2 else 4) (up (up R 0 25 v) 0 22 (nI (ad dgB B k i))) ∧ (c + (ad dgB B k i - i) ≤ 4 → ∃ z, z < 10000 ∧ v = nI z ∧ v = dvl B (ad dgB B k i - i) i (nI a)) := by
  have n160 := hb.1
  have stop : ∀ (k i c a fu : Nat) (R : Mm), i + k = n → c ≤ i → a < 10 ^ (min c 4) → BM R B n → R 0 22 = nI i → R 0 25 = nI a → dgB (B i) = false → ad dgB B k i = i → ∃ v, m_X5_next_L160 (fu + 1) (nI c) R = m_X5_next_J246 (if c + (ad dgB B k i - i) ≤ 4 then 2 else 4) (up (up R 0 25 v) 0 22 (nI (ad dgB B k i))) ∧ (c + (ad dgB B k i - i) ≤ 4 → ∃ z, z < 10000 ∧ v = nI z ∧ v = dvl B (ad dgB B k i - i) i (nI a)) := by
    intro k i c a fu R hi hc ha hm h5 h25 hd he
    refine ⟨nI a, ?_, fun h4 => ?_⟩
    · rw [he, Nat.sub_self, ← h25, up_self, ← h5, up_self]
      show m_X5_next_B160 (m_X5_next_L160 fu) (nI c) R = _
      rw [m_X5_next_B160, h5, x5_by hb hm (by omega), bd_s, in_dg, bd_s, hd, b2i_f, if_pos rfl]
      by_cases h4 : c ≤ 4
      · rw [if_pos (show nI c ≤ (4 : Int32) from nI_le (b := 4) (by omega) (by omega)), if_pos (show c + 0 ≤ 4 by omega)]
      · rw [if_neg (show ¬ nI c ≤ (4 : Int32) from nI_ge (a := 4) (by omega) (by omega)), if_neg (show ¬ c + 0 ≤ 4 by omega)]
    · rw [he, Nat.sub_self]
      have : (10 : Nat) ^ (min c 4) ≤ 10 ^ 4 := Nat.pow_le_pow_right (by omega) (by omega)
      exact ⟨a, by omega, rfl, rfl⟩
  intro k
  induction k with
  | zero =>
    intro i c a fu R hf hi hc ha hm h5 h25
    obtain ⟨fu, rfl⟩ : ∃ m, fu = m + 1 := ⟨fu - 1, by omega⟩
    exact stop 0 i c a fu R hi hc ha hm h5 h25 (by rw [hb.2.2 i (by omega)]; exact dg_m1) rfl
  | succ k ih =>
    intro i c a fu R hf hi hc ha hm h5 h25
    obtain ⟨fu, rfl⟩ : ∃ m, fu = m + 1 := ⟨fu - 1, by omega⟩
    by_cases hp : dgB (B i) = true
    · have q := (ad_le (p := dgB) (B := B) k (i + 1)).1
      obtain ⟨d, d1, d2⟩ := dg_is hb (by omega) hp
      have a4 : a < 10000 := Nat.lt_of_lt_of_le ha (Nat.pow_le_pow_right (by omega) (by omega) : (10 : Nat) ^ (min c 4) ≤ 10 ^ 4)
      have ee : ad dgB B (k + 1) i - i = (ad dgB B k (i + 1) - (i + 1)) + 1 := by rw [ad_t hp]; omega
      have body : ∀ z, z < 10000 → z < 10 ^ (min (c + 1) 4) → (m_X5_next_L160 (fu + 1) (nI c) R = m_X5_next_L160 fu (nI (c + 1)) (up (up R 0 25 (nI z)) 0 22 (nI (i + 1)))) → (c < 4 → nI z = nI a * 10 + B i - 48) → ∃ v, m_X5_next_L160 (fu + 1) (nI c) R = m_X5_next_J246 (if c + (ad dgB B (k + 1) i - i) ≤ 4 then 2 else 4) (up (up R 0 25 v) 0 22 (nI (ad dgB B (k + 1) i))) ∧ (c + (ad dgB B (k + 1) i - i) ≤ 4 → ∃ z, z < 10000 ∧ v = nI z ∧ v = dvl B (ad dgB B (k + 1) i - i) i (nI a)) := by
        intro z z1 z2 e1 e2
        obtain ⟨v, v1, v2⟩ := ih (i + 1) (c + 1) z fu (up (up R 0 25 (nI z)) 0 22 (nI (i + 1))) (by omega) (by omega) (by omega) z2 (BM_up (BM_up hm (by omega)) (by omega)) up_s (by rw [up_j (by decide), up_s])
        refine ⟨v, ?_, fun h4 => ?_⟩
        · rw [e1, v1, up_4 (by decide), ee, ad_t hp, show c + 1 + (ad dgB B k (i + 1) - (i + 1)) = c + (ad dgB B k (i + 1) - (i + 1) + 1) by omega]
        · rw [ee] at h4 ⊢
          obtain ⟨y, y1, y2, y3⟩ := v2 (by omega)
          refine ⟨y, y1, y2, ?_⟩
          rw [y3]
          show _ = dvl B _ (i + 1) (nI a * 10 + B i - 48)
          rw [e2 (by omega)]
      by_cases h4 : 4 ≤ c
      · refine body a a4 (by rw [show min (c + 1) 4 = min c 4 by omega]; exact ha) ?_ (fun h => absurd h (by omega))
        show m_X5_next_B160 (m_X5_next_L160 fu) (nI c) R = _
        rw [m_X5_next_B160, h5, x5_by hb hm (by omega), bd_s, in_dg, bd_s, hp, b2i_t, if_neg one_ne0, if_pos (show (4 : Int32) ≤ nI c from nI_le (a := 4) (by omega) (by omega)), m_X5_next_J216, h25, nI_l (by omega), lN_i, nI_l (by omega), decide_eq_true rfl, gd_t, lt1_d, lt1_d, lt1_d, up_j (show (22 : Nat) ≠ 25 by decide), h5, nI_1, nI_1]
      · have p4 : (10 : Nat) ^ (min (c + 1) 4) = 10 * 10 ^ (min c 4) := by rw [show min (c + 1) 4 = min c 4 + 1 by omega, Nat.pow_succ, Nat.mul_comm]
        have a3 : (10 : Nat) ^ (min c 4) ≤ 10 ^ 3 := Nat.pow_le_pow_right (by omega) (by omega)
        refine body (10 * a + d) (by omega) (by rw [p4]; omega) ?_ (fun _ => by rw [d2, dv_step])
        show m_X5_next_B160 (m_X5_next_L160 fu) (nI c) R = _
        have ev : (10 : Int64) * (nI a).toInt64 + (nI (48 + d)).toInt64 - 48 = lN (10 * a + d) := by
          rw [nI_l (by omega), nI_l (by omega)]
          show lN 10 * lN a + lN (48 + d) - lN 48 = _
          rw [lN_mul, lN_add, lN_sub (by omega), show 10 * a + (48 + d) - 48 = 10 * a + d by omega]
        rw [m_X5_next_B160, h5, x5_by hb hm (by omega), bd_s, in_dg, bd_s, hp, b2i_t, if_neg one_ne0, if_neg (show ¬ (4 : Int32) ≤ nI c from nI_ge (b := 4) (by omega) (by omega)), h5, x5_by hb hm (by omega), bd_s, m_X5_next_J216, h25, d2, ev, lN_i, nI_l (by omega), decide_eq_true rfl, gd_t, lt1_d, lt1_d, lt1_d, up_j (show (22 : Nat) ≠ 25 by decide), h5, nI_1, nI_1]
    · exact stop (k + 1) i c a fu R hi hc ha hm h5 h25 (Bool.eq_false_iff.mpr hp) (ad_f hp)
theorem x5_tl {R : Mm} {B : Nat → Int32} {n s : Nat} (hb : BB B n) (hm : BM R B n) (hs : s ≤ n) (h5 : R 0 22 = nI s) : ∃ R', ntl R = some ((), R') ∧ FR R R' ∧ R' 0 24 = nI s ∧ TKm B n R' s := by
  have n160 := hb.1
  unfold ntl
  rw [lt1_d]
  have f1 : FR R (up R 0 24 (R 0 22)) := FR_up (by omega)
  have a4 : up R 0 24 (R 0 22) 0 24 = nI s := by rw [up_s, h5]
  have a5 : up R 0 24 (R 0 22) 0 22 = nI s := by rw [up_j (by decide), h5]
  generalize up R 0 24 (R 0 22) = R1 at f1 a4 a5
  have hm1 := FR_bm f1 hm
  rw [a5, x5_by hb hm1 (by omega), bd_s, lt1_d, lt1_d]
  have f2 : FR R1 (up R1 0 23 4) := FR_up (by omega)
  have b4 : up R1 0 23 4 0 24 = nI s := by rw [up_j (by decide)]; exact a4
  have b5 : up R1 0 23 4 0 22 = nI s := by rw [up_j (by decide)]; exact a5
  have b3 : up R1 0 23 4 0 23 = 4 := up_s
  generalize up R1 0 23 4 = R2 at f2 b4 b5 b3
  have hm2 := FR_bm f2 hm1
  have g2 := FR_tr f1 f2
  by_cases hn : s = n
  · have d1 : ¬ (0 : Int32) ≤ -1 := by decide
    rw [hb.2.2 s (by omega), if_neg d1, lt1_d, lt1_d]
    refine ⟨_, rfl, FR_tr g2 (FR_tr (FR_up (by omega)) (FR_up (by omega))), ?_, Or.inl ⟨hn, ?_⟩⟩
    · rw [up_s, up_j (by decide), hm2.1, hn]
    · rw [up_j (by decide), up_s]
  have sn : s < n := by omega
  obtain ⟨b, b1, b2⟩ := hb.2.1 s sn
  rw [if_pos (by rw [b2]; exact nI_pos' (by omega)), in_wo, bd_s]
  cases hw : woB (B s) with
  | true =>
    have q := ad_le (p := woB) (B := B) (n - s) s
    rw [b2i_t, if_neg one_ne0, lt1_d, x5_wd_L hb (n - s) s FU _ (by unfold FU; omega) (by omega) (BM_up hm2 (by omega)) (by rw [up_j (by decide)]; exact b5)]
    refine ⟨_, rfl, FR_tr g2 (FR_tr (FR_up (by omega)) (FR_up (by omega))), by rw [up_j (by decide), up_j (by decide)]; exact b4, Or.inr (Or.inl ⟨sn, hw, up_s, ?_⟩)⟩
    rw [up_j (by decide), up_s]
  | false =>
  rw [b2i_f, if_pos rfl, in_dg, bd_s]
  cases hd : dgB (B s) with
  | true =>
    have q := ad_le (p := dgB) (B := B) (n - s) s
    have z0 : decide (((0 : Int64)).toInt32.toInt64 = (0 : Int64)) = true := by decide
    have z1 : (0 : Int64).toInt32 = nI 0 := by decide
    rw [b2i_t, if_neg one_ne0, lt1_d, z0, gd_t, lt1_d, lt1_d, z1]
    have f3 : FR R2 (up (up R2 0 23 2) 0 25 (nI 0)) := FR_tr (FR_up (by omega)) (FR_up (by omega))
    have c4 : up (up R2 0 23 2) 0 25 (nI 0) 0 24 = nI s := by rw [up_j (by decide), up_j (by decide)]; exact b4
    have c5 : up (up R2 0 23 2) 0 25 (nI 0) 0 22 = nI s := by rw [up_j (by decide), up_j (by decide)]; exact b5
    have c6 : up (up R2 0 23 2) 0 25 (nI 0) 0 25 = nI 0 := up_s
    generalize up (up R2 0 23 2) 0 25 (nI 0) = R3 at f3 c4 c5 c6
    obtain ⟨v, v1, v2⟩ := x5_rn_L hb (n - s) s 0 0 FU R3 (by unfold FU; omega) (by omega) (by omega) (by decide) (FR_bm f3 hm2) c5 c6
    rw [nI_0] at v1
    rw [v1, m_X5_next_J246, lt1_d]
    refine ⟨_, rfl, FR_tr g2 (FR_tr f3 (FR_tr (FR_up (by omega)) (FR_tr (FR_up (by omega)) (FR_up (by omega))))), ?_, Or.inr (Or.inr (Or.inl ⟨sn, hw, hd, ?_, ?_, ?_⟩))⟩
    · rw [up_j (by decide), up_j (by decide), up_j (by decide)]; exact c4
    · rw [up_j (by decide), up_s]
    · intro h4
      rw [up_j (by decide), up_j (by decide), up_s]
      obtain ⟨z, z2, z3, z4⟩ := v2 (by omega)
      exact ⟨z, z2, z3, z4⟩
    · rw [up_s, Nat.zero_add]
  | false =>
  rw [b2i_f, if_pos rfl]
  have sgn : ∀ c : Int32, c = B s → sgB (B s) = true → ∃ R', m_X5_next_J300 (B s) R2 = some ((), R') ∧ FR R R' ∧ R' 0 24 = nI s ∧ TKm B n R' s := by
    intro c hc hg
    have e1 : (B s).toInt64.toInt32.toInt64 = (B s).toInt64 := by rw [b2, nI_l (by omega), lN_i, nI_l (by omega)]
    have e2 : (B s).toInt64.toInt32 = B s := by rw [b2, nI_l (by omega), lN_i]
    unfold m_X5_next_J300
    rw [lt1_d, e1, decide_eq_true rfl, gd_t, lt1_d, lt1_d, e2]
    refine ⟨_, rfl, FR_tr g2 (FR_tr (FR_up (by omega)) (FR_tr (FR_up (by omega)) (FR_up (by omega)))), ?_, Or.inr (Or.inr (Or.inr (Or.inl ⟨sn, hw, hd, hg, ?_, ?_, ?_⟩)))⟩
    · rw [up_j (by decide), up_j (by decide), up_j (by decide)]; exact b4
    · rw [up_s, up_j (by decide), up_j (by decide), b5, nI_1]
    · rw [up_j (by decide), up_j (by decide), up_s]
    · rw [up_j (by decide), up_s]
  by_cases k0 : B s = 40
  · rw [if_pos k0]
    exact sgn 40 k0.symm (by rw [k0]; decide)
  rw [if_neg k0]
  by_cases k1 : B s = 41
  · rw [if_pos k1]
    exact sgn 41 k1.symm (by rw [k1]; decide)
  rw [if_neg k1]
  by_cases k2 : B s = 59
  · rw [if_pos k2]
    exact sgn 59 k2.symm (by rw [k2]; decide)
  rw [if_neg k2]
  by_cases k3 : B s = 43
  · rw [if_pos k3]
    exact sgn 43 k3.symm (by rw [k3]; decide)
  rw [if_neg k3]
  by_cases k4 : B s = 45
  · rw [if_pos k4]
    exact sgn 45 k4.symm (by rw [k4]; decide)
  rw [if_neg k4]
  by_cases k5 : B s = 42
  · rw [if_pos k5]
    exact sgn 42 k5.symm (by rw [k5]; decide)
  rw [if_neg k5]
  by_cases k6 : B s = 60
  · rw [if_pos k6]
    exact sgn 60 k6.symm (by rw [k6]; decide)
  rw [if_neg k6]
  by_cases k7 : B s = 61
  · rw [if_pos k7]
    exact sgn 61 k7.symm (by rw [k7]; decide)
  rw [if_neg k7]
  refine ⟨_, rfl, g2, b4, Or.inr (Or.inr (Or.inr (Or.inr ⟨sn, hw, hd, ?_, b3⟩)))⟩
  unfold sgB
  rw [decide_eq_false k0, decide_eq_false k1, decide_eq_false k2, decide_eq_false k3, decide_eq_false k4, decide_eq_false k5, decide_eq_false k6, decide_eq_false k7]
  decide
theorem x5_nx {R : Mm} {B : Nat → Int32} {n i : Nat} (hb : BB B n) (hm : BM R B n) (hi : i ≤ n) (h5 : R 0 22 = nI i) : ∃ R', m_X5_next R = some ((), R') ∧ FR R R' ∧ R' 0 24 = nI (ad blB B (n - i) i) ∧ TKm B n R' (ad blB B (n - i) i) := by
  have n160 := hb.1
  have q := ad_le (p := blB) (B := B) (n - i) i
  have e1 := x5_nx_L hb (n - i) i FU R (by unfold FU; omega) (by omega) hm h5
  unfold m_X5_next
  rw [e1]
  have f1 : FR R (up R 0 22 (nI (ad blB B (n - i) i))) := FR_up (by omega)
  obtain ⟨R', a1, a2, a3⟩ := x5_tl hb (FR_bm f1 hm) (s := ad blB B (n - i) i) (by omega) up_s
  exact ⟨R', a1, FR_tr f1 a2, a3⟩
/-! the two lexers side by side -/
def TV (B : Nat → Int32) (n : Nat) (A R : Mm) (s : Nat) : Prop :=
  (s = n ∧ A 5 3 = 0 ∧ R 0 23 = 0) ∨
  (s < n ∧ ∃ x, s < x ∧ x ≤ n ∧ A 5 5 = nI x ∧ R 0 22 = nI x ∧ (
    (∃ w, w < 12 ∧ A 5 3 = nI (256 + w) ∧ R 0 23 = 1 ∧ wrd B s x = WW w ∧ ∀ j, s ≤ j → j < x → woB (B j) = true) ∨
    (A 5 3 = 1 ∧ R 0 23 = 2 ∧ A 5 6 = R 0 25 ∧ ∃ a, a < 10000 ∧ R 0 25 = nI a) ∨
    (sgB (B s) = true ∧ A 5 3 = B s ∧ R 0 23 = 3 ∧ R 0 25 = B s))) ∨
  (s < n ∧ A 5 3 = 2 ∧ (R 0 23 = 4 ∨ (R 0 23 = 1 ∧ ∃ x, s < x ∧ x ≤ n ∧ R 0 22 = nI x ∧ (∀ j, s ≤ j → j < x → woB (B j) = true) ∧ ∀ w, w < 12 → wrd B s x ≠ WW w)))
theorem ad_lt {p : Int32 → Bool} {B : Nat → Int32} {n s : Nat} (hs : s < n) (h : p (B s) = true) : s < ad p B (n - s) s ∧ ad p B (n - s) s ≤ n := by
  obtain ⟨k, rfl⟩ : ∃ k, n = s + (k + 1) := ⟨n - s - 1, by omega⟩
  rw [show s + (k + 1) - s = k + 1 by omega, ad_t h]
  have := ad_le (p := p) (B := B) k (s + 1)
  omega
theorem wtk_all : ∀ w, w < 12 → wtk (WW w) 12 0 2 = nI (256 + w) := by decide +kernel
theorem wtk_no {l : List Int32} : ∀ (k i : Nat) (a : Int32), (∀ w, i ≤ w → w < i + k → l ≠ WW w) → wtk l k i a = a := by
  intro k
  induction k with
  | zero => intro i a _; rfl
  | succ k ih =>
    intro i a h
    unfold wtk
    rw [if_neg (h i (Nat.le_refl i) (by omega)), ih (i + 1) a (fun w h1 h2 => h w (by omega) (by omega))]
theorem wtk_or (l : List Int32) : (∃ w, w < 12 ∧ l = WW w) ∨ ∀ w, w < 12 → l ≠ WW w := by
  by_cases h : ∃ w, w < 12 ∧ l = WW w
  · exact Or.inl h
  · exact Or.inr (fun w h1 h2 => h ⟨w, h1, h2⟩)
theorem tk_tv {B : Nat → Int32} {n s : Nat} {A R : Mm} (hx : TKx B n A s) (hm : TKm B n R s) : TV B n A R s := by
  rcases hx with ⟨a1, a2⟩ | ⟨a1, a2, a3, a4⟩ | ⟨a1, a2, a3, a4, a5, a6⟩ | ⟨a1, a2, a3, a4, a5, a6⟩ | ⟨a1, a2, a3, a4, a5⟩
  · rcases hm with ⟨b1, b2⟩ | ⟨b1, -⟩ | ⟨b1, -⟩ | ⟨b1, -⟩ | ⟨b1, -⟩
    · exact Or.inl ⟨a1, a2, b2⟩
    all_goals omega
  · rcases hm with ⟨b1, b2⟩ | ⟨b1, b2, b3, b4⟩ | ⟨b1, b2, -⟩ | ⟨b1, b2, -⟩ | ⟨b1, b2, -⟩
    · omega
    · have q := ad_lt a1 a2
      have lt : ∀ j, s ≤ j → j < ad woB B (n - s) s → woB (B j) = true := ad_all (n - s) s
      rcases wtk_or (wrd B s (ad woB B (n - s) s)) with ⟨w, w1, w2⟩ | hno
      · exact Or.inr (Or.inl ⟨a1, _, q.1, q.2, a3, b3, Or.inl ⟨w, w1, by rw [a4, w2]; exact wtk_all w w1, b4, w2, lt⟩⟩)
      · exact Or.inr (Or.inr ⟨a1, by rw [a4]; exact wtk_no 12 0 2 (fun w _ h => hno w (by omega)), Or.inr ⟨b4, _, q.1, q.2, b3, lt, hno⟩⟩)
    all_goals rw [a2] at b2; cases b2
  · rcases hm with ⟨b1, b2⟩ | ⟨b1, b2, -⟩ | ⟨b1, b2, b3, b4, b5, b6⟩ | ⟨b1, b2, b3, -⟩ | ⟨b1, b2, b3, -⟩
    · omega
    · rw [a2] at b2; cases b2
    · have q := ad_lt a1 a3
      by_cases h4 : ad dgB B (n - s) s - s ≤ 4
      · rw [if_pos h4] at a6 b6
        obtain ⟨z, z1, z2, z3⟩ := b5 h4
        exact Or.inr (Or.inl ⟨a1, _, q.1, q.2, a4, b4, Or.inr (Or.inl ⟨a6, b6, by rw [a5, z3], z, z1, z2⟩)⟩)
      · rw [if_neg h4] at a6 b6
        exact Or.inr (Or.inr ⟨a1, a6, Or.inl b6⟩)
    all_goals rw [a3] at b3; cases b3
  · rcases hm with ⟨b1, b2⟩ | ⟨b1, b2, -⟩ | ⟨b1, b2, b3, -⟩ | ⟨b1, b2, b3, b4, b5, b6, b7⟩ | ⟨b1, b2, b3, b4, -⟩
    · omega
    · rw [a2] at b2; cases b2
    · rw [a3] at b3; cases b3
    · exact Or.inr (Or.inl ⟨a1, s + 1, by omega, by omega, a5, b5, Or.inr (Or.inr ⟨a4, a6, b6, b7⟩)⟩)
    · rw [a4] at b4; cases b4
  · rcases hm with ⟨b1, b2⟩ | ⟨b1, b2, -⟩ | ⟨b1, b2, b3, -⟩ | ⟨b1, b2, b3, b4, -⟩ | ⟨b1, b2, b3, b4, b5⟩
    · omega
    · rw [a2] at b2; cases b2
    · rw [a3] at b3; cases b3
    · rw [a4] at b4; cases b4
    · exact Or.inr (Or.inr ⟨a1, a5, Or.inl b5⟩)
/-- both are well on the way: the token at hand begins at s, e codes stand -/
def GD (B : Nat → Int32) (n : Nat) (A R : Mm) (s e : Nat) : Prop := A 5 7 = -1 ∧ R 0 27 = 0 ∧ A 5 4 = nI s ∧ R 0 24 = nI s ∧ A 1 9 = nI e ∧ TV B n A R s
theorem adv2 {A R : Mm} {B : Nat → Int32} {n i e : Nat} (hb : BB B n) (hx : BX A B n) (hm : BM R B n) (hi : i ≤ n) (h5 : A 5 5 = nI i) (h22 : R 0 22 = nI i) (h7 : A 5 7 = -1) (h27 : R 0 27 = 0) (h9 : A 1 9 = nI e) : ∃ A' R' s', m_X1_advance A = some ((), A') ∧ m_X5_next R = some ((), R') ∧ i ≤ s' ∧ s' ≤ n ∧ FA A A' ∧ FR R R' ∧ GD B n A' R' s' e := by
  obtain ⟨A', a1, a2, a3, a4⟩ := x1_adv hb hx hi h5
  obtain ⟨R', b1, b2, b3, b4⟩ := x5_nx hb hm hi h22
  have q := ad_le (p := blB) (B := B) (n - i) i
  exact ⟨A', R', _, a1, b1, q.1, by omega, a2, b2, by rw [a2.2 7 (by omega)]; exact h7, by rw [b2.2 27 (by omega)]; exact h27, a3, b3, by rw [a2.1 1 (by decide)]; exact h9, tk_tv a4 b4⟩
