/-! texts read side by side: what changes, what stands -/
def BDx (e : Nat) (A : Mm) : Prop := A 5 3 = 2 ∧ (∃ f, f ≤ 160 ∧ A 5 7 = nI f) ∧ ∃ e', e ≤ e' ∧ e' ≤ 960 ∧ A 1 9 = nI e'
def BAD (e : Nat) (A R : Mm) : Prop := BDx e A ∧ R 0 27 = 1 ∧ R 0 28 = A 5 7
def FPx (e : Nat) (A A' : Mm) : Prop := (∀ k, k ≠ 1 → k ≠ 2 → k ≠ 5 → A' k = A k) ∧ (∀ j, j ≠ 9 → A' 1 j = A 1 j) ∧ (∀ j, (j < 3 ∨ 7 < j) → A' 5 j = A 5 j) ∧ ∀ j, j < e → A' 2 j = A 2 j
def FPm (R R' : Mm) : Prop := (∀ k, k ≠ 0 → R' k = R k) ∧ ∀ j, (j < 22 ∨ 28 < j) → R' 0 j = R 0 j
theorem FPx_rf {e : Nat} {A : Mm} : FPx e A A := ⟨fun _ _ _ _ => rfl, fun _ _ => rfl, fun _ _ => rfl, fun _ _ => rfl⟩
theorem FPm_rf {A : Mm} : FPm A A := ⟨fun _ _ => rfl, fun _ _ => rfl⟩
theorem FPx_tr {e : Nat} {A A1 A2 : Mm} (h : FPx e A A1) (g : FPx e A1 A2) : FPx e A A2 := ⟨fun k a b c => (g.1 k a b c).trans (h.1 k a b c), fun j a => (g.2.1 j a).trans (h.2.1 j a), fun j a => (g.2.2.1 j a).trans (h.2.2.1 j a), fun j a => (g.2.2.2 j a).trans (h.2.2.2 j a)⟩
theorem FPm_tr {A A1 A2 : Mm} (h : FPm A A1) (g : FPm A1 A2) : FPm A A2 := ⟨fun k a => (g.1 k a).trans (h.1 k a), fun j a => (g.2 j a).trans (h.2 j a)⟩
theorem FPx_le {e e' : Nat} {A A' : Mm} (he : e ≤ e') (h : FPx e' A A') : FPx e A A' := ⟨h.1, h.2.1, h.2.2.1, fun j a => h.2.2.2 j (by omega)⟩
theorem FPx_fa {e : Nat} {A A' : Mm} (h : FA A A') : FPx e A A' := ⟨fun k _ _ c => h.1 k c, fun j _ => by rw [h.1 1 (by decide)], fun j a => h.2 j (by omega), fun j _ => by rw [h.1 2 (by decide)]⟩
theorem FPm_fr {A A' : Mm} (h : FR A A') : FPm A A' := ⟨h.1, fun j a => h.2 j (by omega)⟩
theorem FPm_up {A : Mm} {j : Nat} {x : Int32} (h : 22 ≤ j ∧ j ≤ 28) : FPm A (up A 0 j x) := ⟨fun k a => by funext b; exact up_k a, fun i a => up_j (by omega)⟩
theorem FPx_u5 {e : Nat} {A : Mm} {j : Nat} {x : Int32} (h : 3 ≤ j ∧ j ≤ 7) : FPx e A (up A 5 j x) := ⟨fun k _ _ c => by funext b; exact up_k c, fun i _ => up_k (by decide), fun i a => up_j (by omega), fun i _ => up_k (by decide)⟩
theorem FPx_ad {e e2 : Nat} {A : Mm} {c x : Int32} (h : e ≤ e2) : FPx e A (up (up A 2 e2 c) 1 9 x) := by
  refine ⟨fun k a b _ => ?_, fun j a => ?_, fun j _ => ?_, fun j a => ?_⟩
  · funext i; rw [up_k a, up_k b]
  · rw [up_j a, up_k (by decide)]
  · rw [up_k (by decide), up_k (by decide)]
  · rw [up_k (by decide), up_j (by omega)]
theorem FPx_bx {e : Nat} {A A' : Mm} {B : Nat → Int32} {n : Nat} (h : FPx e A A') (g : BX A B n) : BX A' B n := ⟨by rw [h.2.2.1 0 (by omega)]; exact g.1, fun j hj => by rw [h.1 6 (by decide) (by decide) (by decide)]; exact g.2 j hj⟩
theorem FPm_bm {A A' : Mm} {B : Nat → Int32} {n : Nat} (h : FPm A A') (g : BM A B n) : BM A' B n := by
  obtain ⟨h1, t, t6, h2, h3⟩ := g
  exact ⟨by rw [h.2 21 (by omega)]; exact h1, t, t6, by rw [h.2 20 (by omega)]; exact h2, fun j hj => by rw [h.1 1 (by decide)]; exact h3 j hj⟩
def nmE (R : Mm) : Nat → Int32 := en6 (R 0 14) (R 0 15) (R 0 16) (R 0 17) (R 0 18) (R 0 19)
theorem nmE_m {R R' : Mm} (h : FPm R R') : nmE R' = nmE R := by
  unfold nmE
  rw [h.2 14 (by omega), h.2 15 (by omega), h.2 16 (by omega), h.2 17 (by omega), h.2 18 (by omega), h.2 19 (by omega)]
def CDA (A : Mm) (e : Nat) (c : List Int32) : Prop := ∀ k, k < c.length → A 2 (e + k) = c.getD k 0
def RUN (R : Mm) (h : Nat) (c : List Int32) (v : Int32) : Prop := ∀ st : List Int32, st.length + h ≤ 63 → rnC (nmE R) c st = some (v :: st)
theorem rnC_app {e : Nat → Int32} : ∀ (c1 c2 st : List Int32), rnC e (c1 ++ c2) st = (match rnC e c1 st with
    | some t => rnC e c2 t
    | none => none) := by
  intro c1
  induction c1 with
  | nil => intro c2 st; rfl
  | cons a c1 ih =>
    intro c2 st
    show (match stC e a st with | some t => rnC e (c1 ++ c2) t | none => none) = (match (match stC e a st with | some t => rnC e c1 t | none => none) with | some t => rnC e c2 t | none => none)
    cases stC e a st with
    | none => rfl
    | some t => exact ih c2 t
theorem gD_l {c1 c2 : List Int32} {k : Nat} (h : k < c1.length) : (c1 ++ c2).getD k 0 = c1.getD k 0 := by
  simp [List.getD, List.getElem?_append_left h]
theorem gD_r {c1 c2 : List Int32} {k : Nat} (h : c1.length ≤ k) : (c1 ++ c2).getD k 0 = c2.getD (k - c1.length) 0 := by
  simp [List.getD, List.getElem?_append_right h]
theorem CDA_app {A : Mm} {e : Nat} {c1 c2 : List Int32} (h1 : CDA A e c1) (h2 : CDA A (e + c1.length) c2) : CDA A e (c1 ++ c2) := by
  intro k hk
  rw [List.length_append] at hk
  by_cases h : k < c1.length
  · rw [gD_l h]; exact h1 k h
  · rw [gD_r (by omega), ← h2 (k - c1.length) (by omega), show e + c1.length + (k - c1.length) = e + k by omega]
theorem CDA_fp {A A' : Mm} {e e2 : Nat} {c : List Int32} (h : CDA A e c) (f : FPx e2 A A') (he : e + c.length ≤ e2) : CDA A' e c := fun k hk => by rw [f.2.2.2 _ (by omega)]; exact h k hk
theorem CDA_1 {A : Mm} {e : Nat} {c : Int32} {x : Int32} : CDA (up (up A 2 e c) 1 9 x) e [c] := by
  intro k hk
  have : k = 0 := by simp at hk; exact hk
  subst this
  rw [up_k (by decide), Nat.add_zero, up_s]
  rfl
theorem RUN_le {R : Mm} {h h' : Nat} {c : List Int32} {v : Int32} (g : RUN R h c v) (q : h ≤ h') : RUN R h' c v := fun st hs => g st (by omega)
theorem RUN_m {R R' : Mm} {h : Nat} {c : List Int32} {v : Int32} (f : FPm R R') (g : RUN R' h c v) : RUN R h c v := by
  intro st hs
  rw [← nmE_m f]
  exact g st hs
theorem RUN_op {R : Mm} {h : Nat} {c0 c2 : List Int32} {c v x : Int32} (h1 : 1 ≤ h) (g0 : RUN R (h + 1) c0 v) (g2 : RUN R h c2 x) (hc : c ≤ -11) (hc2 : ¬ c ≤ -21) : RUN R (h + 1) (c0 ++ (c2 ++ [c])) (jnC c v x) := by
  intro st hs
  rw [rnC_app, g0 st hs]
  show rnC (nmE R) (c2 ++ [c]) (v :: st) = _
  rw [rnC_app, g2 (v :: st) (by simp only [List.length_cons]; omega)]
  show (match stC (nmE R) c (x :: v :: st) with | some t => rnC (nmE R) [] t | none => none) = _
  unfold stC
  rw [if_neg (by simp only [List.length_cons]; omega), if_pos hc, if_neg hc2]
  rfl
theorem RUN_un {R : Mm} {h : Nat} {c2 : List Int32} {c x : Int32} (h1 : 1 ≤ h) (g2 : RUN R h c2 x) (hc2 : c ≤ -21) (hc : c ≤ -11) : RUN R h (c2 ++ [c]) (jnC c 0 x) := by
  intro st hs
  rw [rnC_app, g2 st hs]
  show (match stC (nmE R) c (x :: st) with | some t => rnC (nmE R) [] t | none => none) = _
  unfold stC
  rw [if_neg (by simp only [List.length_cons]; omega), if_pos hc, if_pos hc2]
  rfl
theorem RUN_n {R : Mm} {c : Int32} (hc : ¬ c ≤ -11) : RUN R 1 [c] (if c < 0 then nmC (nmE R) c else c) := by
  intro st hs
  show (match stC (nmE R) c st with | some t => rnC (nmE R) [] t | none => none) = _
  unfold stC
  rw [if_neg (by omega), if_neg hc]
  rfl
/-- what two readers of a part of a text do -/
def OKR (B : Nat → Int32) (n h : Nat) (A R : Mm) (s e o : Nat) (Xc : Option (Unit × Mm)) (Xm : Option (Int32 × Mm)) : Prop := ∃ (v : Int32) (A' R' : Mm), Xc = some ((), A') ∧ Xm = some (v, R') ∧ FPx e A A' ∧ FPm R R' ∧ R' 0 26 = nI o ∧ ((∃ (s' : Nat) (c : List Int32), s < s' ∧ GD B n A' R' s' (e + c.length) ∧ c.length ≤ s' - s ∧ CDA A' e c ∧ RUN R h c v) ∨ BAD e A' R')
def OKF (B : Nat → Int32) (n h o : Nat) (kx : Int32 → Mm → Option (Unit × Mm)) (km : Mm → Option (Int32 × Mm)) : Prop := ∀ (A R : Mm) (s e : Nat), BX A B n → BM R B n → GD B n A R s e → R 0 26 = nI o → e + (n - s) ≤ 960 → OKR B n h A R s e o (kx (nI o) A) (km R)
def BFx (kx : Int32 → Mm → Option (Unit × Mm)) : Prop := ∀ (x : Int32) (A : Mm), A 5 3 = 2 → ¬ A 5 7 = -1 → kx x A = some ((), A)
def BFm (km : Mm → Option (Int32 × Mm)) : Prop := ∀ R : Mm, R 0 27 = 1 → ∃ v, km R = some (v, R)
theorem BDx_n {e : Nat} {A : Mm} (h : BDx e A) : ¬ A 5 7 = -1 := by
  obtain ⟨-, ⟨f, f1, f2⟩, -⟩ := h
  rw [f2]
  exact nI_m1 (by omega)
theorem BAD_le {e e' : Nat} {A R : Mm} (he : e ≤ e') (h : BAD e' A R) : BAD e A R := by
  obtain ⟨⟨b1, b2, x, x1, x2, x3⟩, b3, b4⟩ := h
  exact ⟨⟨b1, b2, x, by omega, x2, x3⟩, b3, b4⟩
theorem BAD_st {B : Nat → Int32} {n e : Nat} {A R : Mm} (h : BAD e A R) : STT B n A R := Or.inr ⟨h.1.1, h.2.1⟩
theorem BAD_op {e : Nat} {A R : Mm} {x : Int32} (h : BAD e A R) : BAD e A (up R 0 26 x) := ⟨h.1, by rw [up_j (by decide)]; exact h.2.1, by rw [up_j (by decide)]; exact h.2.2⟩
theorem ad_ok {A : Mm} {e : Nat} {c : Int32} (h : A 1 9 = nI e) (he : e < 960) : m_X2_add c A = some ((), up (up A 2 e c) 1 9 (nI (e + 1))) := by
  unfold m_X2_add
  rw [h, if_neg (nI_pos (by omega)), if_neg (show ¬ (960 : Int32) ≤ nI e from nI_ge (b := 960) (by omega) (by omega)), inr_n (by omega) (by omega), gd_t, lt1_d, lt1_d, nI_clamp (by omega), up_k (by decide), h, nI_1]
theorem ad_bad {A R : Mm} {e : Nat} {c : Int32} (h : BAD e A R) : ∃ A', m_X2_add c A = some ((), A') ∧ BAD e A' R ∧ FPx e A A' := by
  obtain ⟨⟨b1, b2, x, x1, x2, x3⟩, b3, b4⟩ := h
  by_cases hx : x < 960
  · have z : (up (up A 2 x c) 1 9 (nI (x + 1))) 5 = A 5 := by funext b; rw [up_k (by decide), up_k (by decide)]
    exact ⟨_, ad_ok x3 hx, ⟨⟨by rw [z]; exact b1, by rw [z]; exact b2, x + 1, by omega, by omega, up_s⟩, b3, by rw [z]; exact b4⟩, FPx_ad x1⟩
  · refine ⟨A, ?_, ⟨⟨b1, b2, x, x1, x2, x3⟩, b3, b4⟩, FPx_rf⟩
    unfold m_X2_add
    rw [x3, if_neg (nI_pos (by omega)), if_pos (show (960 : Int32) ≤ nI x from nI_le (a := 960) (by omega) (by omega))]
theorem rf_bad {A : Mm} (h3 : A 5 3 = 2) (h7 : ¬ A 5 7 = -1) : m_X1_refuse A = some ((), A) := by
  unfold m_X1_refuse m_X1_refuse_J16
  rw [if_neg h7, lt1_d, ← h3, up_self]
theorem fl_bad {R : Mm} (h : R 0 27 = 1) : m_X5_fail R = some ((), R) := by
  unfold m_X5_fail
  rw [if_neg (by rw [h]; decide)]
/-- both refuse at the same place -/
theorem rf_ok {A R : Mm} {B : Nat → Int32} {n s e : Nat} (hb : BB B n) (h : GD B n A R s e) (he : e ≤ 960) : ∃ A' R', m_X1_refuse A = some ((), A') ∧ m_X5_fail R = some ((), R') ∧ BAD e A' R' ∧ FPx e A A' ∧ FPm R R' ∧ R' 0 26 = R 0 26 := by
  have n160 := hb.1
  have sn := gd_s h
  obtain ⟨g1, g2, g3, g4, g5, tv⟩ := h
  refine ⟨up (up A 5 7 (A 5 4)) 5 3 2, up (up R 0 27 1) 0 28 (up R 0 27 1 0 24), ?_, ?_, ⟨⟨up_s, ⟨s, by omega, ?_⟩, e, Nat.le_refl _, he, ?_⟩, ?_, ?_⟩, FPx_tr (FPx_u5 (by omega)) (FPx_u5 (by omega)), FPm_tr (FPm_up (by omega)) (FPm_up (by omega)), ?_⟩
  · unfold m_X1_refuse m_X1_refuse_J16
    rw [if_pos g1, lt1_d, lt1_d]
  · unfold m_X5_fail
    rw [if_pos g2, lt1_d, lt1_d]
  · rw [up_j (by decide), up_s]; exact g3
  · rw [up_k (by decide), up_k (by decide)]; exact g5
  · rw [up_j (by decide), up_s]
  · rw [up_s, up_j (by decide), up_j (show (7 : Nat) ≠ 3 by decide), up_s, g4, g3]
  · rw [up_j (by decide), up_j (by decide)]
/-- one token further -/
theorem nxt {A R : Mm} {B : Nat → Int32} {n s e : Nat} (hb : BB B n) (hx : BX A B n) (hm : BM R B n) (h : GD B n A R s e) (h0 : ¬ A 5 3 = 0) (h2 : ¬ A 5 3 = 2) : s < n ∧ ∃ A' R' s', m_X1_advance A = some ((), A') ∧ m_X5_next R = some ((), R') ∧ s < s' ∧ s' ≤ n ∧ FPx e A A' ∧ FPm R R' ∧ R' 0 26 = R 0 26 ∧ GD B n A' R' s' e := by
  obtain ⟨sn, x, x1, x2, x3, x4⟩ := gd_x h h0 h2
  obtain ⟨g1, g2, g3, g4, g5, tv⟩ := h
  obtain ⟨A', R', s', a1, a2, a3, a4, a5, a6, a7⟩ := adv2 hb hx hm x2 x3 x4 g1 g2 g5
  exact ⟨sn, A', R', s', a1, a2, by omega, a4, FPx_fa a5, FPm_fr a6, a6.2 26 (by omega), a7⟩
theorem opn {A R : Mm} {B : Nat → Int32} {n s e o : Nat} (hb : BB B n) (hx : BX A B n) (hm : BM R B n) (h : GD B n A R s e) (h26 : R 0 26 = nI o) (ho : o ≤ 5) (h0 : ¬ A 5 3 = 0) (h2 : ¬ A 5 3 = 2) (he : e ≤ 960) : (o = 5 ∧ ∃ A' R', m_X1_opens (nI o) A = some (0, A') ∧ m_X5_opens R = some (0, R') ∧ BAD e A' R' ∧ FPx e A A' ∧ FPm R R' ∧ R' 0 26 = nI o) ∨ (o < 5 ∧ s < n ∧ ∃ A' R' s', m_X1_opens (nI o) A = some (1, A') ∧ m_X5_opens R = some (1, R') ∧ s < s' ∧ s' ≤ n ∧ GD B n A' R' s' e ∧ FPx e A A' ∧ FPm R R' ∧ R' 0 26 = nI (o + 1)) := by
  by_cases o5 : o = 5
  · obtain ⟨A', R', a1, a2, a3, a4, a5, a6⟩ := rf_ok hb h he
    refine Or.inl ⟨o5, A', R', ?_, ?_, a3, a4, a5, a6.trans h26⟩
    · unfold m_X1_opens
      rw [if_neg (show ¬ nI o < (5 : Int32) from nI_nlt (b := 5) (by omega) (by omega)), a1, bd_s]
    · unfold m_X5_opens
      rw [h26, if_pos (by rw [o5]; rfl), a2, bd_s]
  · have g26 : up R 0 26 (nI (o + 1)) 0 26 = nI (o + 1) := up_s
    have gx := GD_op (x := nI (o + 1)) h
    have gm := BM_up (x := nI (o + 1)) hm (show 21 < 26 by omega)
    have gf : FPm R (up R 0 26 (nI (o + 1))) := FPm_up (by omega)
    have hne : ¬ R 0 26 = (5 : Int32) := by
      rw [h26]
      exact fun q => o5 ((nI_eq (a := o) (b := 5) (by omega) (by omega)).mp q)
    obtain ⟨sn, A', R', s', a1, a2, a3, a3', a4, a5, a6, a7⟩ := nxt hb hx gm gx h0 h2
    refine Or.inr ⟨by omega, sn, A', R', s', ?_, ?_, a3, a3', a7, a4, FPm_tr gf a5, a6.trans g26⟩
    · unfold m_X1_opens
      rw [if_pos (show nI o < (5 : Int32) from nI_lt (b := 5) (by omega) (by omega)), a1, bd_s]
    · unfold m_X5_opens
      rw [if_neg hne, lt1_d, h26, nI_1, a2, bd_s]
/-- rows of joints -/
theorem loop_ok {B : Nat → Int32} {n h o : Nat} (hb : BB B n) (h1 : 1 ≤ h) {LX : Nat → Int32 → Int32 → Mm → Option (Unit × Mm)} {LM : Nat → Int32 → Mm → Option (Int32 × Mm)} {kx : Int32 → Mm → Option (Unit × Mm)} {km : Mm → Option (Int32 × Mm)} {op : Int32 → Option Int32} (hk : OKF B n h o kx km)
    (hop : ∀ tok c, op tok = some c → c ≤ -11 ∧ ¬ c ≤ -21 ∧ tok ≠ 0 ∧ tok ≠ 2)
    (no : ∀ (fu : Nat) (t : Int32) (A R : Mm), op (A 5 3) = none → STT B n A R → BM R B n → LX (fu + 1) (nI o) t A = some ((), A) ∧ ∀ v, LM (fu + 1) v R = some (v, R))
    (yes : ∀ (fu t : Nat) (A R : Mm) (c : Int32), op (A 5 3) = some c → STT B n A R → BM R B n → t < 160 → LX (fu + 1) (nI o) (nI t) A = (bd (m_X1_advance A) fun _ A1 => bd (kx (nI o) A1) fun _ A2 => bd (m_X2_add c A2) fun _ A3 => LX fu (nI o) (nI (t + 1)) A3) ∧ ∀ v, LM (fu + 1) v R = (bd (m_X5_next R) fun _ R1 => bd (km R1) fun x R2 => LM fu (jnC c v x) R2)) :
    ∀ (m t fx fm : Nat) (A R : Mm) (s e : Nat) (v : Int32) (e0 s0 : Nat) (c0 : List Int32), n - s ≤ m → m < fx → m < fm → t ≤ s → BX A B n → BM R B n → GD B n A R s e → R 0 26 = nI o → e + (n - s) ≤ 960 → e = e0 + c0.length → s0 < s → c0.length ≤ s - s0 → CDA A e0 c0 → RUN R (h + 1) c0 v → ∃ (v' : Int32) (A' R' : Mm), LX fx (nI o) (nI t) A = some ((), A') ∧ LM fm v R = some (v', R') ∧ FPx e0 A A' ∧ FPm R R' ∧ R' 0 26 = nI o ∧ ((∃ (s' : Nat) (c : List Int32), s0 < s' ∧ GD B n A' R' s' (e0 + c.length) ∧ c.length ≤ s' - s0 ∧ CDA A' e0 c ∧ RUN R (h + 1) c v') ∨ BAD e0 A' R') := by
  have n160 := hb.1
  intro m
  induction m with
  | zero =>
    intro t fx fm A R s e v e0 s0 c0 hm1 hf1 hf2 ht hx hm g h26 he e1 s1 l1 cd rn
    obtain ⟨fx, rfl⟩ : ∃ z, fx = z + 1 := ⟨fx - 1, by omega⟩
    obtain ⟨fm, rfl⟩ : ∃ z, fm = z + 1 := ⟨fm - 1, by omega⟩
    have sn := gd_s g
    cases hc : op (A 5 3) with
    | none => exact ⟨v, A, R, (no fx (nI t) A R hc (Or.inl ⟨s, e, g⟩) hm).1, (no fm (nI t) A R hc (Or.inl ⟨s, e, g⟩) hm).2 v, FPx_rf, FPm_rf, h26, Or.inl ⟨s, c0, s1, by rw [← e1]; exact g, l1, cd, rn⟩⟩
    | some c =>
      obtain ⟨o1, o2, o3, o4⟩ := hop _ _ hc
      have := (gd_x g o3 o4).1
      omega
  | succ m ih =>
    intro t fx fm A R s e v e0 s0 c0 hm1 hf1 hf2 ht hx hm g h26 he e1 s1 l1 cd rn
    obtain ⟨fx, rfl⟩ : ∃ z, fx = z + 1 := ⟨fx - 1, by omega⟩
    obtain ⟨fm, rfl⟩ : ∃ z, fm = z + 1 := ⟨fm - 1, by omega⟩
    cases hc : op (A 5 3) with
    | none => exact ⟨v, A, R, (no fx (nI t) A R hc (Or.inl ⟨s, e, g⟩) hm).1, (no fm (nI t) A R hc (Or.inl ⟨s, e, g⟩) hm).2 v, FPx_rf, FPm_rf, h26, Or.inl ⟨s, c0, s1, by rw [← e1]; exact g, l1, cd, rn⟩⟩
    | some c =>
      obtain ⟨o1, o2, o3, o4⟩ := hop _ _ hc
      obtain ⟨sn, A1, R1, s', a1, a2, a3, a3', a4, a5, a6, a7⟩ := nxt hb hx hm g o3 o4
      obtain ⟨y1, -⟩ := yes fx t A R c hc (Or.inl ⟨s, e, g⟩) hm (by omega)
      obtain ⟨-, y2⟩ := yes fm t A R c hc (Or.inl ⟨s, e, g⟩) hm (by omega)
      obtain ⟨x, A2, R2, k1, k2, k3, k4, k5, k6⟩ := hk A1 R1 s' e (FPx_bx a4 hx) (FPm_bm a5 hm) a7 (a6.trans h26) (by omega)
      have f2 : FPx e A A2 := FPx_tr a4 k3
      have p2 : FPm R R2 := FPm_tr a5 k4
      rcases k6 with ⟨s2, c2, q1, q2, q3, q4, q5⟩ | bad
      · have s2n := gd_s q2
        have l2 : (c0 ++ (c2 ++ [c])).length = c0.length + (c2.length + 1) := by simp
        have ax := ad_ok (c := c) q2.2.2.2.2.1 (by omega)
        have fad : FPx (e + c2.length) A2 (up (up A2 2 (e + c2.length) c) 1 9 (nI (e + c2.length + 1))) := FPx_ad (Nat.le_refl _)
        have f3 := FPx_tr f2 (FPx_le (by omega) fad : FPx e A2 _)
        have cd3 : CDA (up (up A2 2 (e + c2.length) c) 1 9 (nI (e + c2.length + 1))) e0 (c0 ++ (c2 ++ [c])) := by
          refine CDA_app (CDA_fp cd f3 (by omega)) (CDA_app ?_ ?_)
          · rw [← e1]; exact CDA_fp q4 fad (Nat.le_refl _)
          · rw [← e1]; exact CDA_1
        have rn' : RUN R2 (h + 1) c0 v := RUN_m (R := R2) (R' := R) ⟨fun k hk => (p2.1 k hk).symm, fun j hj => (p2.2 j hj).symm⟩ rn
        have q5' : RUN R2 h c2 x := RUN_m (R := R2) (R' := R1) ⟨fun k hk => (k4.1 k hk).symm, fun j hj => (k4.2 j hj).symm⟩ q5
        obtain ⟨v', A', R', b1, b2, b3, b4, b5, b6⟩ := ih (t + 1) fx fm _ R2 s2 (e + c2.length + 1) (jnC c v x) e0 s0 (c0 ++ (c2 ++ [c])) (by omega) (by omega) (by omega) (by omega) (FPx_bx f3 hx) (FPm_bm p2 hm) (GD_ad q2) k5 (by omega) (by rw [l2]; omega) (by omega) (by rw [l2]; omega) cd3 (RUN_op h1 rn' q5' o1 o2)
        refine ⟨v', A', R', ?_, ?_, FPx_tr (FPx_le (by omega) f3) b3, FPm_tr p2 b4, b5, ?_⟩
        · rw [y1, a1, bd_s, k1, bd_s, ax, bd_s, b1]
        · rw [y2, a2, bd_s, k2, bd_s, b2]
        · rcases b6 with ⟨s3, c3, r1, r2, r3, r4, r5⟩ | bad
          · exact Or.inl ⟨s3, c3, r1, r2, r3, r4, RUN_m p2 r5⟩
          · exact Or.inr bad
      · obtain ⟨A3, d1, d2, d3⟩ := ad_bad (c := c) bad
        have hn2 : op (A3 5 3) = none := by
          rw [d2.1.1]
          cases z : op 2 with
          | none => rfl
          | some c' => exact absurd rfl (hop _ _ z).2.2.2
        obtain ⟨fx, rfl⟩ : ∃ z, fx = z + 1 := ⟨fx - 1, by omega⟩
        obtain ⟨fm, rfl⟩ : ∃ z, fm = z + 1 := ⟨fm - 1, by omega⟩
        have m2 := FPm_bm p2 hm
        refine ⟨jnC c v x, A3, R2, ?_, ?_, FPx_le (by omega) (FPx_tr f2 d3), p2, k5, Or.inr (BAD_le (by omega) d2)⟩
        · rw [y1, a1, bd_s, k1, bd_s, d1, bd_s, (no fx (nI (t + 1)) A3 R2 hn2 (BAD_st d2) m2).1]
        · rw [y2, a2, bd_s, k2, bd_s, (no fm (nI (t + 1)) A3 R2 hn2 (BAD_st d2) m2).2 _]
/-- a part, and then a row of joints -/
theorem row_ok {B : Nat → Int32} {n h o : Nat} (hb : BB B n) (h1 : 1 ≤ h) {LX : Nat → Int32 → Int32 → Mm → Option (Unit × Mm)} {LM : Nat → Int32 → Mm → Option (Int32 × Mm)} {kx : Int32 → Mm → Option (Unit × Mm)} {km : Mm → Option (Int32 × Mm)} {op : Int32 → Option Int32} (hk : OKF B n h o kx km)
    (hop : ∀ tok c, op tok = some c → c ≤ -11 ∧ ¬ c ≤ -21 ∧ tok ≠ 0 ∧ tok ≠ 2)
    (no : ∀ (fu : Nat) (t : Int32) (A R : Mm), op (A 5 3) = none → STT B n A R → BM R B n → LX (fu + 1) (nI o) t A = some ((), A) ∧ ∀ v, LM (fu + 1) v R = some (v, R))
    (yes : ∀ (fu t : Nat) (A R : Mm) (c : Int32), op (A 5 3) = some c → STT B n A R → BM R B n → t < 160 → LX (fu + 1) (nI o) (nI t) A = (bd (m_X1_advance A) fun _ A1 => bd (kx (nI o) A1) fun _ A2 => bd (m_X2_add c A2) fun _ A3 => LX fu (nI o) (nI (t + 1)) A3) ∧ ∀ v, LM (fu + 1) v R = (bd (m_X5_next R) fun _ R1 => bd (km R1) fun x R2 => LM fu (jnC c v x) R2))
    (A R : Mm) (s e : Nat) (hx : BX A B n) (hm : BM R B n) (g : GD B n A R s e) (h26 : R 0 26 = nI o) (he : e + (n - s) ≤ 960) : OKR B n (h + 1) A R s e o (bd (kx (nI o) A) fun _ A1 => LX FU (nI o) 0 A1) (bd (km R) fun v R1 => LM FU v R1) := by
  have n160 := hb.1
  obtain ⟨v, A1, R1, k1, k2, k3, k4, k5, k6⟩ := hk A R s e hx hm g h26 he
  rw [k1, k2, bd_s, bd_s]
  rcases k6 with ⟨s2, c2, q1, q2, q3, q4, q5⟩ | bad
  · have s2n := gd_s q2
    obtain ⟨v', A', R', b1, b2, b3, b4, b5, b6⟩ := loop_ok hb h1 hk hop no yes (n - s2) 0 FU FU A1 R1 s2 (e + c2.length) v e s c2 (Nat.le_refl _) (by unfold FU; omega) (by unfold FU; omega) (by omega) (FPx_bx k3 hx) (FPm_bm k4 hm) q2 k5 (by omega) rfl q1 q3 q4 (RUN_le (RUN_m (R := R1) (R' := R) ⟨fun k hk => (k4.1 k hk).symm, fun j hj => (k4.2 j hj).symm⟩ q5) (by omega))
    rw [nI_0] at b1
    refine ⟨v', A', R', b1, b2, FPx_tr k3 b3, FPm_tr k4 b4, b5, ?_⟩
    rcases b6 with ⟨s3, c3, r1, r2, r3, r4, r5⟩ | bad
    · exact Or.inl ⟨s3, c3, r1, r2, r3, r4, RUN_m k4 r5⟩
    · exact Or.inr bad
  · obtain ⟨f, hf⟩ : ∃ f, FU = f + 1 := ⟨999999, by unfold FU; omega⟩
    have hn2 : op (A1 5 3) = none := by
      rw [bad.1.1]
      cases z : op 2 with
      | none => rfl
      | some c' => exact absurd rfl (hop _ _ z).2.2.2
    obtain ⟨n1, n2⟩ := no f 0 A1 R1 hn2 (BAD_st bad) (FPm_bm k4 hm)
    rw [hf]
    exact ⟨v, A1, R1, n1, n2 v, k3, k4, k5, Or.inr bad⟩
