/-! the sheets -/
def SX (M M' : Mm) : Prop := ∀ k, k < 36 ∨ 43 < k → M' k = M k
def SR (M M' : Mm) : Prop := ∀ k, k < 12 ∨ 15 < k → M' k = M k
theorem SX.rf {M : Mm} : SX M M := fun _ _ => rfl
theorem SR.rf {M : Mm} : SR M M := fun _ _ => rfl
theorem SX.tr {M M1 M2 : Mm} (h : SX M M1) (g : SX M1 M2) : SX M M2 := fun k a => (g k a).trans (h k a)
theorem SR.tr {M M1 M2 : Mm} (h : SR M M1) (g : SR M1 M2) : SR M M2 := fun k a => (g k a).trans (h k a)
theorem SX.pu {M : Mm} {k j : Nat} {x : Int32} (h : 36 ≤ k ∧ k ≤ 43) : SX M (up M k j x) := fun a b => by funext c; exact up_k (by omega)
theorem SR.pu {M : Mm} {k j : Nat} {x : Int32} (h : 12 ≤ k ∧ k ≤ 15) : SR M (up M k j x) := fun a b => by funext c; exact up_k (by omega)
theorem SX.nxe {M M' : Mm} {v : Nat} (h : SX M M') (hv : v + 8 < 36) : nx M' v = nx M v := by
  have e : ∀ i j, i ≤ 8 → vx M' v i j = vx M v i j := by
    intro i j hi
    show M' (v + i) j = M (v + i) j
    rw [h (v + i) (by omega)]
  have eP : vP (vx M' v) = vP (vx M v) := by unfold vP; rw [e 0 4 (by omega)]
  have eL : vL (vx M' v) = vL (vx M v) := by unfold vL; rw [e 0 5 (by omega)]
  funext i j
  show nrm (vx M' v) i j = nrm (vx M v) i j
  unfold nrm
  rw [eP, eL]
  by_cases h8 : i ≤ 8
  · by_cases hi : i = 0
    · subst hi
      rw [if_pos rfl, if_pos rfl, e 0 j (by omega)]
    · rw [if_neg hi, if_neg hi, e i j h8]
  · simp [show ¬ i = 0 by omega, show ¬ i ≤ 3 by omega, h8]
theorem SR.nme {M M' : Mm} (h : SR M M') : nm M' = nm M := by
  have e : vm M' = vm M := by
    funext i j
    unfold vm
    rw [h 0 (by omega), h 4 (by omega), h 5 (by omega)]
  unfold nm; rw [e]
theorem SR.nke {M M' : Mm} (h : SR M M') : nmk M' = nmk M := by
  have e : vmk M' = vmk M := by
    funext i j
    unfold vmk
    rw [h 0 (by omega), h 10 (by omega), h 11 (by omega)]
  unfold nmk; rw [e]
theorem Rel.sht {T : Nat} {tx : Tx} {Mx Mr Mx' Mr' : Mm} (hR : Rest T tx Mx Mr) (hV : RelV T Mx Mr) (hx : SX Mx Mx') (hr : SR Mr Mr') (hs : RelS Mx' Mr') : Rel Mx' Mr' := by
  obtain ⟨⟨t1, t2⟩, r2, -, r4⟩ := hR
  refine ⟨T, tx, ⟨⟨?_, ?_⟩, ?_, hs, ?_⟩, ?_⟩
  · obtain ⟨h1, h2, h3⟩ := t1
    refine ⟨by rw [hx 1 (by omega)]; exact h1, h2, fun N a b c => h3 N ?_ ?_ ?_⟩
    · rw [a, hx 1 (by omega)]
    · rw [b, hx 2 (by omega)]
    · rw [c, hx 3 (by omega)]
  · obtain ⟨h1, h2, h3⟩ := t2
    refine ⟨by rw [hr 0 (by omega)]; exact h1, h2, fun N a b c => h3 N ?_ ?_ ?_⟩
    · rw [a, hr 0 (by omega)]
    · rw [b, hr 1 (by omega)]
    · rw [c, hr 2 (by omega)]
  · unfold RelK at r2 ⊢
    rw [hx.nxe (by omega), hr.nke, hr 0 (by omega), hx 0 (by omega)]
    exact r2
  · unfold RelT at r4 ⊢
    rw [hx 5 (by omega), hx 6 (by omega), hr 0 (by omega), hr 3 (by omega)]
    exact r4
  · unfold RelV
    rw [hx.nxe (by omega), hr.nme]
    exact hV
/-- one sheet changed, alike -/
def ShR (Mx Mr : Mm) (s : Nat) : Prop := (Mr 12 s = 0 ∧ Mx (36 + 2 * s) 0 = -1) ∨ (Mr 12 s = 1 ∧ (∃ k, k < 3 ∧ Mr 13 s = nI k ∧ Mx (36 + 2 * s) 0 = nI k) ∧ ∃ n, n ≤ 40 ∧ Mr 14 s = nI n ∧ Mx (36 + 2 * s) 1 = nI n ∧ ∀ j, j < n → Mx (37 + 2 * s) j = Mr 15 (40 * s + j))
def SX1 (s : Nat) (M M' : Mm) : Prop := ∀ k, k ≠ 36 + 2 * s → k ≠ 37 + 2 * s → M' k = M k
def SR1 (s : Nat) (M M' : Mm) : Prop := (∀ k, k < 12 ∨ 15 < k → M' k = M k) ∧ (∀ j, j ≠ s → M' 12 j = M 12 j ∧ M' 13 j = M 13 j ∧ M' 14 j = M 14 j) ∧ ∀ j, j < 40 * s ∨ 40 * s + 40 ≤ j → M' 15 j = M 15 j
theorem SX1.rf {s : Nat} {M : Mm} : SX1 s M M := fun _ _ _ => rfl
theorem SR1.rf {s : Nat} {M : Mm} : SR1 s M M := ⟨fun _ _ => rfl, fun _ _ => ⟨rfl, rfl, rfl⟩, fun _ _ => rfl⟩
theorem SX1.tr {s : Nat} {M M1 M2 : Mm} (h : SX1 s M M1) (g : SX1 s M1 M2) : SX1 s M M2 := fun k a b => (g k a b).trans (h k a b)
theorem SR1.tr {s : Nat} {M M1 M2 : Mm} (h : SR1 s M M1) (g : SR1 s M1 M2) : SR1 s M M2 := ⟨fun k a => (g.1 k a).trans (h.1 k a), fun j a => ⟨(g.2.1 j a).1.trans (h.2.1 j a).1, (g.2.1 j a).2.1.trans (h.2.1 j a).2.1, (g.2.1 j a).2.2.trans (h.2.1 j a).2.2⟩, fun j a => (g.2.2 j a).trans (h.2.2 j a)⟩
theorem SX1.pu {s : Nat} {M : Mm} {k j : Nat} {x : Int32} (h : k = 36 + 2 * s ∨ k = 37 + 2 * s) : SX1 s M (up M k j x) := fun a b c => by funext d; exact up_k (by omega)
theorem SR1.pu {s : Nat} {M : Mm} {k : Nat} {x : Int32} (h : k = 12 ∨ k = 13 ∨ k = 14) : SR1 s M (up M k s x) := by
  refine ⟨fun a b => by funext c; exact up_k (by omega), fun j hj => ?_, fun j _ => up_k (by omega)⟩
  have : ∀ q, up M k s x q j = M q j := by
    intro q
    by_cases e : q = k
    · subst e; exact up_j hj
    · exact up_k e
  exact ⟨this _, this _, this _⟩
theorem SR1.pui {s i : Nat} {M : Mm} {x : Int32} (h : i < 40) : SR1 s M (up M 15 (40 * s + i) x) :=
  ⟨fun a b => by funext c; exact up_k (by omega), fun j _ => ⟨up_k (by omega), up_k (by omega), up_k (by omega)⟩, fun j _ => up_j (by omega)⟩
theorem Rel.sh1 {T s : Nat} {tx : Tx} {Mx Mr Mx' Mr' : Mm} (hR : Rest T tx Mx Mr) (hV : RelV T Mx Mr) (h4 : s < 4) (hx : SX1 s Mx Mx') (hr : SR1 s Mr Mr') (hs : ShR Mx' Mr' s) : Rel Mx' Mr' := by
  refine Rel.sht hR hV (fun k a => hx k (by omega) (by omega)) (fun k a => hr.1 k a) (fun u hu => ?_)
  by_cases e : u = s
  · subst e; exact hs
  · obtain ⟨e1, e2, e3⟩ := hr.2.1 u e
    rw [e1, e2, e3, hx (36 + 2 * u) (by omega) (by omega), hx (37 + 2 * u) (by omega) (by omega)]
    rcases hR.2.2.1 u hu with q | ⟨q1, q2, n, n1, n2, n3, n4⟩
    · exact Or.inl q
    · refine Or.inr ⟨q1, q2, n, n1, n2, n3, fun j hj => ?_⟩
      rw [hr.2.2 _ (by omega)]
      exact n4 j hj
/-- which sheet -/
theorem x4_sn_in {s : Nat} {M : Mm} (h : s < 4) : m_X4_sheetNumbered (nI s) M = some (some (36 + 2 * s), M) ∧ isShe (36 + 2 * s) = true := by
  refine ⟨?_, ?_⟩
  · unfold m_X4_sheetNumbered
    rw [if_neg (nI_pos (by omega)), if_neg (show ¬ (4 : Int32) ≤ nI s from nI_ge (b := 4) (by omega) (by omega)), inr_n h (by omega), gd_t, nI_clamp (by omega)]
  · rcases (show s = 0 ∨ s = 1 ∨ s = 2 ∨ s = 3 by omega) with rfl | rfl | rfl | rfl <;> rfl
theorem x4_sn_out {x : Int32} {M : Mm} (h : x < 0 ∨ nI 4 ≤ x) : m_X4_sheetNumbered x M = some (none, M) := by
  unfold m_X4_sheetNumbered m_X4_sheetNumbered_J22
  by_cases e : x < 0
  · rw [if_pos e]
  · rw [if_neg e, if_pos (show (4 : Int32) ≤ x from h.resolve_left e)]
theorem x5_is_in {s : Nat} {M : Mm} (h : s < 4) : m_X5_isSheet (nI s) M = some (1, M) := by
  unfold m_X5_isSheet
  rw [x5_in_in (n := 3) (b := 3) (by decide) (by omega) (by omega), bd_s, show z01 1 = true from rfl, gd_t]
theorem x5_is_out {x : Int32} {M : Mm} (h : x < 0 ∨ nI 4 ≤ x) : m_X5_isSheet x M = some (0, M) := by
  unfold m_X5_isSheet
  rw [x5_in_out (n := 4) (b := 3) (by decide) (by omega) h, bd_s, show z01 0 = true from rfl, gd_t]
theorem rc_n {β : Type} {f : Mm → β} {g : Nat → Mm → β} {M : Mm} : rcase f g none M = f M := rfl
theorem rc_s {β : Type} {f : Mm → β} {g : Nat → Mm → β} {a : Nat} {M : Mm} : rcase f g (some a) M = g a M := rfl
theorem x0_bec_L {v : Nat} : ∀ (k i n : Nat) (M : Mm), k < n → i + k = 40 → ∃ M', m_X0_become_L21 v n (nI i) M = some ((), M') ∧ (∀ j, i ≤ j → j < 40 → M' (v + 1) j = 0) ∧ (∀ j, j < i → M' (v + 1) j = M (v + 1) j) ∧ ∀ a, a ≠ v + 1 → M' a = M a := by
  intro k
  induction k with
  | zero =>
    intro i n M hn hi
    obtain ⟨n, rfl⟩ : ∃ m, n = m + 1 := ⟨n - 1, by omega⟩
    have e2 : (40 : Int32) ≤ nI i := nI_le (a := 40) (by omega) (by omega)
    show ∃ M', m_X0_become_B21 v (m_X0_become_L21 v n) (nI i) M = _ ∧ _
    rw [m_X0_become_B21, if_pos e2]
    exact ⟨M, rfl, fun j _ _ => absurd ‹j < 40› (by omega), fun _ _ => rfl, fun _ _ => rfl⟩
  | succ k ih =>
    intro i n M hn hi
    obtain ⟨n, rfl⟩ : ∃ m, n = m + 1 := ⟨n - 1, by omega⟩
    have e2 : ¬ (40 : Int32) ≤ nI i := nI_ge (b := 40) (by omega) (by omega)
    show ∃ M', m_X0_become_B21 v (m_X0_become_L21 v n) (nI i) M = _ ∧ _
    rw [m_X0_become_B21, if_neg e2, inr_n (by omega) (by omega), gd_t, lt1_d, lt1_d, nI_1, nI_clamp (by omega)]
    obtain ⟨M', m1, m2, m3, m4⟩ := ih (i + 1) n (up M (v + 1) i 0) (by omega) (by omega)
    refine ⟨M', m1, fun j h1 h2 => ?_, fun j h1 => ?_, fun a ha => ?_⟩
    · by_cases e : j = i
      · subst e; rw [m3 j (by omega), up_s]
      · exact m2 j (by omega) h2
    · rw [m3 j (by omega), up_j (by omega)]
    · rw [m4 a ha]; funext b; exact up_k ha
theorem mm_40 : ∀ n, n < 41 → mmax 0 (mmin 40 (nI n)) = nI n := by decide +kernel
theorem x0_bec {v n : Nat} {k : Int32} {M : Mm} (h : n ≤ 40) : ∃ M', m_X0_become v k (nI n) M = some ((), M') ∧ M' v 0 = k ∧ M' v 1 = nI n ∧ (∀ j, j < 40 → M' (v + 1) j = 0) ∧ ∀ a, a ≠ v → a ≠ v + 1 → M' a = M a := by
  obtain ⟨M', m1, m2, m3, m4⟩ := x0_bec_L (v := v) 40 0 FU (up (up M v 0 k) v 1 (nI n)) (by unfold FU; omega) (by omega)
  refine ⟨M', ?_, ?_, ?_, fun j hj => m2 j (by omega) hj, fun a a1 a2 => ?_⟩
  · unfold m_X0_become
    rw [lt1_d, lt1_d, lt1_d, mm_40 n (by omega), ← nI_0]
    exact m1
  · rw [m4 v (by omega), up_j (by decide), up_s]
  · rw [m4 v (by omega), up_s]
  · rw [m4 a a2]; funext b; rw [up_k a1, up_k a1]
theorem x5_sh_L {s N k0 : Nat} {x2 : Int32} (hs : s < 4) (hN : N ≤ 40) (h0 : ¬ x2 < 0) : ∀ (k i n : Nat) (M : Mm), k < n → i + k = N → ∃ M', m_X5_sheet_L77 n (nI s) x2 (nI N) (nI i) M = some (1, M') ∧ (∀ j, i ≤ j → j < N → M' 15 (40 * s + j) = 0) ∧ (∀ j, j < i → M' 15 (40 * s + j) = M 15 (40 * s + j)) ∧ SR1 s M M' ∧ ∀ a, a ≠ 15 → M' a = M a := by
  intro k
  induction k with
  | zero =>
    intro i n M hn hi
    obtain ⟨n, rfl⟩ : ∃ m, n = m + 1 := ⟨n - 1, by omega⟩
    have e2 : nI N ≤ nI i := nI_le (by omega) (by omega)
    show ∃ M', m_X5_sheet_B77 (m_X5_sheet_L77 n) (nI s) x2 (nI N) (nI i) M = _ ∧ _
    rw [m_X5_sheet_B77, if_pos e2]
    exact ⟨M, rfl, fun j _ _ => absurd ‹j < N› (by omega), fun _ _ => rfl, SR1.rf, fun _ _ => rfl⟩
  | succ k ih =>
    intro i n M hn hi
    obtain ⟨n, rfl⟩ : ∃ m, n = m + 1 := ⟨n - 1, by omega⟩
    have e2 : ¬ nI N ≤ nI i := nI_ge (by omega) (by omega)
    show ∃ M', m_X5_sheet_B77 (m_X5_sheet_L77 n) (nI s) x2 (nI N) (nI i) M = _ ∧ _
    rw [m_X5_sheet_B77, if_neg e2, if_neg h0, show (40 : Int32) * nI s = nI (40 * s) from pk_mul 40 s, nI_add, inr_n (by omega) (by omega), gd_t, lt1_d, lt1_d, nI_1, nI_clamp (by omega)]
    obtain ⟨M', m1, m2, m3, m4, m5⟩ := ih (i + 1) n (up M 15 (40 * s + i) 0) (by omega) (by omega)
    refine ⟨M', m1, fun j h1 h2 => ?_, fun j h1 => ?_, (SR1.pui (by omega)).tr m4, fun a ha => ?_⟩
    · by_cases e : j = i
      · subst e; rw [m3 j (by omega), up_s]
      · exact m2 j (by omega) h2
    · rw [m3 j (by omega), up_j (by omega)]
    · rw [m5 a ha]; funext b; exact up_k ha
theorem so_cs (x : Int32) : x < -1 ∨ x = -1 ∨ (∃ k, k < 3 ∧ x = nI k) ∨ 2 < x := by
  rcases ix_cases x 3 (by omega) with q | ⟨k, k1, k2⟩
  · rcases rg_out (n := 2) (by omega) q with q | ⟨q1, q2, q3⟩
    · have m : ((-1 : Int32).toInt) = -1 := by decide
      have z : ((0 : Int32).toInt) = 0 := rfl
      rw [Int32.lt_iff_toInt_lt, z] at q
      by_cases e : x.toInt = -1
      · exact Or.inr (Or.inl (Int32.toInt_inj.mp (by rw [e, m])))
      · refine Or.inl ?_
        rw [Int32.lt_iff_toInt_lt, m]
        omega
    · exact Or.inr (Or.inr (Or.inr q3))
  · exact Or.inr (Or.inr (Or.inl ⟨k, k1, k2⟩))
theorem in_m1 {x : Int32} {M : Mm} : m_X5_in x.toInt64 (-1 : Int64) (2 : Int64) M = some (b2i (decide (-1 ≤ x.toInt ∧ x.toInt ≤ 2)), M) := by
  rw [x5_in, toL]
  rfl
theorem call_sheet {Mx Mr : Mm} (h : Rel Mx Mr) (x y z : Int32) : Ans (m_X4_sheet x y z Mx) (m_X5_sheet x y z Mr) := by
  obtain ⟨T, tx, hR, hV⟩ := h
  have fin : Rel Mx Mr := ⟨T, tx, hR, hV⟩
  unfold m_X4_sheet m_X5_sheet
  rcases ix_cases x 4 (by omega) with q | ⟨s, s1, rfl⟩
  · rw [x4_sn_out q, x5_is_out q, bd_s, bd_s, rc_n, if_pos rfl]
    exact ⟨_, _, _, rfl, rfl, fin⟩
  rw [(x4_sn_in s1).1, x5_is_in s1, bd_s, bd_s, rc_s, (x4_sn_in (M := Mx) s1).2, gd_t, if_neg one_ne0, in_m1, bd_s]
  have m : ((-1 : Int32).toInt) = -1 := by decide
  have two : ((2 : Int32).toInt) = 2 := by decide
  rcases so_cs y with q | rfl | ⟨k, k1, rfl⟩ | q
  · rw [if_pos q]
    rw [Int32.lt_iff_toInt_lt, m] at q
    rw [decide_eq_false (by omega), if_pos (by decide)]
    exact ⟨_, _, _, rfl, rfl, fin⟩
  · rw [if_neg (by decide), if_pos (by decide), if_pos rfl, decide_eq_true (by decide), if_neg (by decide), if_pos (by decide)]
    obtain ⟨M', m1, m2, m3, m4, m5⟩ := x0_bec (v := 36 + 2 * s) (n := 0) (k := -1) (M := Mx) (by omega)
    rw [nI_0] at m1
    rw [m1, bd_s]
    unfold m_X5_sheet_J34 m_X5_sheet_J45 m_X5_sheet_J59
    rw [if_pos (by decide), if_pos (by decide), inr_n s1 (by omega), gd_t, lt1_d, gd_t, lt1_d, gd_t, lt1_d, lt1_d, nI_clamp (by omega), show vp_nar .boolean 0 = 0 from rfl]
    have lp : ∀ M : Mm, m_X5_sheet_L77 FU (nI s) (-1) z 0 M = some (1, M) := by
      intro M
      rw [show FU = 999999 + 1 from rfl]
      show m_X5_sheet_B77 (m_X5_sheet_L77 999999) (nI s) (-1) z 0 M = _
      unfold m_X5_sheet_B77
      by_cases e : z ≤ 0
      · rw [if_pos e]
      · rw [if_neg e, if_pos (by decide)]
    rw [lp]
    refine ⟨_, _, _, rfl, rfl, Rel.sh1 hR hV s1 (fun a a1 a2 => m5 a a1 (by omega)) (((SR1.pu (Or.inl rfl)).tr (SR1.pu (Or.inr (Or.inl rfl)))).tr (SR1.pu (Or.inr (Or.inr rfl)))) (Or.inl ⟨?_, m2⟩)⟩
    rw [up_k (by decide), up_k (by decide), up_s]
  · have c2 : nI k ≤ (2 : Int32) := nI_le (b := 2) (by omega) (by omega)
    have cn : ¬ nI k < -1 := by
      rw [Int32.lt_iff_toInt_lt, m, nI_toInt (by omega)]; omega
    rw [if_neg cn, if_pos c2, if_neg (nI_m1 (by omega)), decide_eq_true (by rw [nI_toInt (by omega)]; omega), if_neg (show ¬ b2i true = 0 by decide), if_neg (nI_pos (by omega))]
    by_cases z40 : z ≤ (40 : Int32)
    · rw [if_pos z40, if_pos z40]
      unfold m_X5_sheet_J34 m_X5_sheet_J45 m_X5_sheet_J59
      rw [if_neg (nI_pos (by omega))]
      by_cases z0 : 0 ≤ z
      · obtain ⟨n, n1, rfl⟩ := nI_of2 (M := 40) (n := 40) (by decide) (fun q => by rw [Int32.lt_iff_toInt_lt] at q; rw [Int32.le_iff_toInt_le] at z0; omega) z40
        obtain ⟨M', m1, m2, m3, m4, m5⟩ := x0_bec (v := 36 + 2 * s) (n := n) (k := nI k) (M := Mx) (by omega)
        rw [if_pos z0, if_pos z0, if_neg (nI_pos (by omega)), m1, bd_s, inr_n s1 (by omega), gd_t, lt1_d, gd_t, lt1_d, gd_t, lt1_d, lt1_d, nI_clamp (by omega), show vp_nar .boolean 1 = 1 from rfl]
        obtain ⟨M2, g1, g2, g3, g4, g5⟩ := x5_sh_L (N := n) (k0 := 0) (x2 := nI k) s1 n1 (nI_pos (by omega)) n 0 FU (up (up (up Mr 12 s 1) 13 s (nI k)) 14 s (nI n)) (by unfold FU; omega) (by omega)
        rw [nI_0] at g1
        rw [g1]
        refine ⟨_, _, _, rfl, rfl, Rel.sh1 hR hV s1 (fun a a1 a2 => m5 a a1 (by omega)) ((((SR1.pu (Or.inl rfl)).tr (SR1.pu (Or.inr (Or.inl rfl)))).tr (SR1.pu (Or.inr (Or.inr rfl)))).tr g4) (Or.inr ⟨?_, ⟨k, k1, ?_, m2⟩, n, n1, ?_, m3, fun j hj => ?_⟩)⟩
        · rw [g5 12 (by decide), up_k (by decide), up_k (by decide), up_s]
        · rw [g5 13 (by decide), up_k (by decide), up_s]
        · rw [g5 14 (by decide), up_s]
        · rw [g2 j (by omega) hj, show 37 + 2 * s = 36 + 2 * s + 1 by omega]; exact m4 j (by omega)
      · rw [if_neg z0, if_neg z0]
        exact ⟨_, _, _, rfl, rfl, fin⟩
    · rw [if_neg z40, if_neg z40]
      exact ⟨_, _, _, rfl, rfl, fin⟩
  · have q1 := q
    rw [Int32.lt_iff_toInt_lt, two] at q1
    rw [if_neg (fun t => by rw [Int32.lt_iff_toInt_lt, m] at t; omega), if_neg (fun t => by rw [Int32.le_iff_toInt_le, two] at t; omega), decide_eq_false (by omega), if_pos (by decide)]
    exact ⟨_, _, _, rfl, rfl, fin⟩
/-- what a sheet says of itself -/
theorem ShR.mi {Mx Mr : Mm} {s : Nat} (h : ShR Mx Mr s) : (Mr 12 s = 0 ∧ m_X0_isMissing (36 + 2 * s) Mx = some (1, Mx)) ∨ (Mr 12 s = 1 ∧ m_X0_isMissing (36 + 2 * s) Mx = some (0, Mx) ∧ (∃ k, k < 3 ∧ Mr 13 s = nI k ∧ Mx (36 + 2 * s) 0 = nI k) ∧ ∃ n, n ≤ 40 ∧ Mr 14 s = nI n ∧ Mx (36 + 2 * s) 1 = nI n ∧ ∀ j, j < n → Mx (37 + 2 * s) j = Mr 15 (40 * s + j)) := by
  unfold m_X0_isMissing
  rcases h with ⟨a, b⟩ | ⟨a, ⟨k, k1, k2, k3⟩, c⟩
  · rw [if_pos b]; exact Or.inl ⟨a, rfl⟩
  · rw [k3, if_neg (nI_m1 (by omega))]
    exact Or.inr ⟨a, rfl, ⟨k, k1, k2, rfl⟩, c⟩
theorem call_cell {Mx Mr : Mm} (h : Rel Mx Mr) (x y z : Int32) : Ans (m_X4_cell x y z Mx) (m_X5_cell x y z Mr) := by
  obtain ⟨T, tx, hR, hV⟩ := h
  have fin : Rel Mx Mr := ⟨T, tx, hR, hV⟩
  unfold m_X4_cell m_X5_cell
  rcases ix_cases x 4 (by omega) with q | ⟨s, s1, rfl⟩
  · rw [x4_sn_out q, x5_is_out q, bd_s, bd_s, rc_n, if_pos rfl]
    exact ⟨_, _, _, rfl, rfl, fin⟩
  rw [(x4_sn_in s1).1, x5_is_in s1, bd_s, bd_s, rc_s, (x4_sn_in (M := Mx) s1).2, gd_t, if_neg one_ne0, inr_n s1 (by omega), gd_t, nI_clamp (by omega)]
  rcases ShR.mi (hR.2.2.1 s s1) with ⟨a, b⟩ | ⟨a, b, ⟨k, k1, k2, k3⟩, n, n1, n2, n3, n4⟩
  · rw [b, bd_s, if_neg one_ne0, if_pos a]
    exact ⟨_, _, _, rfl, rfl, fin⟩
  rw [b, bd_s, if_pos rfl, a, if_neg one_ne0, gd_t, n2]
  unfold m_X0_has
  rw [n3]
  rcases ix_cases y n (by omega) with q | ⟨i, i1, rfl⟩
  · rw [x5_in_out (n := n) (by rw [nI_sub1 (by omega)]; omega) (by omega) q, bd_s, if_pos rfl]
    have : (if y < 0 then some ((0 : Int32), Mx) else if nI n ≤ y then some (0, Mx) else if (40 : Int32) ≤ y then some (0, Mx) else some (1, Mx)) = some (0, Mx) := by
      by_cases e : y < 0
      · rw [if_pos e]
      · rw [if_neg e, if_pos (q.resolve_left e)]
    rw [this, bd_s, if_pos rfl]
    exact ⟨_, _, _, rfl, rfl, fin⟩
  have hs : m_X0_has (36 + 2 * s) (nI i) Mx = some (1, Mx) := by
    unfold m_X0_has
    rw [n3, if_neg (nI_pos (by omega)), if_neg (nI_ge i1 (by omega)), if_neg (show ¬ (40 : Int32) ≤ nI i from nI_ge (b := 40) (by omega) (by omega))]
  rw [x5_in_in (n := n - 1) (by rw [nI_sub1 (by omega)]; omega) (by omega) (by omega), bd_s, if_neg one_ne0, if_neg (nI_pos (by omega)), if_neg (nI_ge i1 (by omega)), if_neg (show ¬ (40 : Int32) ≤ nI i from nI_ge (b := 40) (by omega) (by omega)), bd_s, if_neg one_ne0, gd_t]
  unfold m_X0_put m_X0_put_J39 m_X5_cell_J83
  rw [hs, bd_s, if_neg one_ne0, k2, k3, show (40 : Int32) * nI s = nI (40 * s) from pk_mul 40 s, nI_add, gd_t, inr_n (show i < 40 by omega) (by omega), inr_n (show 40 * s + i < 160 by omega) (by omega), nI_clamp (by omega), nI_clamp (by omega)]
  have key : ∀ v : Int32, Rel (up Mx (36 + 2 * s + 1) i v) (up Mr 15 (40 * s + i) v) := by
    intro v
    refine Rel.sh1 hR hV s1 (SX1.pu (by omega)) (SR1.pui (by omega)) (Or.inr ⟨?_, ⟨k, k1, ?_, ?_⟩, n, n1, ?_, ?_, fun j hj => ?_⟩)
    · rw [up_k (by decide)]; exact a
    · rw [up_k (by decide)]; exact k2
    · rw [up_k (by omega)]; exact k3
    · rw [up_k (by decide)]; exact n2
    · rw [up_k (by omega)]; exact n3
    · rw [show 37 + 2 * s = 36 + 2 * s + 1 by omega]
      by_cases e : j = i
      · subst e; rw [up_s, up_s]
      · rw [up_j e, up_j (by omega), show 36 + 2 * s + 1 = 37 + 2 * s by omega]; exact n4 j hj
  by_cases e0 : nI k = 0
  · rw [if_pos e0, if_pos e0, gd_t, gd_t, lt1_d, lt1_d, bd_s]
    exact ⟨_, _, _, rfl, rfl, key _⟩
  rw [if_neg e0, if_neg e0]
  by_cases e1 : nI k = 1
  · rw [if_pos e1, if_pos e1, gd_t, gd_t, lt1_d, lt1_d, bd_s]
    exact ⟨_, _, _, rfl, rfl, key _⟩
  · rw [if_neg e1, if_neg e1, gd_t, gd_t, lt1_d, lt1_d, bd_s]
    exact ⟨_, _, _, rfl, rfl, key _⟩
