/-! the sheets -/
def SX (M M' : Mm) : Prop := ∀ k, k < 36 ∨ 43 < k → M' k = M k
def SR (M M' : Mm) : Prop := ∀ k, k < 12 ∨ 15 < k → M' k = M k
theorem SX.rf {M : Mm} : SX M M := fun _ _ => rfl
theorem SR.rf {M : Mm} : SR M M := fun _ _ => rfl
theorem SX.tr {M M1 M2 : Mm} (h : SX M M1) (g : SX M1 M2) : SX M M2 := fun k a => (g k a).trans (h k a)
theorem SR.tr {M M1 M2 : Mm} (h : SR M M1) (g : SR M1 M2) : SR M M2 := fun k a => (g k a).trans (h k a)
theorem SX.up {M : Mm} {k j : Nat} {x : Int32} (h : 36 ≤ k ∧ k ≤ 43) : SX M (up M k j x) := fun a b => by funext c; exact up_k (by omega)
theorem SR.up {M : Mm} {k j : Nat} {x : Int32} (h : 12 ≤ k ∧ k ≤ 15) : SR M (up M k j x) := fun a b => by funext c; exact up_k (by omega)
theorem SX.nxe {M M' : Mm} {v : Nat} (h : SX M M') (hv : v + 8 < 36) : nx M' v = nx M v := by
  have e : ∀ i j, i ≤ 8 → vx M' v i j = vx M v i j := by
    intro i j hi
    show M' (v + i) j = M (v + i) j
    rw [h (v + i) (by omega)]
  have eP : vP (vx M' v) = vP (vx M v) := by unfold vP; rw [e 0 4 (by omega)]
  have eL : vL (vx M' v) = vL (vx M v) := by unfold vL; rw [e 0 5 (by omega)]
  funext i j
  show nrm (vx M' v) i j = nrm (vx M v) i j
  unfold nrm
  rw [eP, eL]
  by_cases h8 : i ≤ 8
  · by_cases hi : i = 0
    · subst hi
      rw [if_pos rfl, if_pos rfl, e 0 j (by omega)]
    · rw [if_neg hi, if_neg hi, e i j h8]
  · simp [show ¬ i = 0 by omega, show ¬ i ≤ 3 by omega, h8]
theorem SR.nme {M M' : Mm} (h : SR M M') : nm M' = nm M := by
  have e : vm M' = vm M := by
    funext i j
    unfold vm
    rw [h 0 (by omega), h 4 (by omega), h 5 (by omega)]
  unfold nm; rw [e]
theorem SR.nke {M M' : Mm} (h : SR M M') : nmk M' = nmk M := by
  have e : vmk M' = vmk M := by
    funext i j
    unfold vmk
    rw [h 0 (by omega), h 10 (by omega), h 11 (by omega)]
  unfold nmk; rw [e]
theorem Rel.sht {T : Nat} {tx : Tx} {Mx Mr Mx' Mr' : Mm} (hR : Rest T tx Mx Mr) (hV : RelV T Mx Mr) (hx : SX Mx Mx') (hr : SR Mr Mr') (hs : RelS Mx' Mr') : Rel Mx' Mr' := by
  obtain ⟨⟨t1, t2⟩, r2, -, r4⟩ := hR
  refine ⟨T, tx, ⟨⟨?_, ?_⟩, ?_, hs, ?_⟩, ?_⟩
  · obtain ⟨h1, h2, h3⟩ := t1
    refine ⟨by rw [hx 1 (by omega)]; exact h1, h2, fun N a b c => h3 N ?_ ?_ ?_⟩
    · rw [a, hx 1 (by omega)]
    · rw [b, hx 2 (by omega)]
    · rw [c, hx 3 (by omega)]
  · obtain ⟨h1, h2, h3⟩ := t2
    refine ⟨by rw [hr 0 (by omega)]; exact h1, h2, fun N a b c => h3 N ?_ ?_ ?_⟩
    · rw [a, hr 0 (by omega)]
    · rw [b, hr 1 (by omega)]
    · rw [c, hr 2 (by omega)]
  · unfold RelK at r2 ⊢
    rw [hx.nxe (by omega), hr.nke, hr 0 (by omega), hx 0 (by omega)]
    exact r2
  · unfold RelT at r4 ⊢
    rw [hx 5 (by omega), hx 6 (by omega), hr 0 (by omega), hr 3 (by omega)]
    exact r4
  · unfold RelV
    rw [hx.nxe (by omega), hr.nme]
    exact hV
/-- one sheet changed, alike -/
def ShR (Mx Mr : Mm) (s : Nat) : Prop := (Mr 12 s = 0 ∧ Mx (36 + 2 * s) 0 = -1) ∨ (Mr 12 s = 1 ∧ (∃ k, k < 3 ∧ Mr 13 s = nI k ∧ Mx (36 + 2 * s) 0 = nI k) ∧ ∃ n, n ≤ 40 ∧ Mr 14 s = nI n ∧ Mx (36 + 2 * s) 1 = nI n ∧ ∀ j, j < n → Mx (37 + 2 * s) j = Mr 15 (40 * s + j))
def SX1 (s : Nat) (M M' : Mm) : Prop := ∀ k, k ≠ 36 + 2 * s → k ≠ 37 + 2 * s → M' k = M k
def SR1 (s : Nat) (M M' : Mm) : Prop := (∀ k, k < 12 ∨ 15 < k → M' k = M k) ∧ (∀ j, j ≠ s → M' 12 j = M 12 j ∧ M' 13 j = M 13 j ∧ M' 14 j = M 14 j) ∧ ∀ j, j < 40 * s ∨ 40 * s + 40 ≤ j → M' 15 j = M 15 j
theorem SX1.rf {s : Nat} {M : Mm} : SX1 s M M := fun _ _ _ => rfl
theorem SR1.rf {s : Nat} {M : Mm} : SR1 s M M := ⟨fun _ _ => rfl, fun _ _ => ⟨rfl, rfl, rfl⟩, fun _ _ => rfl⟩
theorem SX1.tr {s : Nat} {M M1 M2 : Mm} (h : SX1 s M M1) (g : SX1 s M1 M2) : SX1 s M M2 := fun k a b => (g k a b).trans (h k a b)
theorem SR1.tr {s : Nat} {M M1 M2 : Mm} (h : SR1 s M M1) (g : SR1 s M1 M2) : SR1 s M M2 := ⟨fun k a => (g.1 k a).trans (h.1 k a), fun j a => ⟨(g.2.1 j a).1.trans (h.2.1 j a).1, (g.2.1 j a).2.1.trans (h.2.1 j a).2.1, (g.2.1 j a).2.2.trans (h.2.1 j a).2.2⟩, fun j a => (g.2.2 j a).trans (h.2.2 j a)⟩
theorem SX1.up {s : Nat} {M : Mm} {k j : Nat} {x : Int32} (h : k = 36 + 2 * s ∨ k = 37 + 2 * s) : SX1 s M (up M k j x) := fun a b c => by funext d; exact up_k (by omega)
theorem SR1.up {s : Nat} {M : Mm} {k : Nat} {x : Int32} (h : k = 12 ∨ k = 13 ∨ k = 14) : SR1 s M (up M k s x) := by
  refine ⟨fun a b => by funext c; exact up_k (by omega), fun j hj => ?_, fun j _ => up_k (by omega)⟩
  have : ∀ q, up M k s x q j = M q j := by
    intro q
    by_cases e : q = k
    · subst e; exact up_j hj
    · exact up_k e
  exact ⟨this _, this _, this _⟩
theorem SR1.upi {s i : Nat} {M : Mm} {x : Int32} (h : i < 40) : SR1 s M (up M 15 (40 * s + i) x) :=
  ⟨fun a b => by funext c; exact up_k (by omega), fun j _ => ⟨up_k (by omega), up_k (by omega), up_k (by omega)⟩, fun j _ => up_j (by omega)⟩
theorem Rel.sh1 {T s : Nat} {tx : Tx} {Mx Mr Mx' Mr' : Mm} (hR : Rest T tx Mx Mr) (hV : RelV T Mx Mr) (h4 : s < 4) (hx : SX1 s Mx Mx') (hr : SR1 s Mr Mr') (hs : ShR Mx' Mr' s) : Rel Mx' Mr' := by
  refine Rel.sht hR hV (fun k a => hx k (by omega) (by omega)) (fun k a => hr.1 k a) (fun u hu => ?_)
  by_cases e : u = s
  · subst e; exact hs
  · obtain ⟨e1, e2, e3⟩ := hr.2.1 u e
    rw [e1, e2, e3, hx (36 + 2 * u) (by omega) (by omega), hx (37 + 2 * u) (by omega) (by omega)]
    rcases hR.2.2.1 u hu with q | ⟨q1, q2, n, n1, n2, n3, n4⟩
    · exact Or.inl q
    · refine Or.inr ⟨q1, q2, n, n1, n2, n3, fun j hj => ?_⟩
      rw [hr.2.2 _ (by omega)]
      exact n4 j hj
/-- which sheet -/
theorem x4_sn_in {s : Nat} {M : Mm} (h : s < 4) : m_X4_sheetNumbered (nI s) M = some (some (36 + 2 * s), M) ∧ isShe (36 + 2 * s) = true := by
  refine ⟨?_, ?_⟩
  · unfold m_X4_sheetNumbered
    rw [if_neg (nI_pos (by omega)), if_neg (show ¬ (4 : Int32) ≤ nI s from nI_ge (b := 4) (by omega) (by omega)), inr_n h (by omega), gd_t, nI_clamp (by omega)]
  · rcases (show s = 0 ∨ s = 1 ∨ s = 2 ∨ s = 3 by omega) with rfl | rfl | rfl | rfl <;> rfl
theorem x4_sn_out {x : Int32} {M : Mm} (h : x < 0 ∨ nI 4 ≤ x) : m_X4_sheetNumbered x M = some (none, M) := by
  unfold m_X4_sheetNumbered m_X4_sheetNumbered_J22
  by_cases e : x < 0
  · rw [if_pos e]
  · rw [if_neg e, if_pos (show (4 : Int32) ≤ x from h.resolve_left e)]
theorem x5_is_in {s : Nat} {M : Mm} (h : s < 4) : m_X5_isSheet (nI s) M = some (1, M) := by
  unfold m_X5_isSheet
  rw [x5_in_in (n := 3) (b := 3) (by decide) (by omega) (by omega), bd_s, show z01 1 = true from rfl, gd_t]
theorem x5_is_out {x : Int32} {M : Mm} (h : x < 0 ∨ nI 4 ≤ x) : m_X5_isSheet x M = some (0, M) := by
  unfold m_X5_isSheet
  rw [x5_in_out (n := 4) (b := 3) (by decide) (by omega) h, bd_s, show z01 0 = true from rfl, gd_t]
theorem rc_n {β : Type} {f : Mm → β} {g : Nat → Mm → β} {M : Mm} : rcase f g none M = f M := rfl
theorem rc_s {β : Type} {f : Mm → β} {g : Nat → Mm → β} {a : Nat} {M : Mm} : rcase f g (some a) M = g a M := rfl
theorem x0_bec_L {v : Nat} : ∀ (k i n : Nat) (M : Mm), k < n → i + k = 40 → ∃ M', m_X0_become_L21 v n (nI i) M = some ((), M') ∧ (∀ j, i ≤ j → j < 40 → M' (v + 1) j = 0) ∧ ∀ a, a ≠ v + 1 → M' a = M a := by
  intro k
  induction k with
  | zero =>
    intro i n M hn hi
    obtain ⟨n, rfl⟩ : ∃ m, n = m + 1 := ⟨n - 1, by omega⟩
    have e2 : (40 : Int32) ≤ nI i := nI_le (a := 40) (by omega) (by omega)
    show ∃ M', m_X0_become_B21 v (m_X0_become_L21 v n) (nI i) M = _ ∧ _
    rw [m_X0_become_B21, if_pos e2]
    exact ⟨M, rfl, fun j _ _ => absurd ‹j < 40› (by omega), fun _ _ => rfl⟩
  | succ k ih =>
    intro i n M hn hi
    obtain ⟨n, rfl⟩ : ∃ m, n = m + 1 := ⟨n - 1, by omega⟩
    have e2 : ¬ (40 : Int32) ≤ nI i := nI_ge (b := 40) (by omega) (by omega)
    show ∃ M', m_X0_become_B21 v (m_X0_become_L21 v n) (nI i) M = _ ∧ _
    rw [m_X0_become_B21, if_neg e2, inr_n (by omega) (by omega), gd_t, lt1_d, lt1_d, nI_1, nI_clamp (by omega)]
    obtain ⟨M', m1, m2, m3⟩ := ih (i + 1) n (up M (v + 1) i 0) (by omega) (by omega)
    refine ⟨M', m1, fun j h1 h2 => ?_, fun a ha => ?_⟩
    · by_cases e : j = i
      · subst e
        rw [← nI_0]
        sorry
      · exact m2 j (by omega) h2
    · rw [m3 a ha]; funext b; exact up_k ha
