/-! told, set, swap, taken, feed -/
theorem RelV.hd {T : Nat} {Mx Mr : Mm} (h : RelV T Mx Mr) : Mx 7 1 = Mr 0 7 ∧ Mx 7 2 = Mr 0 8 ∧ Mx 7 3 = Mr 0 4 ∧ Mx 7 4 = Mr 0 10 ∧ Mx 7 5 = Mr 0 12 ∧ Mx 7 6 = Mr 0 13 := by
  have e : ∀ j, 1 ≤ j ∧ j ≤ 6 → Mx 7 j = nm Mr 0 j := fun j hj => by rw [← h.1, nx_0 hj]
  obtain ⟨a1, a2, a3, a4, a5, a6⟩ := nm_0 (M := Mr)
  exact ⟨(e 1 (by omega)).trans a1, (e 2 (by omega)).trans a2, (e 3 (by omega)).trans a3, (e 4 (by omega)).trans a4, (e 5 (by omega)).trans a5, (e 6 (by omega)).trans a6⟩
theorem RelV.cx {T : Nat} {Mx Mr : Mm} (h : RelV T Mx Mr) : CV Mx 7 (vP (nm Mr)) (vL (nm Mr)) := by
  have hw : WF T (nx Mx 7) := by rw [h.1]; exact h.2.1
  have := hw.cv
  rw [h.1] at this
  exact this
theorem RelV.cm {T : Nat} {Mx Mr : Mm} (h : RelV T Mx Mr) : MV Mr (vP (nm Mr)) (vL (nm Mr)) := h.2.1.mv
theorem RelV.row {T p : Nat} {Mx Mr : Mm} (h : RelV T Mx Mr) (hp : p < vP (nm Mr)) : Mx 8 p = Mr 4 (3 * p + 1) ∧ Mx 9 p = Mr 4 (3 * p) ∧ Mx 10 p = Mr 4 (3 * p + 2) := by
  have e : ∀ i, 1 ≤ i → i ≤ 3 → Mx (7 + i) p = nm Mr i p := fun i a b => by rw [← h.1, h.cx.r a b hp]
  obtain ⟨a1, a2, a3⟩ := h.cm.r hp
  exact ⟨(e 1 (by omega) (by omega)).trans a1, (e 2 (by omega) (by omega)).trans a2, (e 3 (by omega) (by omega)).trans a3⟩
theorem RelV.lt {T l : Nat} {Mx Mr : Mm} (h : RelV T Mx Mr) (hl : l < vL (nm Mr)) : Mx 11 l = Mr 5 (5 * l + 1) ∧ Mx 12 l = Mr 5 (5 * l + 2) ∧ Mx 13 l = Mr 5 (5 * l + 3) ∧ Mx 14 l = Mr 5 (5 * l) ∧ Mx 15 l = Mr 5 (5 * l + 4) := by
  have e : ∀ i, 4 ≤ i → i ≤ 8 → Mx (7 + i) l = nm Mr i l := fun i a b => by rw [← h.1, h.cx.q a b hl]
  obtain ⟨a1, a2, a3, a4, a5⟩ := h.cm.q hl
  exact ⟨(e 4 (by omega) (by omega)).trans a1, (e 5 (by omega) (by omega)).trans a2, (e 6 (by omega) (by omega)).trans a3, (e 7 (by omega) (by omega)).trans a4, (e 8 (by omega) (by omega)).trans a5⟩
theorem nI_ads (a b c d : Nat) (h : a + b = c + d) : nI a + nI b - nI d = nI c := by
  rw [nI_add, h, ← nI_add, Int32.add_sub_cancel]
theorem told_R {T : Nat} {Mx Mr : Mm} (h : RelV T Mx Mr) (x y : Int32) : ∃ r, m_X4_told x y Mx = some (r, Mx) ∧ m_X5_told x y Mr = some (r, Mr) := by
  obtain ⟨v1, v2, v3⟩ := id h
  have cx := h.cx
  have cm := h.cm
  have h5 := cm.2.1
  have h8 := cm.2.2.2
  have hd := h.hd
  have e1 := ix_cases x (vP (nm Mr)) (by omega)
  have e2 := ix_cases x (vL (nm Mr)) (by omega)
  rcases ix_cases y 11 (by omega) with q | ⟨c, c1, rfl⟩
  · have ne : ∀ c : Nat, c < 11 → ¬ y = nI c := by
      intro c hc e
      subst e
      rcases q with q | q
      · exact nI_pos (by omega) q
      · exact nI_ge hc (by omega) q
    have n0 : ¬ y = 0 := ne 0 (by omega)
    have n1 : ¬ y = 1 := ne 1 (by omega)
    have n2 : ¬ y = 2 := ne 2 (by omega)
    have n3 : ¬ y = 3 := ne 3 (by omega)
    have n4 : ¬ y = 4 := ne 4 (by omega)
    have n5 : ¬ y = 5 := ne 5 (by omega)
    have n6 : ¬ y = 6 := ne 6 (by omega)
    have n7 : ¬ y = 7 := ne 7 (by omega)
    have n8 : ¬ y = 8 := ne 8 (by omega)
    have n9 : ¬ y = 9 := ne 9 (by omega)
    have n10 : ¬ y = 10 := ne 10 (by omega)
    refine ⟨-1000, ?_, ?_⟩
    · unfold m_X4_told m_X4_told_J36 m_X4_toldOfOne m_X4_toldOfLetter
      rw [if_neg n0, if_neg n1, if_neg n3]
      split
      · rcases e1 with e | ⟨p, p1, rfl⟩
        · rw [x3_one_out cx e, bd_s, if_pos rfl]
        · rw [x3_one_in cx p1, bd_s, if_neg one_ne0, bd_s]
      · rcases e2 with e | ⟨l, l1, rfl⟩
        · rw [x3_let_out cx e, bd_s, if_pos rfl]
        · rw [x3_let_in cx l1, bd_s, if_neg one_ne0, bd_s]
    · unfold m_X5_told
      rw [x5_in_out (n := 11) (b := 10) (by decide) (by omega) q, bd_s, if_pos rfl]
  · have e0 : ∀ M : Mm, m_X5_in (nI c).toInt64 (0 : Int64) (10 : Int64) M = some (1, M) := fun M => x5_in_in (n := 10) (b := 10) (by decide) (by omega) (by omega)
    unfold m_X4_told m_X5_told m_X4_told_J36 m_X5_isOf m_X5_isOf_J16 m_X5_isOf_J35
    rw [e0, bd_s, if_neg one_ne0]
    rcases (show c = 0 ∨ c = 1 ∨ c = 2 ∨ c = 3 ∨ c = 4 ∨ c = 5 ∨ c = 6 ∨ c = 7 ∨ c = 8 ∨ c = 9 ∨ c = 10 by omega) with rfl | rfl | rfl | rfl | rfl | rfl | rfl | rfl | rfl | rfl | rfl
    · repeat (first | rw [if_pos (by decide)] | rw [if_neg (by decide)])
      rw [bd_s]
      repeat (first | rw [if_pos (by decide)] | rw [if_neg (by decide)])
      exact ⟨_, rfl, by rw [hd.1]⟩
    · repeat (first | rw [if_pos (by decide)] | rw [if_neg (by decide)])
      rw [bd_s]
      repeat (first | rw [if_pos (by decide)] | rw [if_neg (by decide)])
      exact ⟨_, rfl, by rw [hd.2.1]⟩
    · repeat (first | rw [if_pos (by decide)] | rw [if_neg (by decide)])
      rcases e1 with e | ⟨p, p1, rfl⟩
      · rw [x3_one_out cx e, x5_one_out cm e, bd_s, bd_s, if_pos rfl, if_pos rfl, bd_s, if_pos rfl]
        exact ⟨_, rfl, rfl⟩
      · rw [x3_one_in cx p1, x5_one_in cm p1, bd_s, bd_s, if_neg one_ne0, if_neg one_ne0, bd_s, if_neg one_ne0]
        unfold m_X4_toldOfOne
        repeat (first | rw [if_pos (by decide)] | rw [if_neg (by decide)])
        rw [(x3_of_one cx p1).2.1, bd_s, bd_s, pl3, inr_n (by omega) (by omega), gd_t, nI_clamp (by omega), (h.row p1).2.1]
        exact ⟨_, rfl, rfl⟩
    · repeat (first | rw [if_pos (by decide)] | rw [if_neg (by decide)])
      rcases e2 with e | ⟨l, l1, rfl⟩
      · rw [x3_let_out cx e, x5_let_out cm e, bd_s, bd_s, if_pos rfl, if_pos rfl, bd_s, if_pos rfl]
        exact ⟨_, rfl, rfl⟩
      · rw [x3_let_in cx l1, x5_let_in cm l1, bd_s, bd_s, if_neg one_ne0, if_neg one_ne0, bd_s, if_neg one_ne0]
        unfold m_X4_toldOfLetter
        repeat (first | rw [if_pos (by decide)] | rw [if_neg (by decide)])
        rw [(x3_of_let cx l1).2.2.2.1, bd_s, bd_s, pl5, inr_n (by omega) (by omega), gd_t, nI_clamp (by omega), (h.lt l1).2.2.2.1]
        exact ⟨_, rfl, rfl⟩
    · repeat (first | rw [if_pos (by decide)] | rw [if_neg (by decide)])
      rcases e1 with e | ⟨p, p1, rfl⟩
      · rw [x3_one_out cx e, x5_one_out cm e, bd_s, bd_s, if_pos rfl, if_pos rfl, bd_s, if_pos rfl]
        exact ⟨_, rfl, rfl⟩
      · rw [x3_one_in cx p1, x5_one_in cm p1, bd_s, bd_s, if_neg one_ne0, if_neg one_ne0, bd_s, if_neg one_ne0]
        unfold m_X4_toldOfOne
        repeat (first | rw [if_pos (by decide)] | rw [if_neg (by decide)])
        rw [(x3_of_one cx p1).1, bd_s, bd_s, pl3, show nI (3 * p) + nI 4 - (3 : Int32) = nI (3 * p + 1) from nI_ads _ 4 _ 3 (by omega), inr_n (by omega) (by omega), gd_t, nI_clamp (by omega), (h.row p1).1]
        exact ⟨_, rfl, rfl⟩
    · repeat (first | rw [if_pos (by decide)] | rw [if_neg (by decide)])
      rcases e1 with e | ⟨p, p1, rfl⟩
      · rw [x3_one_out cx e, x5_one_out cm e, bd_s, bd_s, if_pos rfl, if_pos rfl, bd_s, if_pos rfl]
        exact ⟨_, rfl, rfl⟩
      · rw [x3_one_in cx p1, x5_one_in cm p1, bd_s, bd_s, if_neg one_ne0, if_neg one_ne0, bd_s, if_neg one_ne0]
        unfold m_X4_toldOfOne
        repeat (first | rw [if_pos (by decide)] | rw [if_neg (by decide)])
        rw [(x3_of_one cx p1).2.2, bd_s, bd_s, pl3, show nI (3 * p) + nI 5 - (3 : Int32) = nI (3 * p + 2) from nI_ads _ 5 _ 3 (by omega), inr_n (by omega) (by omega), gd_t, nI_clamp (by omega), (h.row p1).2.2]
        exact ⟨_, rfl, rfl⟩
    · repeat (first | rw [if_pos (by decide)] | rw [if_neg (by decide)])
      rcases e1 with e | ⟨p, p1, rfl⟩
      · rw [x3_one_out cx e, x5_one_out cm e, bd_s, bd_s, if_pos rfl, if_pos rfl, bd_s, if_pos rfl]
        exact ⟨_, rfl, rfl⟩
      · rw [x3_one_in cx p1, x5_one_in cm p1, bd_s, bd_s, if_neg one_ne0, if_neg one_ne0, bd_s, if_neg one_ne0]
        unfold m_X4_toldOfOne
        repeat (first | rw [if_pos (by decide)] | rw [if_neg (by decide)])
        rw [x3_known cx, x5_known cm, bd_s, bd_s, bd_s, v1]
        exact ⟨_, rfl, rfl⟩
    · repeat (first | rw [if_pos (by decide)] | rw [if_neg (by decide)])
      rcases e2 with e | ⟨l, l1, rfl⟩
      · rw [x3_let_out cx e, x5_let_out cm e, bd_s, bd_s, if_pos rfl, if_pos rfl, bd_s, if_pos rfl]
        exact ⟨_, rfl, rfl⟩
      · rw [x3_let_in cx l1, x5_let_in cm l1, bd_s, bd_s, if_neg one_ne0, if_neg one_ne0, bd_s, if_neg one_ne0]
        unfold m_X4_toldOfLetter
        repeat (first | rw [if_pos (by decide)] | rw [if_neg (by decide)])
        rw [(x3_of_let cx l1).1, bd_s, bd_s, pl5, show nI (5 * l) + nI 7 - (6 : Int32) = nI (5 * l + 1) from nI_ads _ 7 _ 6 (by omega), inr_n (by omega) (by omega), gd_t, nI_clamp (by omega), (h.lt l1).1]
        exact ⟨_, rfl, rfl⟩
    · repeat (first | rw [if_pos (by decide)] | rw [if_neg (by decide)])
      rcases e2 with e | ⟨l, l1, rfl⟩
      · rw [x3_let_out cx e, x5_let_out cm e, bd_s, bd_s, if_pos rfl, if_pos rfl, bd_s, if_pos rfl]
        exact ⟨_, rfl, rfl⟩
      · rw [x3_let_in cx l1, x5_let_in cm l1, bd_s, bd_s, if_neg one_ne0, if_neg one_ne0, bd_s, if_neg one_ne0]
        unfold m_X4_toldOfLetter
        repeat (first | rw [if_pos (by decide)] | rw [if_neg (by decide)])
        rw [(x3_of_let cx l1).2.1, bd_s, bd_s, pl5, show nI (5 * l) + nI 8 - (6 : Int32) = nI (5 * l + 2) from nI_ads _ 8 _ 6 (by omega), inr_n (by omega) (by omega), gd_t, nI_clamp (by omega), (h.lt l1).2.1]
        exact ⟨_, rfl, rfl⟩
    · repeat (first | rw [if_pos (by decide)] | rw [if_neg (by decide)])
      rcases e2 with e | ⟨l, l1, rfl⟩
      · rw [x3_let_out cx e, x5_let_out cm e, bd_s, bd_s, if_pos rfl, if_pos rfl, bd_s, if_pos rfl]
        exact ⟨_, rfl, rfl⟩
      · rw [x3_let_in cx l1, x5_let_in cm l1, bd_s, bd_s, if_neg one_ne0, if_neg one_ne0, bd_s, if_neg one_ne0]
        unfold m_X4_toldOfLetter
        repeat (first | rw [if_pos (by decide)] | rw [if_neg (by decide)])
        rw [(x3_of_let cx l1).2.2.1, bd_s, bd_s, pl5, show nI (5 * l) + nI 9 - (6 : Int32) = nI (5 * l + 3) from nI_ads _ 9 _ 6 (by omega), inr_n (by omega) (by omega), gd_t, nI_clamp (by omega), (h.lt l1).2.2.1]
        exact ⟨_, rfl, rfl⟩
    · repeat (first | rw [if_pos (by decide)] | rw [if_neg (by decide)])
      rcases e2 with e | ⟨l, l1, rfl⟩
      · rw [x3_let_out cx e, x5_let_out cm e, bd_s, bd_s, if_pos rfl, if_pos rfl, bd_s, if_pos rfl]
        exact ⟨_, rfl, rfl⟩
      · rw [x3_let_in cx l1, x5_let_in cm l1, bd_s, bd_s, if_neg one_ne0, if_neg one_ne0, bd_s, if_neg one_ne0]
        unfold m_X4_toldOfLetter
        repeat (first | rw [if_pos (by decide)] | rw [if_neg (by decide)])
        rw [(x3_of_let cx l1).2.2.2.2, bd_s, bd_s, pl5, show nI (5 * l) + nI 10 - (6 : Int32) = nI (5 * l + 4) from nI_ads _ 10 _ 6 (by omega), inr_n (by omega) (by omega), gd_t, nI_clamp (by omega), (h.lt l1).2.2.2.2]
        exact ⟨_, rfl, rfl⟩
theorem call_told {Mx Mr : Mm} (h : Rel Mx Mr) (x y : Int32) : Ans (m_X4_told x y Mx) (m_X5_told x y Mr) := by
  obtain ⟨T, tx, hR, hV⟩ := h
  obtain ⟨r, a, b⟩ := told_R hV x y
  exact ⟨r, Mx, Mr, a, b, T, tx, hR, hV⟩
/-! the rows changed -/
theorem vm_upr {M : Mm} {l c r : Nat} {x : Int32} (h : (c = 0 ∧ r = 2) ∨ (c = 1 ∧ r = 1) ∨ (c = 2 ∧ r = 3)) : vm (up M 4 (3 * l + c) x) = up (vm M) r l x := by
  have z : ∀ a b, a ≠ 4 → up M 4 (3 * l + c) x a b = M a b := fun a b q => up_k q
  have e5 : ∀ (d r' j : Nat), (d = c ↔ r' = r) → d ≤ 2 → vm M r' j = M 4 (3 * j + d) → up M 4 (3 * l + c) x 4 (3 * j + d) = up (vm M) r l x r' j := by
    intro d r' j hd h4 hv
    have hc : c ≤ 2 := by omega
    by_cases q : d = c
    · have q2 := hd.mp q
      subst q q2
      by_cases w : j = l
      · subst w; rw [up_s, up_s]
      · rw [up_j (by omega), up_j w, hv]
    · have q2 : ¬ r' = r := fun t => q (hd.mpr t)
      rw [up_j (by omega), up_k q2, hv]
  funext i j
  match i with
  | 0 =>
    rw [up_k (by omega)]
    unfold vm
    simp only []
    split <;> first | exact z _ _ (by decide) | rfl
  | 1 => exact e5 1 1 j (by omega) (by omega) rfl
  | 2 => exact e5 0 2 j (by omega) (by omega) rfl
  | 3 => exact e5 2 3 j (by omega) (by omega) rfl
  | 4 => rw [up_k (by omega)]; exact z _ _ (by decide)
  | 5 => rw [up_k (by omega)]; exact z _ _ (by decide)
  | 6 => rw [up_k (by omega)]; exact z _ _ (by decide)
  | 7 => rw [up_k (by omega)]; exact z _ _ (by decide)
  | 8 => rw [up_k (by omega)]; exact z _ _ (by decide)
  | n + 9 => rw [up_k (by omega)]; rfl
theorem nm_upr {M : Mm} {P L l c r : Nat} {x : Int32} (hc : MV M P L) (hl : l < P) (h : (c = 0 ∧ r = 2) ∨ (c = 1 ∧ r = 1) ∨ (c = 2 ∧ r = 3)) : nm (up M 4 (3 * l + c) x) = up (nm M) r l x := by
  have e2 := hc.P
  rw [nm, nrm_P] at e2
  unfold nm
  rw [vm_upr h, nrm_up (by omega)]
theorem mv_upr {M : Mm} {P L j : Nat} {x : Int32} (h : MV M P L) : MV (up M 4 j x) P L := by
  unfold MV
  rw [up_k (by decide), up_k (by decide)]
  exact h
theorem RK.upr {M : Mm} {k j : Nat} {x : Int32} (h : k = 4 ∨ k = 5) : RK M (up M k j x) := ⟨fun a b => by funext c; exact up_k (by omega), fun a b => up_k (by omega)⟩
theorem RK.up0 {M : Mm} {j : Nat} {x : Int32} (h : j ≠ 3 ∧ j ≠ 6 ∧ j < 29) : RK M (up M 0 j x) := ⟨fun a b => by funext c; exact up_k (by omega), fun a b => up_j (by omega)⟩
/-- number, kind -/
theorem WF.upn {T : Nat} {s : Vs} {i p : Nat} {x : Int32} (h : WF T s) (hi : (i = 1 ∧ ∃ k, k < 6 ∧ x = nI k) ∨ (i = 2 ∧ ∃ k, k < 10 ∧ x = nI k)) : WF T (up s i p x) := by
  obtain ⟨h1, h2, h3, h4, h5⟩ := h
  have e0 : ∀ b, up s i p x 0 b = s 0 b := fun b => up_k (by omega)
  have ep : ∀ a b, 3 ≤ a → up s i p x a b = s a b := fun a b ha => up_k (by omega)
  unfold WF Apart KIND
  rw [vP_up (by omega), vL_up (by omega)]
  refine ⟨?_, ?_, ?_, ?_, ?_⟩
  · rw [e0, e0]; exact h1
  · rw [e0, e0]; exact h2
  · intro q hq
    obtain ⟨g1, g2, g3⟩ := h3 q hq
    rw [ep 3 q (by omega)]
    refine ⟨?_, ?_, g3⟩
    · by_cases e : i = 1 ∧ q = p
      · obtain ⟨rfl, rfl⟩ := e
        rw [up_s]
        rcases hi with z | z
        · exact z.2
        · exact absurd z.1 (by omega)
      · have : up s i p x 1 q = s 1 q := by
          by_cases a : i = 1
          · subst a; exact up_j (fun z => e ⟨rfl, z⟩)
          · exact up_k (Ne.symm a)
        rw [this]; exact g1
    · by_cases e : i = 2 ∧ q = p
      · obtain ⟨rfl, rfl⟩ := e
        rw [up_s]
        rcases hi with z | z
        · exact absurd z.1 (by omega)
        · exact z.2
      · have : up s i p x 2 q = s 2 q := by
          by_cases a : i = 2
          · subst a; exact up_j (fun z => e ⟨rfl, z⟩)
          · exact up_k (Ne.symm a)
        rw [this]; exact g2
  · intro p' q hp hq
    rw [ep 3 p' (by omega), ep 3 q (by omega)]
    exact h4 p' q hp hq
  · intro m hm
    rw [ep 4 m (by omega), ep 5 m (by omega), ep 6 m (by omega), ep 7 m (by omega), ep 8 m (by omega)]
    exact h5 m hm
/-- slip, rule -/
theorem WF.upz {T : Nat} {s : Vs} {j : Nat} {x : Int32} (h : WF T s) (hj : (j = 2 ∧ ∃ k, k < 8 ∧ x = nI k) ∨ (j = 3 ∧ ∃ t, t < T ∧ x = nI t)) : WF T (up s 0 j x) := by
  obtain ⟨h1, h2, h3, h4, h5⟩ := h
  have e0 : ∀ b, b ≠ j → up s 0 j x 0 b = s 0 b := fun b hb => up_j hb
  have ep : ∀ a b, a ≠ 0 → up s 0 j x a b = s a b := fun a b ha => up_k ha
  unfold WF Apart KIND
  rw [vP_up0 (by omega), vL_up0 (by omega)]
  refine ⟨?_, ?_, ?_, ?_, ?_⟩
  · rw [e0 4 (by omega), e0 5 (by omega)]; exact h1
  · rcases hj with ⟨rfl, hj⟩ | ⟨rfl, hj⟩
    · rw [up_s, up_j (by decide)]; exact ⟨hj, h2.2⟩
    · rw [up_s, up_j (by decide)]; exact ⟨h2.1, hj⟩
  · intro p hp
    rw [ep 1 p (by omega), ep 2 p (by omega), ep 3 p (by omega)]
    exact h3 p hp
  · intro p q hp hq
    rw [ep 3 p (by omega), ep 3 q (by omega)]
    exact h4 p q hp hq
  · intro m hm
    rw [ep 4 m (by omega), ep 5 m (by omega), ep 6 m (by omega), ep 7 m (by omega), ep 8 m (by omega)]
    exact h5 m hm
/-- a change of the village of now, alike on both sides -/
theorem Rel.chg {T : Nat} {tx : Tx} {Mx Mr Mx' Mr' : Mm} {s : Vs} (hR : Rest T tx Mx Mr) (fx : FV 7 Mx Mx') (fr : RK Mr Mr') (ex : nx Mx' 7 = s) (em : nm Mr' = s) (hw : WF T s) (h6 : s 0 6 = 0) (hd : ∃ d, d ≤ 999 ∧ s 0 1 = nI d) : Rel Mx' Mr' :=
  ⟨T, tx, hR.keep (fx.xk (Or.inl rfl)) fr, by rw [ex, em], by rw [em]; exact hw, by rw [em]; exact h6, by rw [em]; exact hd⟩
