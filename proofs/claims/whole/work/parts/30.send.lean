/-! a letter more -/
def addL (s : Vs) (f t a n r : Int32) : Vs := up (up (up (up (up (up s 4 (vL s) f) 5 (vL s) t) 6 (vL s) a) 7 (vL s) n) 8 (vL s) r) 0 5 (nI (vL s + 1))
theorem addL_L {s : Vs} {f t a n r : Int32} (hp : vL s < 8) : vL (addL s f t a n r) = vL s + 1 ∧ vP (addL s f t a n r) = vP s := by
  unfold addL
  refine ⟨?_, ?_⟩
  · show (up _ 0 5 _ 0 5).toNatClampNeg = _
    rw [up_s, nI_clamp (by omega)]
  · rw [vP_up0 (by decide), vP_up (by decide), vP_up (by decide), vP_up (by decide), vP_up (by decide), vP_up (by decide)]
theorem addL_0 {s : Vs} {f t a n r : Int32} {j : Nat} (hj : j ≠ 5) : addL s f t a n r 0 j = s 0 j := by
  unfold addL
  rw [up_j hj, up_k (by decide), up_k (by decide), up_k (by decide), up_k (by decide), up_k (by decide)]
theorem addL_5 {s : Vs} {f t a n r : Int32} : addL s f t a n r 0 5 = nI (vL s + 1) := up_s
theorem addL_p {s : Vs} {f t a n r : Int32} {i j : Nat} (h1 : 1 ≤ i) (hi : i ≤ 3 ∨ 8 < i) : addL s f t a n r i j = s i j := by
  unfold addL
  rw [up_k (by omega), up_k (by omega), up_k (by omega), up_k (by omega), up_k (by omega), up_k (by omega)]
theorem addL_r {s : Vs} {f t a n r : Int32} {i j : Nat} (h1 : 4 ≤ i) (h3 : i ≤ 8) : addL s f t a n r i j = if j = vL s then (if i = 4 then f else if i = 5 then t else if i = 6 then a else if i = 7 then n else r) else s i j := by
  unfold addL
  rw [up_k (by omega)]
  by_cases e : j = vL s
  · subst e
    rw [if_pos rfl]
    rcases (show i = 4 ∨ i = 5 ∨ i = 6 ∨ i = 7 ∨ i = 8 by omega) with rfl | rfl | rfl | rfl | rfl
    · rw [up_k (by decide), up_k (by decide), up_k (by decide), up_k (by decide), up_s, if_pos rfl]
    · rw [up_k (by decide), up_k (by decide), up_k (by decide), up_s, if_neg (by decide), if_pos rfl]
    · rw [up_k (by decide), up_k (by decide), up_s, if_neg (by decide), if_neg (by decide), if_pos rfl]
    · rw [up_k (by decide), up_s, if_neg (by decide), if_neg (by decide), if_neg (by decide), if_pos rfl]
    · rw [up_s, if_neg (by decide), if_neg (by decide), if_neg (by decide), if_neg (by decide)]
  · rw [if_neg e]
    have : ∀ (t : Vs) (a : Nat) (x : Int32), up t a (vL s) x i j = t i j := by
      intro t a x
      by_cases q : i = a
      · subst q; exact up_j e
      · exact up_k q
    rw [this, this, this, this, this]
theorem nrm_addL {s : Vs} {f t a n r : Int32} (hp : vL s < 8) : nrm (addL s f t a n r) = addL (nrm s) f t a n r := by
  obtain ⟨p1, p2⟩ := addL_L (s := s) (f := f) (t := t) (a := a) (n := n) (r := r) hp
  funext i j
  by_cases i0 : i = 0
  · subst i0
    by_cases j4 : j = 5
    · subst j4
      rw [nrm_0 (by omega), addL_5, addL_5, nrm_L]
    · rw [addL_0 j4]
      by_cases hj : 1 ≤ j ∧ j ≤ 6
      · rw [nrm_0 hj, nrm_0 hj, addL_0 j4]
      · simp [nrm, hj]
  · by_cases i3 : i ≤ 3
    · rw [addL_p (by omega) (Or.inl i3)]
      by_cases hj : j < vP s
      · rw [nrm_p (by omega) i3 (by omega), nrm_p (by omega) i3 hj, addL_p (by omega) (Or.inl i3)]
      · simp [nrm, i0, i3, p2, hj]
    · by_cases i8 : i ≤ 8
      · rw [addL_r (by omega) i8, nrm_L]
        by_cases hj : j < vL s + 1
        · rw [nrm_l (by omega) i8 (by omega), addL_r (by omega) i8]
          by_cases e : j = vL s
          · rw [if_pos e, if_pos e]
          · rw [if_neg e, if_neg e, nrm_l (by omega) i8 (by omega)]
        · rw [if_neg (by omega)]
          simp [nrm, i0, i3, i8, p1, hj, show ¬ j < vL s by omega]
      · rw [addL_p (by omega) (Or.inr (by omega))]
        simp [nrm, i0, i3, i8]
theorem nrm_out {s : Vs} {i j : Nat} {x : Int32} (h : 4 ≤ i ∧ i ≤ 8) (hj : vL s ≤ j) : nrm (up s i j x) = nrm s := by
  have eP : vP (up s i j x) = vP s := vP_up (by omega)
  have eL : vL (up s i j x) = vL s := vL_up (by omega)
  funext a b
  unfold nrm
  rw [eP, eL]
  by_cases a0 : a = 0
  · subst a0
    rw [if_pos rfl, if_pos rfl, up_k (by omega)]
  · rw [if_neg a0, if_neg a0]
    by_cases a3 : a ≤ 3
    · rw [if_pos a3, if_pos a3, up_k (by omega)]
    · rw [if_neg a3, if_neg a3]
      by_cases e : b < vL s
      · rw [if_pos e, if_pos e]
        have : up s i j x a b = s a b := by
          by_cases q : a = i
          · subst q; exact up_j (by omega)
          · exact up_k q
        rw [this]
      · rw [if_neg e, if_neg e]
def postS (tx : Tx) (s : Vs) (p q : Nat) : Vs := addL s (nI p) (nI q) (irm (s 3 q + s 0 2) 8) (wriS tx s p) (shl 1 (nI p))
theorem sh1_32 : ∀ p, p < 5 → ∃ k, k < 32 ∧ shl 1 (nI p) = nI k := by
  intro p hp
  exact ⟨2 ^ p, Nat.pow_lt_pow_right (n := 5) (by decide) hp, sh1P p (by omega)⟩
theorem WF.pst {T p q : Nat} {tx : Tx} {s : Vs} (hw : WF T s) (hp : p < vP s) (hq : q < vP s) (hl : vL s < 8) : WF T (postS tx s p q) := by
  obtain ⟨l1, l2⟩ := addL_L (s := s) (f := nI p) (t := nI q) (a := irm (s 3 q + s 0 2) 8) (n := wriS tx s p) (r := shl 1 (nI p)) hl
  obtain ⟨h1, h2, h3, h4, h5⟩ := hw
  unfold postS WF Apart KIND
  rw [l1, l2]
  refine ⟨⟨?_, h1.2.1, addL_5, by omega⟩, ?_, ?_, ?_, ?_⟩
  · rw [addL_0 (by decide)]; exact h1.1
  · rw [addL_0 (by decide), addL_0 (by decide)]; exact h2
  · intro m hm
    rw [addL_p (by decide) (by decide), addL_p (by decide) (by decide), addL_p (by decide) (by decide)]
    exact h3 m hm
  · intro m n hm hn
    rw [addL_p (by decide) (by decide), addL_p (by decide) (by decide)]
    exact h4 m n hm hn
  · intro m hm
    rw [addL_r (by decide) (by decide), addL_r (by decide) (by decide), addL_r (by decide) (by decide), addL_r (by decide) (by decide), addL_r (by decide) (by decide)]
    by_cases e : m = vL s
    · rw [if_pos e, if_pos e, if_pos e, if_pos e, if_pos e, if_pos rfl, if_neg (by decide), if_pos rfl, if_neg (by decide), if_neg (by decide), if_pos rfl, if_neg (by decide), if_neg (by decide), if_neg (by decide), if_pos rfl, if_neg (by decide), if_neg (by decide), if_neg (by decide), if_neg (by decide)]
      obtain ⟨k, k1, k2⟩ := (h3 q hq).2.2
      obtain ⟨b, b1, b2⟩ := h2.1
      refine ⟨⟨p, hp, rfl⟩, ⟨q, hq, rfl⟩, Or.inr ⟨(k + b) % 8, by omega, by rw [k2, b2, irm8 k k1 b b1]⟩, wri_in (h3 p hp).2.1, sh1_32 p (by omega)⟩
    · rw [if_neg e, if_neg e, if_neg e, if_neg e, if_neg e]
      exact h5 m (by omega)
theorem cv_pu {M : Mm} {v P L k j : Nat} {x : Int32} (h : CV M v P L) (hk : k ≠ v) : CV (up M k j x) v P L := by
  unfold CV; rw [up_k hk.symm, up_k hk.symm]; exact h
theorem x3_post {M : Mm} {v T p q : Nat} {tx : Tx} (hv : 7 ≤ v) (hx : TXx M T tx) (hw : WF T (nx M v)) (hp : p < vP (nx M v)) (hq : q < vP (nx M v)) (hl : vL (nx M v) < 8) : ∃ M', m_X3_post v (nI p) (nI q) M = some (nI (vL (nx M v)), M') ∧ nx M' v = postS tx (nx M v) p q ∧ FV v M M' := by
  have hc := hw.cv
  have h5 := hc.2.1
  have eL : vL (vx M v) = vL (nx M v) := by unfold nx; rw [nrm_L]
  generalize hL : vL (nx M v) = L at *
  have hat : M (v + 3) q = nx M v 3 q := (hc.r (by omega) (by omega) hq).symm
  have hsl : M v 2 = nx M v 0 2 := (nx_0 (by omega)).symm
  generalize hM2 : up M (v + 4) L (nI p) = M2
  generalize hM3 : up M2 (v + 5) L (nI q) = M3
  have c2 : CV M2 v (vP (nx M v)) L := by rw [← hM2]; exact cv_pu hc (by omega)
  have c3 : CV M3 v (vP (nx M v)) L := by rw [← hM3]; exact cv_pu c2 (by omega)
  generalize hM6 : up M3 (v + 6) L (irm (M (v + 3) q + M v 2) 8) = M6
  have c6 : CV M6 v (vP (nx M v)) L := by rw [← hM6]; exact cv_pu c3 (by omega)
  have f6 : FV v M M6 := by
    rw [← hM6, ← hM3, ← hM2]
    exact ((FV.up hv (by omega)).tr (FV.up hv (by omega))).tr (FV.up hv (by omega))
  have v6 : vx M6 v = up (up (up (vx M v) 4 L (nI p)) 5 L (nI q)) 6 L (irm (M (v + 3) q + M v 2) 8) := by rw [← hM6, ← hM3, ← hM2, vx_up, vx_up, vx_up]
  have n6 : nx M6 v = nx M v := by
    unfold nx
    rw [v6, nrm_out (by omega) (by rw [vL_up (by decide), vL_up (by decide)]; omega), nrm_out (by omega) (by rw [vL_up (by decide)]; omega), nrm_out (by omega) (by omega)]
  have r6 : ∃ t, M6 v 3 = nI t ∧ t < T := by
    have := hw.rx
    rw [← hM6, up_k (by omega), ← hM3, up_k (by omega), ← hM2, up_k (by omega)]
    exact this
  obtain ⟨M7, w1, w2⟩ := x3_writes (FV.tx hv hx f6) (by omega) c6 r6 hp
  rw [n6] at w1
  have v7 : vx M7 v = vx M6 v := by funext i j; exact w2.at (by omega)
  have e3 : M3 (v + 3) q = M (v + 3) q := by rw [← hM3, up_k (by omega), ← hM2, up_k (by omega)]
  have e2 : M3 v 2 = M v 2 := by rw [← hM3, up_k (by omega), ← hM2, up_k (by omega)]
  have e5 : up (up M7 (v + 7) L (wriS tx (nx M v) p)) (v + 8) L (shl 1 (nI p)) v 5 = nI L := by
    rw [up_k (by omega), up_k (by omega), w2.at (by omega)]; exact c6.2.2.1
  refine ⟨up (up (up M7 (v + 7) L (wriS tx (nx M v) p)) (v + 8) L (shl 1 (nI p))) (v + 0) 5 (nI (L + 1)), ?_, ?_, ?_⟩
  · unfold m_X3_post
    rw [hc.2.2.1, lt1_d, if_neg (nI_pos (by omega)), if_pos (show nI L < (8 : Int32) from nI_lt (b := 8) (by omega) (by omega)), inr_n hl (by omega), gd_t, lt1_d, gd_t, lt1_d, nI_clamp (by omega), hM2, hM3, (x3_of_one c3 hq).2.2, bd_s, dec8', gd_t, gd_t, lt1_d, e3, e2, hM6, w1, bd_s, gd_t, lt1_d, gd_t, lt1_d, lt1_d, e5, nI_1]
    rfl
  · show nrm (vx _ v) = _
    rw [vx_up, vx_up, vx_up, v7, v6]
    have : up (up (up (up (up (up (vx M v) 4 L (nI p)) 5 L (nI q)) 6 L (irm (M (v + 3) q + M v 2) 8)) 7 L (wriS tx (nx M v) p)) 8 L (shl 1 (nI p))) 0 5 (nI (L + 1)) = addL (vx M v) (nI p) (nI q) (irm (M (v + 3) q + M v 2) 8) (wriS tx (nx M v) p) (shl 1 (nI p)) := by
      unfold addL
      rw [eL]
    rw [this, nrm_addL (by omega), hat, hsl]
    rfl
  · exact (f6.tr w2.fv).tr (((FV.up hv (by omega)).tr (FV.up hv (by omega))).tr (FV.up hv (by omega)))
theorem x3_post_full {M : Mm} {v P : Nat} {x y : Int32} (hc : CV M v P 8) : m_X3_post v x y M = some (-4, M) := by
  unfold m_X3_post
  rw [hc.2.2.1, lt1_d, if_neg (nI_pos (by omega)), if_neg (by decide)]
/-- the reference: what is changed by a letter more -/
def SF (L : Nat) (M M' : Mm) : Prop := (∀ k, k ≠ 0 → k ≠ 5 → M' k = M k) ∧ (∀ j, (j < 14 ∨ 28 < j) → j ≠ 12 → M' 0 j = M 0 j) ∧ M' 0 12 = nI (L + 1) ∧ ∀ j, j < 5 * L → M' 5 j = M 5 j
theorem SF.hv {L : Nat} {M M' : Mm} (h : SF L M M') : HV M M' := ⟨h.1, fun j a _ c => h.2.1 j a c⟩
theorem x5_sends {M : Mm} {T p q : Nat} {tx : Tx} (hx : TXm M T tx) (hw : WF T (nm M)) (hp : p < vP (nm M)) (hq : q < vP (nm M)) (hl : vL (nm M) < 8) : ∃ M', m_X5_sends (nI p) (nI q) M = some ((), M') ∧ nm M' = postS tx (nm M) p q ∧ SF (vL (nm M)) M M' := by
  have hc := hw.mv
  have h5 := hc.2.1
  obtain ⟨M2, w1, w2⟩ := x5_writes hx hc hw.rm hp (hw.2.2.1 p hp).1
  have eL : vL (vm M) = vL (nm M) := by unfold nm; rw [nrm_L]
  have n2 : nm M2 = nm M := w2.nme
  have eL2 : vL (vm M2) = vL (nm M) := by have : vL (nrm (vm M2)) = vL (nm M) := by rw [← n2]; rfl
                                          rw [nrm_L] at this; exact this
  generalize hL : vL (nm M) = L at *
  have hat : M2 4 (3 * q + 2) = nm M 3 q := by rw [w2.at (by decide), (hc.r hq).2.2]
  have hsl : M2 0 8 = nm M 0 2 := by rw [w2.2 8 (by omega), (nm_0 (M := M)).2.1]
  have h12 : M2 0 12 = nI L := by rw [w2.2 12 (by omega)]; exact hc.2.2.1
  generalize hM4 : up M2 5 (5 * L) (wriS tx (nm M) p) = M4
  generalize hM5 : up M4 5 (5 * L + 1) (nI p) = M5
  generalize hM6 : up M5 5 (5 * L + 2) (nI q) = M6
  have e4 : M6 4 (3 * q + 2) = nm M 3 q := by rw [← hM6, up_k (by decide), ← hM5, up_k (by decide), ← hM4, up_k (by decide), hat]
  have e8 : M6 0 8 = nm M 0 2 := by rw [← hM6, up_k (by decide), ← hM5, up_k (by decide), ← hM4, up_k (by decide), hsl]
  generalize hM7 : up M6 5 (5 * L + 3) (irm (nm M 3 q + nm M 0 2) 8) = M7
  generalize hM8 : up M7 5 (5 * L + 4) (shl 1 (nI p)) = M8
  have e0 : ∀ k j, k ≠ 5 → M8 k j = M2 k j := by
    intro k j hk
    rw [← hM8, up_k hk, ← hM7, up_k hk, ← hM6, up_k hk, ← hM5, up_k hk, ← hM4, up_k hk]
  refine ⟨up M8 0 12 (nI (L + 1)), ?_, ?_, ?_, ?_, up_s, ?_⟩
  · unfold m_X5_sends
    rw [hc.2.2.1, lt1_d, w1, bd_s, pl5, pla1, pla2, pla3, pla4, inr_n (show 5 * L < 40 by omega) (by omega), gd_t, lt1_d, nI_clamp (show 5 * L < 2 ^ 31 by omega), hM4, inr_n (show 5 * L + 1 < 40 by omega) (by omega), gd_t, lt1_d, nI_clamp (show 5 * L + 1 < 2 ^ 31 by omega), hM5, inr_n (show 5 * L + 2 < 40 by omega) (by omega), gd_t, lt1_d, nI_clamp (show 5 * L + 2 < 2 ^ 31 by omega), hM6, pl3, pla2, inr_n (show 3 * q + 2 < 15 by omega) (by omega), gd_t, dec8', gd_t, inr_n (show 5 * L + 3 < 40 by omega) (by omega), gd_t, lt1_d, nI_clamp (show 5 * L + 3 < 2 ^ 31 by omega), nI_clamp (show 3 * q + 2 < 2 ^ 31 by omega), e4, e8, hM7, inr_n (show 5 * L + 4 < 40 by omega) (by omega), gd_t, lt1_d, nI_clamp (show 5 * L + 4 < 2 ^ 31 by omega), hM8, lt1_d, e0 0 12 (by decide), h12, nI_1]
  · show nrm (vm _) = _
    have : vm (up M8 0 12 (nI (L + 1))) = addL (vm M2) (nI p) (nI q) (irm (nm M 3 q + nm M 0 2) 8) (wriS tx (nm M) p) (shl 1 (nI p)) := by
      have z0 := vm_up (M := M2) (l := L) (c := 0) (r := 7) (x := wriS tx (nm M) p) (by omega)
      rw [Nat.add_zero] at z0
      unfold addL
      rw [vm_up0 (r := 5) (by omega), ← hM8, vm_up (c := 4) (r := 8) (by omega), ← hM7, vm_up (c := 3) (r := 6) (by omega), ← hM6, vm_up (c := 2) (r := 5) (by omega), ← hM5, vm_up (c := 1) (r := 4) (by omega), ← hM4, z0, eL2, up_ck (show (7 : Nat) ≠ 4 by decide), up_ck (show (7 : Nat) ≠ 5 by decide), up_ck (show (7 : Nat) ≠ 6 by decide)]
    rw [this, nrm_addL (by omega)]
    show addL (nm M2) _ _ _ _ _ = _
    rw [n2]
    rfl
  · intro k k0 k5
    funext j
    rw [up_k k0, e0 k j k5, w2.at k0]
  · intro j hj h
    rw [up_j h, e0 0 j (by decide), w2.2 j hj]
  · intro j hj
    rw [up_k (by decide), ← hM8, up_j (by omega), ← hM7, up_j (by omega), ← hM6, up_j (by omega), ← hM5, up_j (by omega), ← hM4, up_j (by omega), w2.at (by decide)]
/-- two that are there -/
theorem two_R {A R : Mm} {v P L L' : Nat} (cx : CV A v P L) (cm : MV R P L') (x y : Int32) : (m_X3_areTwo v x y A = some (0, A) ∧ m_X5_areTwo x y R = some (0, R)) ∨ ∃ p q, p < P ∧ q < P ∧ x = nI p ∧ y = nI q ∧ p ≠ q ∧ m_X3_areTwo v x y A = some (1, A) ∧ m_X5_areTwo x y R = some (1, R) := by
  have h5 := cx.2.1
  unfold m_X3_areTwo m_X5_areTwo
  rcases ix_cases x P (by omega) with q | ⟨p, p1, rfl⟩
  · rw [x3_one_out cx q, x5_one_out cm q, bd_s, bd_s, if_pos rfl, if_pos rfl]
    exact Or.inl ⟨rfl, rfl⟩
  rw [x3_one_in cx p1, x5_one_in cm p1, bd_s, bd_s, if_neg one_ne0, if_neg one_ne0]
  rcases ix_cases y P (by omega) with r | ⟨q, q1, rfl⟩
  · rw [x3_one_out cx r, x5_one_out cm r, bd_s, bd_s, if_pos rfl, if_pos rfl]
    exact Or.inl ⟨rfl, rfl⟩
  rw [x3_one_in cx q1, x5_one_in cm q1, bd_s, bd_s, if_neg one_ne0, if_neg one_ne0]
  by_cases e : nI p = nI q
  · rw [if_pos e, if_pos e]
    exact Or.inl ⟨rfl, rfl⟩
  · rw [if_neg e, if_neg e]
    exact Or.inr ⟨p, q, p1, q1, rfl, rfl, fun z => e (by rw [z]), rfl, rfl⟩
theorem call_send {Mx Mr : Mm} (h : Rel Mx Mr) (x y : Int32) : Ans (m_X4_send x y Mx) (m_X5_send x y Mr) := by
  obtain ⟨T, tx, hR, hV⟩ := id h
  obtain ⟨v1, v2, v3, hdd⟩ := id hV
  have hw : WF T (nx Mx 7) := by rw [v1]; exact v2
  have cx := hV.cx
  have cm := hV.cm
  have h5 := cm.2.1
  have h8 := cm.2.2.2
  unfold m_X4_send m_X5_send
  rcases two_R cx cm x y with ⟨a, b⟩ | ⟨p, q, p1, q1, rfl, rfl, hpq, a, b⟩
  · rw [a, b, bd_s, bd_s, if_pos rfl, if_pos rfl]
    exact ⟨_, _, _, rfl, rfl, h⟩
  rw [a, b, bd_s, bd_s, if_neg one_ne0, if_neg one_ne0, cm.2.2.1]
  by_cases e : vL (nm Mr) = 8
  · rw [if_pos (by rw [e]; rfl), x3_post_full (by rw [← e]; exact cx), bd_s]
    exact ⟨_, _, _, rfl, rfl, h⟩
  · rw [if_neg (show ¬ nI (vL (nm Mr)) = (8 : Int32) from fun z => e ((nI_eq (b := 8) (by omega) (by omega)).mp z))]
    obtain ⟨A, a1, a2, a3⟩ := x3_post (v := 7) (p := p) (q := q) (by omega) hR.1.1 hw (by rw [v1]; exact p1) (by rw [v1]; exact q1) (by rw [v1]; omega)
    obtain ⟨R, b1, b2, b3⟩ := x5_sends (p := p) (q := q) hR.1.2 v2 p1 q1 (by omega)
    rw [v1] at a1 a2
    rw [a1, b1, bd_s, bd_s, b3.2.2.1, nI_pred]
    exact ⟨_, _, _, rfl, rfl, Rel.chg hR a3 b3.hv.rk a2 b2 (v2.pst p1 q1 (by omega)) (by unfold postS; rw [addL_0 (by decide)]; exact v3) (by unfold postS; rw [addL_0 (by decide)]; exact hdd)⟩
