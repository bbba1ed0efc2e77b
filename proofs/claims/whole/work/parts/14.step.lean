/-! what holds of every village -/
def WF (T : Nat) (s : Vs) : Prop :=
  (s 0 4 = nI (vP s) ∧ vP s ≤ 5 ∧ s 0 5 = nI (vL s) ∧ vL s ≤ 8) ∧ ((∃ k, k < 8 ∧ s 0 2 = nI k) ∧ ∃ t, t < T ∧ s 0 3 = nI t) ∧
  (∀ p, p < vP s → KIND s p ∧ (∃ k, k < 10 ∧ s 2 p = nI k) ∧ ∃ k, k < 8 ∧ s 3 p = nI k) ∧ Apart s ∧
  ∀ l, l < vL s → (∃ a, a < vP s ∧ s 4 l = nI a) ∧ (∃ a, a < vP s ∧ s 5 l = nI a) ∧ (s 6 l = -1 ∨ ∃ k, k < 8 ∧ s 6 l = nI k) ∧ (∃ k, k < 100 ∧ s 7 l = nI k) ∧ ∃ k, k < 32 ∧ s 8 l = nI k
theorem WF.cv {T : Nat} {M : Mm} {v : Nat} (h : WF T (nx M v)) : CV M v (vP (nx M v)) (vL (nx M v)) := by
  obtain ⟨h1, h2, h3, h4⟩ := h.1
  rw [nx_0 (by omega)] at h1 h3
  exact ⟨h1, h2, h3, h4⟩
theorem WF.mv {T : Nat} {M : Mm} (h : WF T (nm M)) : MV M (vP (nm M)) (vL (nm M)) := by
  obtain ⟨h1, h2, h3, h4⟩ := h.1
  rw [nm_0.2.2.2.1] at h1
  rw [nm_0.2.2.2.2.1] at h3
  exact ⟨h1, h2, h3, h4⟩
theorem WF.rx {T : Nat} {M : Mm} {v : Nat} (h : WF T (nx M v)) : ∃ t, M v 3 = nI t ∧ t < T := by
  obtain ⟨t, h1, h2⟩ := h.2.1.2
  rw [nx_0 (by omega)] at h2
  exact ⟨t, h2, h1⟩
theorem WF.rm {T : Nat} {M : Mm} (h : WF T (nm M)) : ∃ t, M 0 4 = nI t ∧ t < T := by
  obtain ⟨t, h1, h2⟩ := h.2.1.2
  rw [nm_0.2.2.1] at h2
  exact ⟨t, h2, h1⟩
theorem vP_up {s : Vs} {i j : Nat} {x : Int32} (h : i ≠ 0) : vP (up s i j x) = vP s := by unfold vP; rw [up_k (Ne.symm h)]
theorem vL_up {s : Vs} {i j : Nat} {x : Int32} (h : i ≠ 0) : vL (up s i j x) = vL s := by unfold vL; rw [up_k (Ne.symm h)]
theorem vP_up0 {s : Vs} {j : Nat} {x : Int32} (h : j ≠ 4) : vP (up s 0 j x) = vP s := by unfold vP; rw [up_j (Ne.symm h)]
theorem vL_up0 {s : Vs} {j : Nat} {x : Int32} (h : j ≠ 5) : vL (up s 0 j x) = vL s := by unfold vL; rw [up_j (Ne.symm h)]
/-- a change of where, of tone, of who has read a letter -/
theorem WF.upl {T : Nat} {s : Vs} {i l : Nat} {x : Int32} (h : WF T s) (hi : (i = 6 ∧ (x = -1 ∨ ∃ k, k < 8 ∧ x = nI k)) ∨ (i = 7 ∧ ∃ k, k < 100 ∧ x = nI k) ∨ (i = 8 ∧ ∃ k, k < 32 ∧ x = nI k)) : WF T (up s i l x) := by
  have i0 : i ≠ 0 := by omega
  obtain ⟨h1, h2, h3, h4, h5⟩ := h
  have e0 : ∀ b, up s i l x 0 b = s 0 b := fun b => up_k (Ne.symm i0)
  have ep : ∀ a b, a ≤ 5 → up s i l x a b = s a b := fun a b ha => up_k (by omega)
  unfold WF Apart KIND
  rw [vP_up i0, vL_up i0]
  refine ⟨?_, ?_, ?_, ?_, ?_⟩
  · rw [e0, e0]; exact h1
  · rw [e0, e0]; exact h2
  · intro p hp
    rw [ep 1 p (by omega), ep 2 p (by omega), ep 3 p (by omega)]
    exact h3 p hp
  · intro p q hp hq
    rw [ep 3 p (by omega), ep 3 q (by omega)]
    exact h4 p q hp hq
  · intro m hm
    obtain ⟨g1, g2, g3, g4, g5⟩ := h5 m hm
    rw [ep 4 m (by omega), ep 5 m (by omega)]
    refine ⟨g1, g2, ?_, ?_, ?_⟩
    · by_cases e : i = 6 ∧ m = l
      · obtain ⟨rfl, rfl⟩ := e
        rw [up_s]
        rcases hi with q | q | q
        · exact q.2
        · exact absurd q.1 (by omega)
        · exact absurd q.1 (by omega)
      · have : up s i l x 6 m = s 6 m := by
          by_cases a : i = 6
          · subst a; exact up_j (fun z => e ⟨rfl, z⟩)
          · exact up_k (Ne.symm a)
        rw [this]; exact g3
    · by_cases e : i = 7 ∧ m = l
      · obtain ⟨rfl, rfl⟩ := e
        rw [up_s]
        rcases hi with q | q | q
        · exact absurd q.1 (by omega)
        · exact q.2
        · exact absurd q.1 (by omega)
      · have : up s i l x 7 m = s 7 m := by
          by_cases a : i = 7
          · subst a; exact up_j (fun z => e ⟨rfl, z⟩)
          · exact up_k (Ne.symm a)
        rw [this]; exact g4
    · by_cases e : i = 8 ∧ m = l
      · obtain ⟨rfl, rfl⟩ := e
        rw [up_s]
        rcases hi with q | q | q
        · exact absurd q.1 (by omega)
        · exact absurd q.1 (by omega)
        · exact q.2
      · have : up s i l x 8 m = s 8 m := by
          by_cases a : i = 8
          · subst a; exact up_j (fun z => e ⟨rfl, z⟩)
          · exact up_k (Ne.symm a)
        rw [this]; exact g5
/-- the day, the keeping: any -/
theorem WF.up0 {T : Nat} {s : Vs} {j : Nat} {x : Int32} (h : WF T s) (hj : j = 1 ∨ j = 6) : WF T (up s 0 j x) := by
  obtain ⟨h1, h2, h3, h4, h5⟩ := h
  have e0 : ∀ b, b ≠ j → up s 0 j x 0 b = s 0 b := fun b hb => up_j hb
  have ep : ∀ a b, a ≠ 0 → up s 0 j x a b = s a b := fun a b ha => up_k ha
  unfold WF Apart KIND
  rw [vP_up0 (by omega), vL_up0 (by omega)]
  refine ⟨?_, ?_, ?_, ?_, ?_⟩
  · rw [e0 4 (by omega), e0 5 (by omega)]; exact h1
  · rw [e0 2 (by omega), e0 3 (by omega)]; exact h2
  · intro p hp
    rw [ep 1 p (by omega), ep 2 p (by omega), ep 3 p (by omega)]
    exact h3 p hp
  · intro p q hp hq
    rw [ep 3 p (by omega), ep 3 q (by omega)]
    exact h4 p q hp hq
  · intro m hm
    rw [ep 4 m (by omega), ep 5 m (by omega), ep 6 m (by omega), ep 7 m (by omega), ep 8 m (by omega)]
    exact h5 m hm
/-! a letter's part of a day -/
def dnS (x : Int32) : Int32 := irm (x + 8 - 1) 8
theorem dn_all : ∀ k, k < 8 → dnS (nI k) = nI ((k + 7) % 8) := by decide +kernel
theorem rd_all : ∀ b, b < 32 → ∀ p, p < 5 → ∃ c, c < 32 ∧ (nI b ||| shl 1 (nI p)) = nI c := by
  have h : ∀ b, b < 32 → ∀ p, p < 5 → (nI b ||| shl 1 (nI p)) = nI (b ||| 2 ^ p) ∧ (b ||| 2 ^ p) < 32 := by decide +kernel
  intro b hb p hp
  exact ⟨_, (h b hb p hp).2, (h b hb p hp).1⟩
def stepS (tx : Tx) (s : Vs) (l : Nat) : Vs :=
  let w := whoS s (s 6 l)
  if w = -1 then up s 6 l (dnS (s 6 l)) else
    let s1 := up s 8 l (s 8 l ||| shl 1 w)
    if w = s 5 l then up s1 6 l (-1)
    else if carS tx s1 w.toNatClampNeg l = true then up (up s1 7 l (bndS 0 (s 7 l - sofS tx s1 w.toNatClampNeg l))) 6 l (dnS (s 6 l)) else s1
theorem WF.step {T : Nat} {tx : Tx} {s : Vs} {l : Nat} (h : WF T s) (hl : l < vL s) (ha : ¬ s 6 l = -1) : WF T (stepS tx s l) := by
  obtain ⟨-, -, g3, g4, k, k1, k2⟩ := h.2.2.2.2 l hl
  have h5 := h.1.2.1
  have hd : ∃ k, k < 8 ∧ dnS (s 6 l) = nI k := by
    obtain ⟨a, a1, a2⟩ := g3.resolve_left ha
    exact ⟨(a + 7) % 8, Nat.mod_lt _ (by decide), by rw [a2]; exact dn_all a a1⟩
  unfold stepS
  simp only []
  split
  · exact h.upl (Or.inl ⟨rfl, Or.inr hd⟩)
  · rename_i hw
    obtain ⟨p, p1, -, p2⟩ := whoS_in.resolve_left hw
    have h1 : WF T (up s 8 l (s 8 l ||| shl 1 (whoS s (s 6 l)))) := h.upl (Or.inr (Or.inr ⟨rfl, by rw [p2, k2]; exact rd_all k k1 p (by omega)⟩))
    split
    · exact h1.upl (Or.inl ⟨rfl, Or.inl rfl⟩)
    split
    · exact (h1.upl (Or.inr (Or.inl ⟨rfl, bnd_in⟩))).upl (Or.inl ⟨rfl, Or.inr hd⟩)
    · exact h1
theorem stepS_P {tx : Tx} {s : Vs} {l : Nat} : vP (stepS tx s l) = vP s ∧ vL (stepS tx s l) = vL s ∧ (∀ j, stepS tx s l 0 j = s 0 j) := by
  have z : ∀ (t : Vs) (i j : Nat) (x : Int32), i ≠ 0 → ∀ b, up t i j x 0 b = t 0 b := fun t i j x h b => up_k (Ne.symm h)
  have key : ∀ j, stepS tx s l 0 j = s 0 j := by
    intro j
    unfold stepS
    simp only []
    split
    · exact z _ _ _ _ (by decide) _
    split
    · rw [z _ _ _ _ (by decide), z _ _ _ _ (by decide)]
    split
    · rw [z _ _ _ _ (by decide), z _ _ _ _ (by decide), z _ _ _ _ (by decide)]
    · exact z _ _ _ _ (by decide) _
  exact ⟨by unfold vP; rw [key], by unfold vL; rw [key], key⟩
/-! the class -/
/-- what a village at v may change: itself, and the scratch -/
def FV (v : Nat) (M M' : Mm) : Prop := (∀ k, k ≠ 1 → k ≠ 4 → (k < v ∨ v + 8 < k) → M' k = M k) ∧ ∀ j, j = 0 ∨ 6 < j → M' 1 j = M 1 j
theorem FV.rf {v : Nat} {M : Mm} : FV v M M := ⟨fun _ _ _ _ => rfl, fun _ _ => rfl⟩
theorem FV.tr {v : Nat} {M M1 M2 : Mm} (h : FV v M M1) (g : FV v M1 M2) : FV v M M2 := ⟨fun k a b c => (g.1 k a b c).trans (h.1 k a b c), fun j a => (g.2 j a).trans (h.2 j a)⟩
theorem Fr.fv {v : Nat} {M M' : Mm} (h : Fr M M') : FV v M M' := ⟨fun k a b _ => h.1 k a b, h.2⟩
theorem FV.up {v i j : Nat} {M : Mm} {x : Int32} (hv : 7 ≤ v) (hi : i ≤ 8) : FV v M (up M (v + i) j x) := ⟨fun k _ _ c => by funext b; exact up_k (by omega), fun a _ => up_k (by omega)⟩
theorem FV.tx {v : Nat} {M M' : Mm} {T : Nat} {tx : Tx} (hv : 7 ≤ v) (h : TXx M T tx) (hf : FV v M M') : TXx M' T tx := by
  obtain ⟨h1, h2, h3⟩ := h
  refine ⟨by rw [hf.2 0 (by omega)]; exact h1, h2, fun N a b c => h3 N ?_ ?_ ?_⟩
  · rw [a, hf.2 0 (by omega)]
  · rw [b, hf.1 2 (by decide) (by decide) (by omega)]
  · rw [c, hf.1 3 (by decide) (by decide) (by omega)]
theorem vx_up {M : Mm} {v i j : Nat} {x : Int32} : vx (up M (v + i) j x) v = up (vx M v) i j x := by
  funext a b
  unfold vx up
  by_cases h : a = i
  · subst h; rw [if_pos rfl, if_pos rfl]
  · rw [if_neg (by omega), if_neg h]
theorem nx_up {M : Mm} {v i j P L : Nat} {x : Int32} (hc : CV M v P L) (h : (i = 0 ∧ 1 ≤ j ∧ j ≤ 6 ∧ j ≠ 4 ∧ j ≠ 5) ∨ (1 ≤ i ∧ i ≤ 3 ∧ j < P) ∨ (4 ≤ i ∧ i ≤ 8 ∧ j < L)) : nx (up M (v + i) j x) v = up (nx M v) i j x := by
  have e1 := hc.P
  have e2 := hc.L
  rw [nx, nrm_P] at e1
  rw [nx, nrm_L] at e2
  unfold nx
  rw [vx_up, nrm_up (by rw [e1, e2]; exact h)]
theorem x3_down {M : Mm} {v T l : Nat} {tx : Tx} (hv : 7 ≤ v) (hx : TXx M T tx) (hw : WF T (nx M v)) (hl : l < vL (nx M v)) (ha : ¬ nx M v 6 l = -1) : ∃ M', m_X3_goesDown v (nI l) M = some (b2i (decide (whoS (nx M v) (nx M v 6 l) = nx M v 5 l)), M') ∧ nx M' v = stepS tx (nx M v) l ∧ FV v M M' := by
  have hc := hw.cv
  have h8 := hc.2.2.2
  have h5 := hc.2.1
  have e6 := hc.q (i := 6) (by omega) (by omega) hl
  have e5 := hc.q (i := 5) (by omega) (by omega) hl
  have e8 := hc.q (i := 8) (by omega) (by omega) hl
  have e7 := hc.q (i := 7) (by omega) (by omega) hl
  have ic : (nI l).toNatClampNeg = l := nI_clamp (by omega)
  have iin : inr (nI l) 8 = true := inr_n (by omega) (by omega)
  have j101 : ∀ N : Mm, m_X3_goesDown_J101 v (nI l) N = some (0, up N (v + 6) l (dnS (N (v + 6) l))) := by
    intro N
    unfold m_X3_goesDown_J101
    rw [iin, gd_t, dec8, gd_t, gd_t, ic, lt1_d]
    rfl
  obtain ⟨-, ⟨b, b1, b2⟩, -⟩ := hw.2.2.2.2 l hl
  unfold m_X3_goesDown
  rw [x3_let_in hc hl, bd_s, if_neg one_ne0, iin, gd_t, ic, ← e6, if_neg ha, gd_t, x3_livesIn hc, bd_s, lt1_d]
  generalize hwn : whoS (nx M v) (nx M v 6 l) = w
  unfold stepS
  simp only [hwn]
  by_cases hn : w = -1
  · rw [if_pos hn, if_pos hn, j101]
    refine ⟨up M (v + 6) l (dnS (M (v + 6) l)), ?_, ?_, FV.up (i := 6) hv (by decide)⟩
    · rw [decide_eq_false (by rw [hn, b2]; exact fun z => nI_m1 (by omega) z.symm)]; rfl
    · rw [nx_up hc (by omega), e6]
  · rw [if_neg hn, if_neg hn, gd_t]
    obtain ⟨p, p1, -, p2⟩ := whoS_in.resolve_left (show ¬ whoS (nx M v) (nx M v 6 l) = -1 by rw [hwn]; exact hn)
    rw [hwn] at p2
    subst p2
    rw [gd_t, lt1_d, gd_t]
    have n1 : nx (up M (v + 8) l (M (v + 8) l ||| shl 1 (nI p))) v = up (nx M v) 8 l (nx M v 8 l ||| shl 1 (nI p)) := by rw [nx_up hc (by omega), e8]
    have f1 : FV v M (up M (v + 8) l (M (v + 8) l ||| shl 1 (nI p))) := FV.up (i := 8) hv (by decide)
    have r5 : up M (v + 8) l (M (v + 8) l ||| shl 1 (nI p)) (v + 5) l = nx M v 5 l := by rw [up_k (by omega), e5]
    have r6 : up M (v + 8) l (M (v + 8) l ||| shl 1 (nI p)) (v + 6) l = nx M v 6 l := by rw [up_k (by omega), e6]
    have r7 : up M (v + 8) l (M (v + 8) l ||| shl 1 (nI p)) (v + 7) l = nx M v 7 l := by rw [up_k (by omega), e7]
    have w1 : WF T (nx (up M (v + 8) l (M (v + 8) l ||| shl 1 (nI p))) v) := by
      rw [n1]
      obtain ⟨-, -, -, -, k, k1, k2⟩ := hw.2.2.2.2 l hl
      exact hw.upl (Or.inr (Or.inr ⟨rfl, by rw [k2]; exact rd_all k k1 p (by omega)⟩))
    have q1 : vP (nx (up M (v + 8) l (M (v + 8) l ||| shl 1 (nI p))) v) = vP (nx M v) := by rw [n1, vP_up (by omega)]
    have q2 : vL (nx (up M (v + 8) l (M (v + 8) l ||| shl 1 (nI p))) v) = vL (nx M v) := by rw [n1, vL_up (by omega)]
    generalize hM1 : up M (v + 8) l (M (v + 8) l ||| shl 1 (nI p)) = M1 at n1 f1 r5 r6 r7 w1 q1 q2 ⊢
    rw [r5]
    have x1 := FV.tx hv hx f1
    have c1 := w1.cv
    by_cases ht : nI p = nx M v 5 l
    · rw [if_pos ht, if_pos ht, gd_t, lt1_d]
      refine ⟨up M1 (v + 6) l (-1), ?_, ?_, f1.tr (FV.up (i := 6) hv (by decide))⟩
      · rw [decide_eq_true ht]; rfl
      · rw [nx_up c1 (by omega), n1]
    · rw [if_neg ht, if_neg ht]
      obtain ⟨M2, e2, f2⟩ := x3_carries x1 (by omega) c1 w1.rx (p := p) (l := l) (by omega) (by omega)
      rw [e2, bd_s]
      have n2 : nx M2 v = nx M1 v := f2.nxe (by omega)
      rw [n1] at n2 e2
      rw [n1, nI_clamp (show p < 2 ^ 31 by omega)]
      by_cases hca : carS tx (up (nx M v) 8 l (nx M v 8 l ||| shl 1 (nI p))) p l = true
      · rw [hca, b2i_t, if_neg one_ne0, if_pos rfl, gd_t]
        obtain ⟨M3, e3, f3⟩ := x3_softens (x1.fr f2) (by omega) (f2.cv (by omega) c1) (by rw [f2.at (by omega)]; exact w1.rx) (p := p) (l := l) (by omega) (by omega)
        rw [e3, bd_s, x3_bnd, bd_s, gd_t, lt1_d, j101, n2, f2.at (by omega), r7, up_k (by omega), f3.at (by omega), f2.at (by omega), r6]
        have c3 : CV M3 v (vP (nx M1 v)) (vL (nx M1 v)) := f3.cv (by omega) (f2.cv (by omega) c1)
        have n3 : nx M3 v = up (nx M v) 8 l (nx M v 8 l ||| shl 1 (nI p)) := by rw [f3.nxe (by omega), n2]
        have n4 : ∀ x, nx (up M3 (v + 7) l x) v = up (nx M3 v) 7 l x := fun x => nx_up c3 (by omega)
        have c4 : ∀ x, CV (up M3 (v + 7) l x) v (vP (nx M1 v)) (vL (nx M1 v)) := fun x => by
          unfold CV; rw [up_k (by omega), up_k (by omega)]; exact c3
        refine ⟨_, by rw [decide_eq_false ht]; rfl, ?_, ?_⟩
        · rw [nx_up (c4 _) (by omega), n4, n3]
        · exact ((f1.tr f2.fv).tr f3.fv).tr ((FV.up (i := 7) hv (by decide)).tr (FV.up (i := 6) hv (by decide)))
      · have hcf : carS tx (up (nx M v) 8 l (nx M v 8 l ||| shl 1 (nI p))) p l = false := by
          cases hh : carS tx (up (nx M v) 8 l (nx M v 8 l ||| shl 1 (nI p))) p l with
          | false => rfl
          | true => exact absurd hh hca
        rw [hcf, b2i_f, if_pos rfl, if_neg (by decide)]
        refine ⟨_, ?_, n2, f1.tr f2.fv⟩
        rw [decide_eq_false ht]; rfl
