/-! the reference's step -/
theorem up_self {M : Mm} {k j : Nat} : up M k j (M k j) = M := by
  funext a b
  unfold up
  split
  · rename_i h; subst h
    split
    · rename_i h; subst h; rfl
    · rfl
  · rfl
theorem vm_up {M : Mm} {l c r : Nat} {x : Int32} (h : (c = 0 ∧ r = 7) ∨ (c = 1 ∧ r = 4) ∨ (c = 2 ∧ r = 5) ∨ (c = 3 ∧ r = 6) ∨ (c = 4 ∧ r = 8)) : vm (up M 5 (5 * l + c) x) = up (vm M) r l x := by
  have z : ∀ a b, a ≠ 5 → up M 5 (5 * l + c) x a b = M a b := fun a b q => up_k q
  have e5 : ∀ (d r' j : Nat), (d = c ↔ r' = r) → d ≤ 4 → vm M r' j = M 5 (5 * j + d) → up M 5 (5 * l + c) x 5 (5 * j + d) = up (vm M) r l x r' j := by
    intro d r' j hd h4 hv
    have hc : c ≤ 4 := by omega
    by_cases q : d = c
    · have q2 := hd.mp q
      subst q q2
      by_cases w : j = l
      · subst w; rw [up_s, up_s]
      · rw [up_j (by omega), up_j w, hv]
    · have q2 : ¬ r' = r := fun t => q (hd.mpr t)
      rw [up_j (by omega), up_k q2, hv]
  funext i j
  match i with
  | 0 =>
    rw [up_k (by omega)]
    unfold vm
    simp only []
    split <;> first | exact z _ _ (by decide) | rfl
  | 1 => rw [up_k (by omega)]; exact z _ _ (by decide)
  | 2 => rw [up_k (by omega)]; exact z _ _ (by decide)
  | 3 => rw [up_k (by omega)]; exact z _ _ (by decide)
  | 4 => exact e5 1 4 j (by omega) (by omega) rfl
  | 5 => exact e5 2 5 j (by omega) (by omega) rfl
  | 6 => exact e5 3 6 j (by omega) (by omega) rfl
  | 7 => exact e5 0 7 j (by omega) (by omega) rfl
  | 8 => exact e5 4 8 j (by omega) (by omega) rfl
  | n + 9 => rw [up_k (by omega)]; rfl
theorem nm_up {M : Mm} {P L l c r : Nat} {x : Int32} (hc : MV M P L) (hl : l < L) (h : (c = 0 ∧ r = 7) ∨ (c = 1 ∧ r = 4) ∨ (c = 2 ∧ r = 5) ∨ (c = 3 ∧ r = 6) ∨ (c = 4 ∧ r = 8)) : nm (up M 5 (5 * l + c) x) = up (nm M) r l x := by
  have e2 := hc.L
  rw [nm, nrm_L] at e2
  unfold nm
  rw [vm_up h, nrm_up (by omega)]
/-- what the post and days may change: the post, the day, the number of letters, and the scratch -/
def HV (M M' : Mm) : Prop := (∀ k, k ≠ 0 → k ≠ 5 → M' k = M k) ∧ ∀ j, j < 14 ∨ 28 < j → j ≠ 7 → j ≠ 12 → M' 0 j = M 0 j
theorem HV.rf {M : Mm} : HV M M := ⟨fun _ _ _ => rfl, fun _ _ _ _ => rfl⟩
theorem HV.tr {M M1 M2 : Mm} (h : HV M M1) (g : HV M1 M2) : HV M M2 := ⟨fun k a b => (g.1 k a b).trans (h.1 k a b), fun j a b c => (g.2 j a b c).trans (h.2 j a b c)⟩
theorem Gr.hv {M M' : Mm} (h : Gr M M') : HV M M' := ⟨fun k a _ => h.1 k a, fun j a _ _ => h.2 j a⟩
theorem HV.put {M : Mm} {j : Nat} {x : Int32} : HV M (up M 5 j x) := ⟨fun k _ b => by funext c; exact up_k b, fun a _ _ _ => up_k (by decide)⟩
theorem HV.put0 {M : Mm} {j : Nat} {x : Int32} (h : j = 7 ∨ j = 12) : HV M (up M 0 j x) := ⟨fun k a _ => by funext c; exact up_k a, fun a _ b c => up_j (by omega)⟩
theorem HV.tx {M M' : Mm} {T : Nat} {tx : Tx} (h : TXm M T tx) (hf : HV M M') : TXm M' T tx := by
  obtain ⟨h1, h2, h3⟩ := h
  refine ⟨by rw [hf.2 3 (by omega) (by omega) (by omega)]; exact h1, h2, fun N a b c => h3 N ?_ ?_ ?_⟩
  · rw [a, hf.2 3 (by omega) (by omega) (by omega)]
  · rw [b, hf.1 1 (by decide) (by decide)]
  · rw [c, hf.1 2 (by decide) (by decide)]
theorem mv_up {M : Mm} {P L j : Nat} {x : Int32} (h : MV M P L) : MV (up M 5 j x) P L := by
  unfold MV
  rw [up_k (by decide), up_k (by decide)]
  exact h
theorem x5_step {M : Mm} {T l : Nat} {tx : Tx} (hx : TXm M T tx) (hw : WF T (nm M)) (hl : l < vL (nm M)) (ha : ¬ nm M 6 l = -1) : ∃ M', m_X5_steps (nI l) M = some ((), M') ∧ nm M' = stepS tx (nm M) l ∧ HV M M' := by
  have hc := hw.mv
  have h8 := hc.2.2.2
  have h5 := hc.2.1
  obtain ⟨e4, e5, e6, e7, e8⟩ := hc.q hl
  have i3 : inr (nI (5 * l + 3)) 40 = true := inr_n (by omega) (by omega)
  have i4 : inr (nI (5 * l + 4)) 40 = true := inr_n (by omega) (by omega)
  have i2 : inr (nI (5 * l + 2)) 40 = true := inr_n (by omega) (by omega)
  have i0 : inr (nI (5 * l)) 40 = true := inr_n (by omega) (by omega)
  have c3 : (nI (5 * l + 3)).toNatClampNeg = 5 * l + 3 := nI_clamp (by omega)
  have c4 : (nI (5 * l + 4)).toNatClampNeg = 5 * l + 4 := nI_clamp (by omega)
  have c2 : (nI (5 * l + 2)).toNatClampNeg = 5 * l + 2 := nI_clamp (by omega)
  have c0 : (nI (5 * l)).toNatClampNeg = 5 * l := nI_clamp (by omega)
  obtain ⟨-, ⟨b, b1, b2⟩, -, -, k, k1, k2⟩ := hw.2.2.2.2 l hl
  have body : m_X5_steps (nI l) M = m_X5_steps_J56 (nI l) (nI (5 * l)) (whoS (nm M) (nm M 6 l)) (dnS (nm M 6 l)) (if whoS (nm M) (nm M 6 l) = -1 then 0 else shl 1 (whoS (nm M) (nm M 6 l))) (nm M 8 l) (nI (5 * l + 4)) M := by
    unfold m_X5_steps
    rw [pl5, lt1_d, pla3, i3, gd_t, c3, ← e6, x5_whoIn hc hw.2.2.2.1, bd_s, lt1_d, gd_t, dec8, gd_t, lt1_d, pla4, i4, gd_t, c4, ← e6, ← e8]
    split
    · rfl
    · rfl
  rw [body]
  unfold m_X5_steps_J56
  rw [i4, gd_t, c4, lt1_d, pla3, i3, gd_t, gd_t, c3, pla2, i2, gd_t, c2, i0, c0]
  generalize hwn : whoS (nm M) (nm M 6 l) = w
  unfold stepS
  simp only [hwn]
  by_cases hn : w = -1
  · rw [if_pos hn, if_pos hn, if_pos hn, or_0, e8, up_self, lt1_d]
    refine ⟨up M 5 (5 * l + 3) (dnS (nm M 6 l)), rfl, ?_, HV.put⟩
    rw [nm_up (c := 3) (r := 6) hc hl (by omega)]
  · rw [if_neg hn, if_neg hn, if_neg hn]
    obtain ⟨p, p1, -, p2⟩ := whoS_in.resolve_left (show ¬ whoS (nm M) (nm M 6 l) = -1 by rw [hwn]; exact hn)
    rw [hwn] at p2
    subst p2
    have n1 : nm (up M 5 (5 * l + 4) (nm M 8 l ||| shl 1 (nI p))) = up (nm M) 8 l (nm M 8 l ||| shl 1 (nI p)) := nm_up hc hl (by omega)
    have f1 : HV M (up M 5 (5 * l + 4) (nm M 8 l ||| shl 1 (nI p))) := HV.put
    have r2 : up M 5 (5 * l + 4) (nm M 8 l ||| shl 1 (nI p)) 5 (5 * l + 2) = nm M 5 l := by rw [up_j (by omega), e5]
    have r0 : up M 5 (5 * l + 4) (nm M 8 l ||| shl 1 (nI p)) 5 (5 * l) = nm M 7 l := by rw [up_j (by omega), e7]
    have w1 : WF T (nm (up M 5 (5 * l + 4) (nm M 8 l ||| shl 1 (nI p)))) := by
      rw [n1]
      exact hw.upl (Or.inr (Or.inr ⟨rfl, by rw [k2]; exact rd_all k k1 p (by omega)⟩))
    have q1 : vP (nm (up M 5 (5 * l + 4) (nm M 8 l ||| shl 1 (nI p)))) = vP (nm M) := by rw [n1, vP_up (by omega)]
    have q2 : vL (nm (up M 5 (5 * l + 4) (nm M 8 l ||| shl 1 (nI p)))) = vL (nm M) := by rw [n1, vL_up (by omega)]
    generalize hM1 : up M 5 (5 * l + 4) (nm M 8 l ||| shl 1 (nI p)) = M1 at n1 f1 r2 r0 w1 q1 q2 ⊢
    rw [r2]
    have x1 := HV.tx hx f1
    have d1 := w1.mv
    by_cases ht : nI p = nm M 5 l
    · rw [if_pos ht, if_pos ht, lt1_d]
      refine ⟨up M1 5 (5 * l + 3) (-1), rfl, ?_, f1.tr HV.put⟩
      rw [nm_up (c := 3) (r := 6) d1 (by omega) (by omega), n1]
    · rw [if_neg ht, if_neg ht]
      have kd := (w1.2.2.1 p (by omega)).1
      have rb : READB (nm M1) l := by
        obtain ⟨-, -, -, -, z, z1, z2⟩ := w1.2.2.2.2 l (by omega)
        exact ⟨z, by omega, z2⟩
      obtain ⟨M2, e2, f2⟩ := x5_carries x1 d1 w1.rm (p := p) (l := l) (by omega) (by omega) kd rb
      rw [e2, bd_s]
      have n2 : nm M2 = nm M1 := f2.nme
      rw [n1] at n2 e2
      rw [n1, nI_clamp (show p < 2 ^ 31 by omega)]
      by_cases hca : carS tx (up (nm M) 8 l (nm M 8 l ||| shl 1 (nI p))) p l = true
      · rw [hca, b2i_t, if_neg one_ne0, if_pos rfl]
        have kd2 : KIND (nm M2) p := by rw [n2, ← n1]; exact kd
        have rb2 : READB (nm M2) l := by rw [n2, ← n1]; exact rb
        obtain ⟨M3, e3, f3⟩ := x5_softens (x1.gr f2) (f2.mv d1) (by rw [f2.2 4 (by omega)]; exact w1.rm) (p := p) (l := l) (by omega) (by omega) kd2 rb2
        rw [gd_t, e3, bd_s, x5_wi (by decide), bd_s, gd_t, lt1_d, gd_t, lt1_d, n2, f2.at (by decide), r0]
        have d3 : MV M3 (vP (nm M1)) (vL (nm M1)) := f3.mv (f2.mv d1)
        have n3 : nm M3 = up (nm M) 8 l (nm M 8 l ||| shl 1 (nI p)) := by rw [f3.nme, n2]
        have n4 : ∀ x, nm (up M3 5 (5 * l) x) = up (nm M3) 7 l x := fun x => nm_up (c := 0) d3 (by omega) (by omega)
        refine ⟨_, rfl, ?_, ?_⟩
        · rw [nm_up (c := 3) (r := 6) (mv_up d3) (by omega) (by omega), n4, n3]
        · exact ((f1.tr f2.hv).tr f3.hv).tr (HV.put.tr HV.put)
      · have hcf : carS tx (up (nm M) 8 l (nm M 8 l ||| shl 1 (nI p))) p l = false := by
          cases hh : carS tx (up (nm M) 8 l (nm M 8 l ||| shl 1 (nI p))) p l with
          | false => rfl
          | true => exact absurd hh hca
        rw [hcf, b2i_f, if_pos rfl, if_neg (by decide)]
        exact ⟨_, rfl, n2, f1.tr f2.hv⟩
