/-! THE START: what the Statement gives -/
theorem arr_K {s : State} {args : Array Value} {t : FieldType} (ht : t = .int ∨ t = .boolean) (h : (Cond.arrayClass t).before args s = true) : ∃ c : ClassId, ArrOfT s c t ∧ va_RA s c t := by
  obtain ⟨c, k, comp, h1, h2, h3⟩ := Cond.arrayClass_spec h
  refine ⟨c, fun N z => ⟨(fun k h => by cases h), k, h2, comp, h3⟩, ?_⟩
  rcases ht with rfl | rfl
  · exact h1
  · exact h1
theorem arr_Q {s : State} {args : Array Value} {C : String} (h : (Cond.arrayOver (.object C)).before args s = true) : ∃ c : ClassId, ArrOfT s c (.object C) ∧ va_RA s c (.object C) := by
  obtain ⟨comp, c, k, h1, h2, h3, h4, h5⟩ := Cond.arrayOver_spec h
  exact ⟨c, fun N z => ⟨(fun k h => by cases h), k, h3, comp, h4⟩, k, comp, h3, h4, h1, h5⟩
theorem start_K {s : State} {args : Array Value} (hts : ∀ w ∈ lw_tbl, w.before args s = true) : ∃ (D : va_G) (cI cZ cQ : ClassId), va_K D vwCl [(cI, .int), (cZ, .boolean), (cQ, .object RX0)] s := by
  have hg : ∀ w ∈ gT, w.before args s = true := fun w hw => hts w (List.mem_filter.mp hw).1
  obtain ⟨c0, i0, k0⟩ := u_known (n := 3) hg in_X0 (hts _ (List.mem_of_getElem? (i := 398) (by decide +kernel)))
  obtain ⟨c1, i1, k1⟩ := u_known (n := 8) hg in_X1 (hts _ (List.mem_of_getElem? (i := 142) (by decide +kernel)))
  obtain ⟨c2, i2, k2⟩ := u_known (n := 11) hg in_X2 (hts _ (List.mem_of_getElem? (i := 94) (by decide +kernel)))
  obtain ⟨c3, i3, k3⟩ := u_known (n := 15) hg in_X3 (hts _ (List.mem_of_getElem? (i := 338) (by decide +kernel)))
  obtain ⟨c4, i4, k4⟩ := u_known (n := 8) hg in_X4 (hts _ (List.mem_of_getElem? (i := 86) (by decide +kernel)))
  obtain ⟨c5, i5, k5⟩ := u_known (n := 44) hg in_X5 (hts _ (List.mem_of_getElem? (i := 838) (by decide +kernel)))
  obtain ⟨cI, hI⟩ := arr_K (t := .int) (Or.inl rfl) (hts _ (List.mem_of_getElem? (i := 140) (by decide +kernel)))
  obtain ⟨cZ, hZ⟩ := arr_K (t := .boolean) (Or.inr rfl) (hts _ (List.mem_of_getElem? (i := 979) (by decide +kernel)))
  obtain ⟨cQ, hQ⟩ := arr_Q (C := RX0) (hts _ (List.mem_of_getElem? (i := 397) (by decide +kernel)))
  refine ⟨(fun c => [c0, c1, c2, c3, c4, c5].getD c c0, fun c => [i0, i1, i2, i3, i4, i5].getD c i0), cI, cZ, cQ, fun c q hq => ?_, fun k q hq => ?_⟩
  · match c, hq with
    | 0, h => cases h; exact k0
    | 1, h => cases h; exact k1
    | 2, h => cases h; exact k2
    | 3, h => cases h; exact k3
    | 4, h => cases h; exact k4
    | 5, h => cases h; exact k5
    | n + 6, h => cases h
  · match k, hq with
    | 0, h => cases h; exact hI
    | 1, h => cases h; exact hZ
    | 2, h => cases h; exact hQ
    | n + 3, h => cases h
def fl0 : List Cond := flatC (Jvm.Cond.and given_1 narrow_1)
def tmS (i : Nat) : Term := .string (sRef i).1 (sRef i).2.1
def tmV (i : Nat) : Term := .field (tmS i) "java/lang/String" "value" "[B"
def tmA : Term := .static "NextHouseUp$Village" "ABOVE" "[I"
theorem f_len : ∀ i, i < 13 → sLens.getD i 0 < 2 ^ 31 := by decide
theorem f_ex : ∀ i, i < 13 → Cond.exactly (tmS i) "java/lang/String" ∈ fl0 := by decide +kernel
theorem f_co : ∀ i, i < 13 → Cond.eq (.field (tmS i) "java/lang/String" "coder" "B") (.int 0) ∈ fl0 := by decide +kernel
theorem f_ar : ∀ i, i < 13 → Cond.arrayOf (tmV i) .byte ∈ fl0 := by decide +kernel
theorem f_le : ∀ i, i < 13 → Cond.eq (.length (tmV i)) (.int (Int32.ofNat (sLens.getD i 0))) ∈ fl0 := by decide +kernel
theorem f_el : ∀ i, i < 13 → ∀ j, j < sLens.getD i 0 → Cond.eq (.elem (tmV i) (.int (Int32.ofNat j))) (.int ((sByts.getD i []).getD j 0)) ∈ fl0 := by decide +kernel
theorem f_n1 : ∀ i, i < 1 → Cond.not (Cond.eq (tmS i) (tmS 1)) ∈ fl0 := by decide +kernel
theorem f_n2 : ∀ i, i < 2 → Cond.not (Cond.eq (tmS i) (tmS 2)) ∈ fl0 := by decide +kernel
theorem f_n3 : ∀ i, i < 3 → Cond.not (Cond.eq (tmS i) (tmS 3)) ∈ fl0 := by decide +kernel
theorem f_n4 : ∀ i, i < 4 → Cond.not (Cond.eq (tmS i) (tmS 4)) ∈ fl0 := by decide +kernel
theorem f_n5 : ∀ i, i < 5 → Cond.not (Cond.eq (tmS i) (tmS 5)) ∈ fl0 := by decide +kernel
theorem f_n6 : ∀ i, i < 6 → Cond.not (Cond.eq (tmS i) (tmS 6)) ∈ fl0 := by decide +kernel
theorem f_n7 : ∀ i, i < 7 → Cond.not (Cond.eq (tmS i) (tmS 7)) ∈ fl0 := by decide +kernel
theorem f_n8 : ∀ i, i < 8 → Cond.not (Cond.eq (tmS i) (tmS 8)) ∈ fl0 := by decide +kernel
theorem f_n9 : ∀ i, i < 9 → Cond.not (Cond.eq (tmS i) (tmS 9)) ∈ fl0 := by decide +kernel
theorem f_n10 : ∀ i, i < 10 → Cond.not (Cond.eq (tmS i) (tmS 10)) ∈ fl0 := by decide +kernel
theorem f_n11 : ∀ i, i < 11 → Cond.not (Cond.eq (tmS i) (tmS 11)) ∈ fl0 := by decide +kernel
theorem f_n12 : ∀ j, j < 12 → Cond.not (Cond.eq (tmS 12) (tmS j)) ∈ fl0 := by decide +kernel
theorem f_lt : ∀ j, j < 12 → ∀ i, i < j → Cond.not (Cond.eq (tmS i) (tmS j)) ∈ fl0 := by
  intro j hj
  match j, hj with
  | 0, _ => exact fun i hi => absurd hi (by omega)
  | 1, _ => exact f_n1
  | 2, _ => exact f_n2
  | 3, _ => exact f_n3
  | 4, _ => exact f_n4
  | 5, _ => exact f_n5
  | 6, _ => exact f_n6
  | 7, _ => exact f_n7
  | 8, _ => exact f_n8
  | 9, _ => exact f_n9
  | 10, _ => exact f_n10
  | 11, _ => exact f_n11
  | n + 12, h => exact absurd h (by omega)
theorem f_ne (i : Nat) (hi : i < 13) (j : Nat) (hj : j < 13) (hne : i ≠ j) : Cond.not (Cond.eq (tmS i) (tmS j)) ∈ fl0 ∨ Cond.not (Cond.eq (tmS j) (tmS i)) ∈ fl0 := by
  by_cases h1 : i = 12
  · subst h1
    exact Or.inl (f_n12 j (by omega))
  by_cases h2 : j = 12
  · subst h2
    exact Or.inr (f_n12 i (by omega))
  by_cases h : i < j
  · exact Or.inl (f_lt j (by omega) i h)
  · exact Or.inr (f_lt i (by omega) j (by omega))
theorem f_sr : ∀ i, i < 13 → lw_tbl[([255, 256, 257, 258, 259, 260, 261, 262, 263, 264, 265, 266, 173] : List Nat).getD i 0]? = some (Cond.stringRef (sRef i).1 (sRef i).2.1 (sRef i).2.2) := by decide +kernel
theorem f_ab : ∀ j, j < 6 → Cond.eq (.elem tmA (.int (Int32.ofNat j))) (.int (abv j)) ∈ fl0 := by decide +kernel
theorem f_aa : Cond.arrayOf tmA .int ∈ fl0 ∧ Cond.eq (.length tmA) (.int (Int32.ofNat 6)) ∈ fl0 ∧ Cond.eq (.static "java/lang/String" "COMPACT_STRINGS" "Z") (.int 1) ∈ fl0 ∧ Cond.isRef (.static "jdk/internal/util/Preconditions" "SIOOBE_FORMATTER" "Ljava/util/function/BiFunction;") ∈ fl0 := by decide +kernel
theorem start_X {s : State} {args : Array Value} {A : Nat → Prop} (hts : ∀ w ∈ lw_tbl, w.before args s = true) (hg : (Jvm.Cond.and given_1 narrow_1).before args s = true) (hA : ∀ a : Nat, a < s.heap.size → ¬ A a) : ∃ ad : Nat → Nat, ∀ G : Gx, G.2.2.2.2 = ad → XTA G A s s.heap := by
  have hs : ∀ w ∈ fl0, w.before args s = true := flat_of_before _ hg
  obtain ⟨aK, aV, hS, hE⟩ := vk_Sof (args := args) (s := s) (N := 13) (tm := tmS) (len := sLens) (byt := sByts) (A := A) f_len (fun i hi => hs _ (f_ex i hi)) (fun i hi => hs _ (f_co i hi)) (fun i hi => hs _ (f_ar i hi)) (fun i hi => hs _ (f_le i hi)) (fun i hi j hj => hs _ (f_el i hi j hj)) (fun i j hi hj hne => (f_ne i hi j hj hne).elim (fun h => Or.inl (hs _ h)) (fun h => Or.inr (hs _ h))) hA
  obtain ⟨t, ht, hT⟩ := va_Tof (args := args) (s := s) (tm := tmA) (ty := .int) (N := 6) (f := fun j => .int (abv j)) (A := A) (by decide) (hs _ f_aa.1) (va_eqt (hs _ f_aa.2.1)) (fun j hj => va_eqt (hs _ (f_ab j hj))) hA
  refine ⟨fun k => if k < 2000 then aK (k - 1000) else if k < 3000 then aV (k - 2000) else t, fun G hG => ?_⟩
  have k1 : ∀ i, i < 13 → G.2.2.2.2 (1000 + i) = aK i := fun i hi => by
    rw [hG]
    show (if 1000 + i < 2000 then aK (1000 + i - 1000) else _) = aK i
    rw [if_pos (by omega), show 1000 + i - 1000 = i by omega]
  have k2 : ∀ i, i < 13 → G.2.2.2.2 (2000 + i) = aV i := fun i hi => by
    rw [hG]
    show (if 2000 + i < 2000 then _ else if 2000 + i < 3000 then aV (2000 + i - 2000) else t) = aV i
    rw [if_neg (by omega), if_pos (by omega), show 2000 + i - 2000 = i by omega]
  have k3 : G.2.2.2.2 3000 = t := by rw [hG]; rfl
  refine ⟨⟨fun i hi => ?_, fun i j hi hj e => ?_⟩, fun i hi => ?_, ?_, ?_, ?_, ?_, fun w hw => ?_, ?_⟩
  · have z := hS.1 i hi
    simp only [k1 i hi, k2 i hi]
    exact z
  · exact hS.2 i j hi hj ((k1 i hi).symm.trans (Eq.trans e (k1 j hj)))
  · rw [k1 i hi]
    exact vk_R.of (hts _ (List.mem_of_getElem? (f_sr i hi))) (hE i hi)
  · exact va_Zof (hts _ (List.mem_of_getElem? (i := 187) (by decide +kernel))) (hts _ (List.mem_of_getElem? (i := 75) (by decide +kernel))) (va_eqi (hs _ f_aa.2.2.1)) hA
  · exact va_Zqof (hts _ (List.mem_of_getElem? (i := 203) (by decide +kernel))) (hts _ (List.mem_of_getElem? (i := 77) (by decide +kernel))) (hs _ f_aa.2.2.2) hA
  · rw [k3]
    exact va_Zof (hts _ (List.mem_of_getElem? (i := 836) (by decide +kernel))) (hts _ (List.mem_of_getElem? (i := 79) (by decide +kernel))) ht hA
  · rw [k3]
    exact hT
  · simp only [nestL, List.mem_cons, List.not_mem_nil, or_false] at hw
    rcases hw with rfl | rfl
    · exact va_Nw.of rfl (hts _ (List.mem_of_getElem? (i := 95) (by decide +kernel)))
    · exact va_Nw.of rfl (hts _ (List.mem_of_getElem? (i := 399) (by decide +kernel)))
  · exact va_AO.of (hts _ (List.mem_of_getElem? (i := 397) (by decide +kernel)))
