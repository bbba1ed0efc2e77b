/-! THE LAW, from its entry -/
theorem map_last {w : va_W} {x : Nat × va_E} {n : Nat} (h : w.length = n) : [n].map (fun i => (w ++ [x])[i]?) = [x].map some := by
  subst h
  simp
theorem map_range {w v : va_W} {n : Nat} (h : w.length = n) : (List.range n).map (fun i => (w ++ v)[i]?) = w.map some := by
  subst h
  apply List.ext_getElem
  · simp
  · intro i h1 h2
    have h3 : i < w.length := by simpa using h2
    rw [List.getElem_map, List.getElem_map, List.getElem_range, List.getElem?_append_left h3, List.getElem?_eq_getElem h3]
theorem wlX_len {G : Gx} {M : Mm} : (wl shX G M).length = 44 := by
  rw [wl_len]
  rfl
theorem law_all {X : Cx} {G : Gx} {A : Nat → Prop} {Q : State → Prop} {b L : Nat} {xs : Nat → Int32} (hF : FI X G A 4 cL_law RL room_1) (hX : XTA G A X.2.2.2.2.1 X.2.2.2.2.1.heap) (hb : LScr X A b L xs) (hL : L ≤ 3072) (fin : ∀ (GX GM : Gx) (kn : Nat) (Mx Mr : Mm), LW X G GX GM A Q kn b 1216 [] Mx Mr) : IW X G A Q 4 [] 0 0 0 [(0, .ref b)] [] := by
  refine i_new (ci := 4) (N := 8) (C := RX4) (T := TX4) (ty := tyX4) [.null, .null, .null, .null, .null, .int 0, .null, .null] 3 hF dL_law_0 rfl in_X4 tyX4_ok (gT_in 85 (by decide +kernel) rfl) (gT_in 86 (by decide +kernel) rfl) (gT_in 72 (by decide +kernel) rfl) rfl (by decide +kernel) (by decide) (fun q1 => ?_)
  refine IW_to (ws' := [(q1, .inr (4, [.null, .null, .null, .null, .null, .int 0, .null, .null]))]) rfl ?_
  refine i_dup 4 hF dL_law_3 rfl ?_
  refine i_callI (n := 0) (wr := []) 7 [0] [] hF hX dL_law_4 rfl (mi_X4 q1) rfl rfl ⟨by decide, by decide, by decide +kernel⟩ (Or.inl (gT_in 87 (by decide +kernel) rfl)) (gT_in 88 (by decide +kernel) rfl) (gT_in 72 (by decide +kernel) rfl) (gT_in 89 (by decide +kernel) rfl) rfl (Nat.le_of_ble_eq_true rfl) ⟨rfl, rfl, by decide, by decide⟩ (by decide) rfl rfl (by decide) (by decide) (by decide) (fun u1 hu1 => ?_)
  subst hu1
  refine IW_to (ws' := wl shX (Gu G 44 u1) MX0) (List.nil_append _) ?_
  refine i_astore 8 hF dL_law_7 rfl rfl (by decide) rfl ?_
  refine i_new (ci := 5) (N := 44) (C := RX5) (T := TX5) (ty := tyX5) [.int 0, .null, .null, .int 0, .int 0, .null, .int 0, .int 0, .int 0, .null, .int 0, .null, .int 0, .int 0, .int 0, .int 0, .int 0, .int 0, .int 0, .int 0, .int 0, .int 0, .int 0, .int 0, .int 0, .long 0, .int 0, .int 0, .int 0, .null, .null, .null, .null, .null, .null, .int 0, .int 0, .int 0, .int 0, .int 0, .null, .null, .null, .null] 11 hF dL_law_8 rfl in_X5 tyX5_ok (gT_in 837 (by decide +kernel) rfl) (gT_in 838 (by decide +kernel) rfl) (gT_in 81 (by decide +kernel) rfl) rfl (by decide +kernel) (by decide) (fun q2 => ?_)
  refine i_dup 12 hF dL_law_11 rfl ?_
  refine i_callI (n := 0) (wr := wl shX (Gu G 44 u1) MX0) 15 [44] (List.range 44) hF hX dL_law_12 rfl (mi_X5 q2) rfl rfl ⟨by decide, by decide, by decide +kernel⟩ (Or.inl (gT_in 839 (by decide +kernel) rfl)) (gT_in 840 (by decide +kernel) rfl) (gT_in 81 (by decide +kernel) rfl) (gT_in 841 (by decide +kernel) rfl) rfl (Nat.le_of_ble_eq_true rfl) ⟨rfl, rfl, by decide, by decide⟩ (by decide) (map_last wlX_len) (map_range wlX_len) (by decide) (by decide +kernel) (by decide +kernel) (fun u2 hu2 => ?_)
  subst hu2
  refine i_astore 16 hF dL_law_15 rfl rfl (by decide) rfl ?_
  refine i_iconst (nI 0) 17 hF dL_law_16 rfl (by decide) ?_
  refine i_istore 18 hF dL_law_17 rfl rfl (by decide) rfl ?_
  refine IW.pick [0, 3, 2, 1] rfl ?_
  exact law_loop hF hX (Gu_G (by decide)) (Gu_G (by decide)) hb hL (fin _ _) (L + 1) 0 (by omega) (by omega) MX0 MM0 rel0
