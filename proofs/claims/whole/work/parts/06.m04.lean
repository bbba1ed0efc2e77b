abbrev rmX2_endPart : Room := { frames := 0, cells := 0, slots := 0, locals := 0 }
def m_X2_endPart (x1 : Int32) (M : Mm) : Option (Unit × Mm) := lt1 (((((M 1 0) * (3 : Int32)) + x1) + (1 : Int32))) fun y1 => if y1 < 0 then (some ((), M)) else (if (19 : Int32) ≤ y1 then (some ((), M)) else (gd (inr y1 19) (lt1 (up M 3 y1.toNatClampNeg ((M 1 9))) fun M2 => some ((), M2))))
set_option maxRecDepth 100000 in
set_option maxHeartbeats 4000000 in
theorem c_X2_endPart {G : Gx} {sh : List Sh} (hT : TexAt sh) (M : Mm) (x1 : Int32) : CT yX2_endPart cX2_endPart 3 none rmX2_endPart G sh [.ref (G.2.2.2.2 1), .int x1] rvV M (m_X2_endPart  x1 M) := by
  refine CT.of (by decide +kernel) (Nat.le_of_ble_eq_true rfl) (fun X hF => ?_)
  show VR X G sh 3 rvV M 0 [(0, .ref (G.2.2.2.2 1)), (1, .int x1)] [] _
  unfold m_X2_endPart
  refine v_aload_n 0 1 hF dX2_endPart_0 rfl rfl rfl ?_
  refine v_getI 4 hF dX2_endPart_1 rfl fl_X2_21 hT.1 rfl ?_
  refine v_iconst (3) 5 hF dX2_endPart_4 rfl (by decide) ?_
  refine v_imul 6 hF dX2_endPart_5 rfl ?_
  refine v_iload_n 1 7 hF dX2_endPart_6 rfl rfl rfl ?_
  refine v_iadd 8 hF dX2_endPart_7 rfl ?_
  refine v_iconst (1) 9 hF dX2_endPart_8 rfl (by decide) ?_
  refine v_iadd 10 hF dX2_endPart_9 rfl ?_
  refine v_istore_n (lo' := fun y1 => [(2, .int y1), (0, .ref (G.2.2.2.2 1)), (1, .int x1)]) 11 hF dX2_endPart_10 rfl rfl (by decide) (fun _ => rfl) (fun y1 => ?_)
  refine v_iload_n 0 12 hF dX2_endPart_11 rfl rfl rfl ?_
  refine v_if_lt 15 34 hF dX2_endPart_12 rfl (by decide) (fun _ => ?_) (fun _ => ?_)
  · exact v_vret hF dX2_endPart_34
  · refine v_iload_n 0 16 hF dX2_endPart_15 rfl rfl rfl ?_
    refine v_aload_n 1 17 hF dX2_endPart_16 rfl rfl rfl ?_
    refine v_getR (b := 3) 20 hF dX2_endPart_17 rfl fl_X2_15 hT.1 rfl ?_
    refine v_alen 19 21 hF dX2_endPart_20 rfl (hT.2.2.1) (Or.inl rfl) (by decide) ?_
    refine v_icmp_ge 24 34 hF dX2_endPart_21 rfl (by decide) (fun _ => ?_) (fun _ => ?_)
    · exact v_vret hF dX2_endPart_34
    · refine v_aload_n 1 25 hF dX2_endPart_24 rfl rfl rfl ?_
      refine v_getR (b := 3) 28 hF dX2_endPart_25 rfl fl_X2_15 hT.1 rfl ?_
      refine v_iload_n 0 29 hF dX2_endPart_28 rfl rfl rfl ?_
      refine v_aload_n 1 30 hF dX2_endPart_29 rfl rfl rfl ?_
      refine v_getI 33 hF dX2_endPart_30 rfl fl_X2_29 hT.1 rfl ?_
      refine v_iast 34 hF dX2_endPart_33 rfl (hT.2.2.1) (fun M2 => ?_)
      exact v_vret hF dX2_endPart_34
abbrev rmX2_keep : Room := { frames := 1, cells := 0, slots := 0, locals := 20 }
def m_X2_keep  (M : Mm) : Option (Unit × Mm) := bd (m_X2_hasRoom M) fun r2 M1 => if r2 = 0 then (some ((), M1)) else (lt1 (up M1 1 0 (((M1 1 0) + (1 : Int32)))) fun M3 => some ((), M3))
set_option maxRecDepth 100000 in
set_option maxHeartbeats 4000000 in
theorem c_X2_keep {G : Gx} {sh : List Sh} (hT : TexAt sh) (M : Mm)  : CT yX2_keep cX2_keep 1 none rmX2_keep G sh [.ref (G.2.2.2.2 1)] rvV M (m_X2_keep   M) := by
  refine CT.of (by decide +kernel) (Nat.le_of_ble_eq_true rfl) (fun X hF => ?_)
  show VR X G sh 1 rvV M 0 [(0, .ref (G.2.2.2.2 1))] [] _
  unfold m_X2_keep
  refine v_aload_n 0 1 hF dX2_keep_0 rfl rfl rfl ?_
  refine v_callI ([]) ([]) 4 hF dX2_keep_1 rfl cw_X2_25 rfl (hT.1) (c_X2_hasRoom (G := G) hT M) ⟨rfl, rfl, Nat.le_of_ble_eq_true rfl, Nat.le_of_ble_eq_true rfl⟩ rfl rfl (Nat.le_of_ble_eq_true rfl) (fun r2 M1 => ?_)
  refine v_if_eq 7 17 hF dX2_keep_4 rfl (by decide) (fun _ => ?_) (fun _ => ?_)
  · exact v_vret hF dX2_keep_17
  · refine v_aload_n 0 8 hF dX2_keep_7 rfl rfl rfl ?_
    refine v_dupR 9 hF dX2_keep_8 rfl ?_
    refine v_getI 12 hF dX2_keep_9 rfl fl_X2_21 hT.1 rfl ?_
    refine v_iconst (1) 13 hF dX2_keep_12 rfl (by decide) ?_
    refine v_iadd 14 hF dX2_keep_13 rfl ?_
    refine v_putI 17 hF dX2_keep_14 rfl fl_X2_21 fp_X2_0 hT.1 rfl (fun M3 => ?_)
    exact v_vret hF dX2_keep_17
abbrev rmX1_read : Room := { frames := 68, cells := 0, slots := 0, locals := 3053 }
def m_X1_read_J82  (M : Mm) : Option (Int32 × Mm) := lt1 (up M 5 0 ((0 : Int32))) fun M1 => some ((M1 5 7), M1)
def m_X1_read_B23 (n23 : Int32 → Mm → Option (Int32 × Mm)) (x1 : Int32) (M : Mm) : Option (Int32 × Mm) := if (3 : Int32) ≤ x1 then (bd (m_X1_expect ((0 : Int32)) M) fun _ M2 => if (M2 5 7) = (-1 : Int32) then (bd (m_X2_keep M2) fun _ M3 => m_X1_read_J82 M3) else (m_X1_read_J82 M2)) else (bd (m_X1_expect (((262 : Int32) + x1)) M) fun _ M4 => bd (m_X1_readOr ((0 : Int32)) M4) fun _ M5 => bd (m_X1_expect ((59 : Int32)) M5) fun _ M6 => bd (m_X2_endPart x1 M6) fun _ M7 => lt1 (x1 + 1) fun y8 => n23 y8 M7)
def m_X1_read_L23 : Nat → Int32 → Mm → Option (Int32 × Mm)
  | 0 => fun _ _ => none
  | n + 1 => m_X1_read_B23  (m_X1_read_L23  n)
def m_X1_read  (M : Mm) : Option (Int32 × Mm) := lt1 (up M 5 7 ((-1 : Int32))) fun M9 => lt1 (up M9 5 5 ((0 : Int32))) fun M10 => bd (m_X1_advance M10) fun _ M11 => bd (m_X2_begin M11) fun _ M12 => lt1 ((0 : Int32)) fun y13 => m_X1_read_L23 FU y13 M12
set_option maxRecDepth 100000 in
set_option maxHeartbeats 4000000 in
theorem v_X1_read_J82 {X : Cx} {G : Gx} {sh : List Sh} (hF : FX X G sh 2 cX1_read (yX1_read).cls (some .int) rmX1_read) (hT : TexAt sh) (hP : TapAt sh) : ∀ (M : Mm), VR X G sh 2 rvI M 82 [(0, .ref (G.2.2.2.2 5))] [] (m_X1_read_J82   M) := by
  intro  M
  unfold m_X1_read_J82
  refine v_aload_n 0 83 hF dX1_read_82 rfl rfl rfl ?_
  refine v_iconst (0) 84 hF dX1_read_83 rfl (by decide) ?_
  refine v_putI 87 hF dX1_read_84 rfl fl_X1_19 fp_X1_0 hP.1 rfl (fun M1 => ?_)
  refine v_aload_n 0 88 hF dX1_read_87 rfl rfl rfl ?_
  refine v_getI 91 hF dX1_read_88 rfl fl_X1_37 hP.1 rfl ?_
  exact v_iret hF dX1_read_91
set_option maxRecDepth 100000 in
set_option maxHeartbeats 4000000 in
theorem v_X1_read_B23 {X : Cx} {G : Gx} {sh : List Sh} (hF : FX X G sh 2 cX1_read (yX1_read).cls (some .int) rmX1_read) (hT : TexAt sh) (hP : TapAt sh) (n23 : Int32 → Mm → Option (Int32 × Mm)) (h23 : ∀ (x1 : Int32) (M : Mm), VR X G sh 2 rvI M 23 [(0, .ref (G.2.2.2.2 5)), (1, .int x1)] [] (n23 x1 M)) : ∀ (x1 : Int32) (M : Mm), VR X G sh 2 rvI M 23 [(0, .ref (G.2.2.2.2 5)), (1, .int x1)] [] (m_X1_read_B23  n23 x1 M) := by
  intro x1 M
  unfold m_X1_read_B23
  refine v_iload_n 1 24 hF dX1_read_23 rfl rfl rfl ?_
  refine v_iconst (3) 25 hF dX1_read_24 rfl (by decide) ?_
  refine v_icmp_ge 28 62 hF dX1_read_25 rfl (by decide) (fun _ => ?_) (fun _ => ?_)
  · refine v_aload_n 0 63 hF dX1_read_62 rfl rfl rfl ?_
    refine v_iconst (0) 64 hF dX1_read_63 rfl (by decide) ?_
    refine v_callV ([.int ((0 : Int32))]) ([]) 67 hF dX1_read_64 rfl cw_X1_51 rfl (hP.1) (c_X1_expect (G := G) hT hP M ((0 : Int32))) ⟨rfl, rfl, Nat.le_of_ble_eq_true rfl, Nat.le_of_ble_eq_true rfl⟩ rfl rfl (Nat.le_of_ble_eq_true rfl) (fun _ M2 => ?_)
    refine v_aload_n 0 68 hF dX1_read_67 rfl rfl rfl ?_
    refine v_getI 71 hF dX1_read_68 rfl fl_X1_37 hP.1 rfl ?_
    refine v_iconst (-1) 72 hF dX1_read_71 rfl (by decide) ?_
    refine v_icmp_ne 75 82 hF dX1_read_72 rfl (by decide) (fun _ => ?_) (fun _ => ?_)
    · refine VR.pick [0] rfl ?_
      exact v_X1_read_J82 hF hT hP M2
    · refine v_aload_n 0 76 hF dX1_read_75 rfl rfl rfl ?_
      refine v_getR (b := 1) 79 hF dX1_read_76 rfl fl_X1_15 hP.1 rfl ?_
      refine v_callV ([]) ([]) 82 hF dX1_read_79 rfl cw_X1_61 rfl (hT.1) (c_X2_keep (G := G) hT M2) ⟨rfl, rfl, Nat.le_of_ble_eq_true rfl, Nat.le_of_ble_eq_true rfl⟩ rfl rfl (Nat.le_of_ble_eq_true rfl) (fun _ M3 => ?_)
      refine VR.pick [0] rfl ?_
      exact v_X1_read_J82 hF hT hP M3
  · refine v_aload_n 0 29 hF dX1_read_28 rfl rfl rfl ?_
    refine v_sipush (262) 32 hF dX1_read_29 rfl (by decide) ?_
    refine v_iload_n 1 33 hF dX1_read_32 rfl rfl rfl ?_
    refine v_iadd 34 hF dX1_read_33 rfl ?_
    refine v_callV ([.int (((262 : Int32) + x1))]) ([]) 37 hF dX1_read_34 rfl cw_X1_51 rfl (hP.1) (c_X1_expect (G := G) hT hP M (((262 : Int32) + x1))) ⟨rfl, rfl, Nat.le_of_ble_eq_true rfl, Nat.le_of_ble_eq_true rfl⟩ rfl rfl (Nat.le_of_ble_eq_true rfl) (fun _ M4 => ?_)
    refine v_aload_n 0 38 hF dX1_read_37 rfl rfl rfl ?_
    refine v_iconst (0) 39 hF dX1_read_38 rfl (by decide) ?_
    refine v_callV ([.int ((0 : Int32))]) ([]) 42 hF dX1_read_39 rfl cw_X1_55 rfl (hP.1) (c_X1_readOr (G := G) hT hP M4 ((0 : Int32))) ⟨rfl, rfl, Nat.le_of_ble_eq_true rfl, Nat.le_of_ble_eq_true rfl⟩ rfl rfl (Nat.le_of_ble_eq_true rfl) (fun _ M5 => ?_)
    refine v_aload_n 0 43 hF dX1_read_42 rfl rfl rfl ?_
    refine v_bipush (59) 45 hF dX1_read_43 rfl (by decide) ?_
    refine v_callV ([.int ((59 : Int32))]) ([]) 48 hF dX1_read_45 rfl cw_X1_51 rfl (hP.1) (c_X1_expect (G := G) hT hP M5 ((59 : Int32))) ⟨rfl, rfl, Nat.le_of_ble_eq_true rfl, Nat.le_of_ble_eq_true rfl⟩ rfl rfl (Nat.le_of_ble_eq_true rfl) (fun _ M6 => ?_)
    refine v_aload_n 0 49 hF dX1_read_48 rfl rfl rfl ?_
    refine v_getR (b := 1) 52 hF dX1_read_49 rfl fl_X1_15 hP.1 rfl ?_
    refine v_iload_n 1 53 hF dX1_read_52 rfl rfl rfl ?_
    refine v_callV ([.int x1]) ([]) 56 hF dX1_read_53 rfl cw_X1_58 rfl (hT.1) (c_X2_endPart (G := G) hT M6 x1) ⟨rfl, rfl, Nat.le_of_ble_eq_true rfl, Nat.le_of_ble_eq_true rfl⟩ rfl rfl (Nat.le_of_ble_eq_true rfl) (fun _ M7 => ?_)
    refine v_iinc (v := (x1 + 1)) (lo' := fun y8 => [(1, .int y8), (0, .ref (G.2.2.2.2 5))]) 1 59 hF dX1_read_56 rfl rfl rfl (by decide) (fun _ => rfl) (fun y8 => ?_)
    refine v_goto 23 hF dX1_read_59 (by decide) ?_
    refine VR.pick [1, 0] rfl ?_
    exact h23 y8 M7
theorem v_X1_read_L23 {X : Cx} {G : Gx} {sh : List Sh} (hF : FX X G sh 2 cX1_read (yX1_read).cls (some .int) rmX1_read) (hT : TexAt sh) (hP : TapAt sh) : ∀ (n : Nat), ∀ (x1 : Int32) (M : Mm), VR X G sh 2 rvI M 23 [(0, .ref (G.2.2.2.2 5)), (1, .int x1)] [] (m_X1_read_L23  n x1 M) := by
  intro n
  induction n with
  | zero => intro x1 M; exact VR.none
  | succ n ih => exact v_X1_read_B23 hF hT hP _ ih
set_option maxRecDepth 100000 in
set_option maxHeartbeats 4000000 in
theorem c_X1_read {G : Gx} {sh : List Sh} (hT : TexAt sh) (hP : TapAt sh) (M : Mm)  : CT yX1_read cX1_read 2 (some .int) rmX1_read G sh [.ref (G.2.2.2.2 5)] rvI M (m_X1_read   M) := by
  refine CT.of (by decide +kernel) (Nat.le_of_ble_eq_true rfl) (fun X hF => ?_)
  show VR X G sh 2 rvI M 0 [(0, .ref (G.2.2.2.2 5))] [] _
  unfold m_X1_read
  refine v_aload_n 0 1 hF dX1_read_0 rfl rfl rfl ?_
  refine v_iconst (-1) 2 hF dX1_read_1 rfl (by decide) ?_
  refine v_putI 5 hF dX1_read_2 rfl fl_X1_37 fp_X1_7 hP.1 rfl (fun M9 => ?_)
  refine v_aload_n 0 6 hF dX1_read_5 rfl rfl rfl ?_
  refine v_iconst (0) 7 hF dX1_read_6 rfl (by decide) ?_
  refine v_putI 10 hF dX1_read_7 rfl fl_X1_40 fp_X1_5 hP.1 rfl (fun M10 => ?_)
  refine v_aload_n 0 11 hF dX1_read_10 rfl rfl rfl ?_
  refine v_callV ([]) ([]) 14 hF dX1_read_11 rfl cw_X1_43 rfl (hP.1) (c_X1_advance (G := G) hT hP M10) ⟨rfl, rfl, Nat.le_of_ble_eq_true rfl, Nat.le_of_ble_eq_true rfl⟩ rfl rfl (Nat.le_of_ble_eq_true rfl) (fun _ M11 => ?_)
  refine v_aload_n 0 15 hF dX1_read_14 rfl rfl rfl ?_
  refine v_getR (b := 1) 18 hF dX1_read_15 rfl fl_X1_15 hP.1 rfl ?_
  refine v_callV ([]) ([]) 21 hF dX1_read_18 rfl cw_X1_46 rfl (hT.1) (c_X2_begin (G := G) hT M11) ⟨rfl, rfl, Nat.le_of_ble_eq_true rfl, Nat.le_of_ble_eq_true rfl⟩ rfl rfl (Nat.le_of_ble_eq_true rfl) (fun _ M12 => ?_)
  refine v_iconst (0) 22 hF dX1_read_21 rfl (by decide) ?_
  refine v_istore_n (lo' := fun y13 => [(1, .int y13), (0, .ref (G.2.2.2.2 5))]) 23 hF dX1_read_22 rfl rfl (by decide) (fun _ => rfl) (fun y13 => ?_)
  refine VR.pick [1, 0] rfl ?_
  exact v_X1_read_L23 hF hT hP FU y13 M12
abbrev rmX2_isText : Room := { frames := 0, cells := 0, slots := 0, locals := 0 }
def m_X2_isText (x1 : Int32) (M : Mm) : Option (Int32 × Mm) := if x1 < 0 then (some ((0 : Int32), M)) else (if (M 1 0) ≤ x1 then (some ((0 : Int32), M)) else (if (6 : Int32) ≤ x1 then (some ((0 : Int32), M)) else (some ((1 : Int32), M))))
set_option maxRecDepth 100000 in
set_option maxHeartbeats 4000000 in
theorem c_X2_isText {G : Gx} {sh : List Sh} (hT : TexAt sh) (M : Mm) (x1 : Int32) : CT yX2_isText cX2_isText 2 (some .boolean) rmX2_isText G sh [.ref (G.2.2.2.2 1), .int x1] rvI M (m_X2_isText  x1 M) := by
  refine CT.of (by decide +kernel) (Nat.le_of_ble_eq_true rfl) (fun X hF => ?_)
  show VR X G sh 2 rvI M 0 [(0, .ref (G.2.2.2.2 1)), (1, .int x1)] [] _
  unfold m_X2_isText
  refine v_iload_n 1 1 hF dX2_isText_0 rfl rfl rfl ?_
  refine v_if_lt 4 22 hF dX2_isText_1 rfl (by decide) (fun _ => ?_) (fun _ => ?_)
  · refine v_iconst (0) 23 hF dX2_isText_22 rfl (by decide) ?_
    exact v_zret0 hF dX2_isText_23 rfl
  · refine v_iload_n 1 5 hF dX2_isText_4 rfl rfl rfl ?_
    refine v_aload_n 0 6 hF dX2_isText_5 rfl rfl rfl ?_
    refine v_getI 9 hF dX2_isText_6 rfl fl_X2_21 hT.1 rfl ?_
    refine v_icmp_ge 12 22 hF dX2_isText_9 rfl (by decide) (fun _ => ?_) (fun _ => ?_)
    · refine v_iconst (0) 23 hF dX2_isText_22 rfl (by decide) ?_
      exact v_zret0 hF dX2_isText_23 rfl
    · refine v_iload_n 1 13 hF dX2_isText_12 rfl rfl rfl ?_
      refine v_bipush (6) 15 hF dX2_isText_13 rfl (by decide) ?_
      refine v_icmp_ge 18 22 hF dX2_isText_15 rfl (by decide) (fun _ => ?_) (fun _ => ?_)
      · refine v_iconst (0) 23 hF dX2_isText_22 rfl (by decide) ?_
        exact v_zret0 hF dX2_isText_23 rfl
      · refine v_iconst (1) 19 hF dX2_isText_18 rfl (by decide) ?_
        refine v_goto 23 hF dX2_isText_19 (by decide) ?_
        exact v_zret0 hF dX2_isText_23 rfl
abbrev rmX2_joined : Room := { frames := 0, cells := 0, slots := 0, locals := 0 }
def m_X2_joined_J68  (M : Mm) : Option (Int32 × Mm) := some ((1 : Int32), M)
def m_X2_joined (x0 : Int32) (x1 : Int32) (x2 : Int32) (M : Mm) : Option (Int32 × Mm) := if x0 = (-21) then (if x2 = 0 then (some ((1 : Int32), M)) else (some ((0 : Int32), M))) else (if x0 = (-20) then (some ((-x2), M)) else (if x0 = (-19) then (some ((-x2), M)) else (if x0 = (-18) then (some ((-x2), M)) else (if x0 = (-17) then (some ((x1 * x2), M)) else (if x0 = (-16) then (some ((x1 - x2), M)) else (if x0 = (-15) then (some ((x1 + x2), M)) else (if x0 = (-14) then (if x1 = x2 then (some ((1 : Int32), M)) else (some ((0 : Int32), M))) else (if x0 = (-13) then (if x2 ≤ x1 then (some ((0 : Int32), M)) else (some ((1 : Int32), M))) else (if x0 = (-12) then (if x1 = 0 then (some ((0 : Int32), M)) else (if x2 = 0 then (some ((0 : Int32), M)) else (some ((1 : Int32), M)))) else (if x0 = (-11) then (if x1 = 0 then (if x2 = 0 then (some ((0 : Int32), M)) else (m_X2_joined_J68 M)) else (m_X2_joined_J68 M)) else (some ((-x2), M))))))))))))
set_option maxRecDepth 100000 in
set_option maxHeartbeats 4000000 in
theorem v_X2_joined_J68 {X : Cx} {G : Gx} {sh : List Sh} (hF : FX X G sh 3 cX2_joined (yX2_joined).cls (some .int) rmX2_joined) : ∀ (M : Mm), VR X G sh 3 rvI M 68 [] [] (m_X2_joined_J68   M) := by
  intro  M
  unfold m_X2_joined_J68
  refine v_iconst (1) 69 hF dX2_joined_68 rfl (by decide) ?_
  refine v_goto 73 hF dX2_joined_69 (by decide) ?_
  exact v_iret hF dX2_joined_73
set_option maxRecDepth 100000 in
set_option maxHeartbeats 4000000 in
theorem c_X2_joined {G : Gx} {sh : List Sh} (M : Mm) (x0 : Int32) (x1 : Int32) (x2 : Int32) : CT yX2_joined cX2_joined 3 (some .int) rmX2_joined G sh [.int x0, .int x1, .int x2] rvI M (m_X2_joined  x0 x1 x2 M) := by
  refine CT.of (by decide +kernel) (Nat.le_of_ble_eq_true rfl) (fun X hF => ?_)
  show VR X G sh 3 rvI M 0 [(0, .int x0), (1, .int x1), (2, .int x2)] [] _
  unfold m_X2_joined
  refine v_iload_n 0 1 hF dX2_joined_0 rfl rfl rfl ?_
  refine v_ite (fun e1 => ?_) (fun n0 => ?_)
  · refine v_tsIn (-21) (121) 122 hF dX2_joined_1 e1 (by decide) rfl (by decide) ?_
    refine v_iload_n 2 123 hF dX2_joined_122 rfl rfl rfl ?_
    refine v_if_ne 126 130 hF dX2_joined_123 rfl (by decide) (fun _ => ?_) (fun _ => ?_)
    · refine v_iconst (0) 131 hF dX2_joined_130 rfl (by decide) ?_
      exact v_iret hF dX2_joined_131
    · refine v_iconst (1) 127 hF dX2_joined_126 rfl (by decide) ?_
      refine v_goto 131 hF dX2_joined_127 (by decide) ?_
      exact v_iret hF dX2_joined_131
  · refine v_ite (fun e1 => ?_) (fun n1 => ?_)
    · refine v_tsIn (-20) (131) 132 hF dX2_joined_1 e1 (by decide) rfl (by decide) ?_
      refine v_iload_n 2 133 hF dX2_joined_132 rfl rfl rfl ?_
      refine v_ineg 134 hF dX2_joined_133 rfl ?_
      exact v_iret hF dX2_joined_134
    · refine v_ite (fun e1 => ?_) (fun n2 => ?_)
      · refine v_tsIn (-19) (131) 132 hF dX2_joined_1 e1 (by decide) rfl (by decide) ?_
        refine v_iload_n 2 133 hF dX2_joined_132 rfl rfl rfl ?_
        refine v_ineg 134 hF dX2_joined_133 rfl ?_
        exact v_iret hF dX2_joined_134
      · refine v_ite (fun e1 => ?_) (fun n3 => ?_)
        · refine v_tsIn (-18) (131) 132 hF dX2_joined_1 e1 (by decide) rfl (by decide) ?_
          refine v_iload_n 2 133 hF dX2_joined_132 rfl rfl rfl ?_
          refine v_ineg 134 hF dX2_joined_133 rfl ?_
          exact v_iret hF dX2_joined_134
        · refine v_ite (fun e1 => ?_) (fun n4 => ?_)
          · refine v_tsIn (-17) (117) 118 hF dX2_joined_1 e1 (by decide) rfl (by decide) ?_
            refine v_iload_n 1 119 hF dX2_joined_118 rfl rfl rfl ?_
            refine v_iload_n 2 120 hF dX2_joined_119 rfl rfl rfl ?_
            refine v_imul 121 hF dX2_joined_120 rfl ?_
            exact v_iret hF dX2_joined_121
          · refine v_ite (fun e1 => ?_) (fun n5 => ?_)
            · refine v_tsIn (-16) (113) 114 hF dX2_joined_1 e1 (by decide) rfl (by decide) ?_
              refine v_iload_n 1 115 hF dX2_joined_114 rfl rfl rfl ?_
              refine v_iload_n 2 116 hF dX2_joined_115 rfl rfl rfl ?_
              refine v_isub 117 hF dX2_joined_116 rfl ?_
              exact v_iret hF dX2_joined_117
            · refine v_ite (fun e1 => ?_) (fun n6 => ?_)
              · refine v_tsIn (-15) (109) 110 hF dX2_joined_1 e1 (by decide) rfl (by decide) ?_
                refine v_iload_n 1 111 hF dX2_joined_110 rfl rfl rfl ?_
                refine v_iload_n 2 112 hF dX2_joined_111 rfl rfl rfl ?_
                refine v_iadd 113 hF dX2_joined_112 rfl ?_
                exact v_iret hF dX2_joined_113
              · refine v_ite (fun e1 => ?_) (fun n7 => ?_)
                · refine v_tsIn (-14) (98) 99 hF dX2_joined_1 e1 (by decide) rfl (by decide) ?_
                  refine v_iload_n 1 100 hF dX2_joined_99 rfl rfl rfl ?_
                  refine v_iload_n 2 101 hF dX2_joined_100 rfl rfl rfl ?_
                  refine v_icmp_ne 104 108 hF dX2_joined_101 rfl (by decide) (fun _ => ?_) (fun _ => ?_)
                  · refine v_iconst (0) 109 hF dX2_joined_108 rfl (by decide) ?_
                    exact v_iret hF dX2_joined_109
                  · refine v_iconst (1) 105 hF dX2_joined_104 rfl (by decide) ?_
                    refine v_goto 109 hF dX2_joined_105 (by decide) ?_
                    exact v_iret hF dX2_joined_109
                · refine v_ite (fun e1 => ?_) (fun n8 => ?_)
                  · refine v_tsIn (-13) (87) 88 hF dX2_joined_1 e1 (by decide) rfl (by decide) ?_
                    refine v_iload_n 1 89 hF dX2_joined_88 rfl rfl rfl ?_
                    refine v_iload_n 2 90 hF dX2_joined_89 rfl rfl rfl ?_
                    refine v_icmp_ge 93 97 hF dX2_joined_90 rfl (by decide) (fun _ => ?_) (fun _ => ?_)
                    · refine v_iconst (0) 98 hF dX2_joined_97 rfl (by decide) ?_
                      exact v_iret hF dX2_joined_98
                    · refine v_iconst (1) 94 hF dX2_joined_93 rfl (by decide) ?_
                      refine v_goto 98 hF dX2_joined_94 (by decide) ?_
                      exact v_iret hF dX2_joined_98
                  · refine v_ite (fun e1 => ?_) (fun n9 => ?_)
                    · refine v_tsIn (-12) (73) 74 hF dX2_joined_1 e1 (by decide) rfl (by decide) ?_
                      refine v_iload_n 1 75 hF dX2_joined_74 rfl rfl rfl ?_
                      refine v_if_eq 78 86 hF dX2_joined_75 rfl (by decide) (fun _ => ?_) (fun _ => ?_)
                      · refine v_iconst (0) 87 hF dX2_joined_86 rfl (by decide) ?_
                        exact v_iret hF dX2_joined_87
                      · refine v_iload_n 2 79 hF dX2_joined_78 rfl rfl rfl ?_
                        refine v_if_eq 82 86 hF dX2_joined_79 rfl (by decide) (fun _ => ?_) (fun _ => ?_)
                        · refine v_iconst (0) 87 hF dX2_joined_86 rfl (by decide) ?_
                          exact v_iret hF dX2_joined_87
                        · refine v_iconst (1) 83 hF dX2_joined_82 rfl (by decide) ?_
                          refine v_goto 87 hF dX2_joined_83 (by decide) ?_
                          exact v_iret hF dX2_joined_87
                    · refine v_ite (fun e1 => ?_) (fun n10 => ?_)
                      · refine v_tsIn (-11) (59) 60 hF dX2_joined_1 e1 (by decide) rfl (by decide) ?_
                        refine v_iload_n 1 61 hF dX2_joined_60 rfl rfl rfl ?_
                        refine v_if_ne 64 68 hF dX2_joined_61 rfl (by decide) (fun _ => ?_) (fun _ => ?_)
                        · refine VR.pick [] rfl ?_
                          exact v_X2_joined_J68 hF M
                        · refine v_iload_n 2 65 hF dX2_joined_64 rfl rfl rfl ?_
                          refine v_if_eq 68 72 hF dX2_joined_65 rfl (by decide) (fun _ => ?_) (fun _ => ?_)
                          · refine v_iconst (0) 73 hF dX2_joined_72 rfl (by decide) ?_
                            exact v_iret hF dX2_joined_73
                          · refine VR.pick [] rfl ?_
                            exact v_X2_joined_J68 hF M
                      · refine v_tsOut 132 hF dX2_joined_1 (by have a0 := lv_neT n0 (a := (-21)) (by decide); have a1 := lv_neT n1 (a := (-20)) (by decide); have a2 := lv_neT n2 (a := (-19)) (by decide); have a3 := lv_neT n3 (a := (-18)) (by decide); have a4 := lv_neT n4 (a := (-17)) (by decide); have a5 := lv_neT n5 (a := (-16)) (by decide); have a6 := lv_neT n6 (a := (-15)) (by decide); have a7 := lv_neT n7 (a := (-14)) (by decide); have a8 := lv_neT n8 (a := (-13)) (by decide); have a9 := lv_neT n9 (a := (-12)) (by decide); have a10 := lv_neT n10 (a := (-11)) (by decide); omega) (by decide) ?_
                        refine v_iload_n 2 133 hF dX2_joined_132 rfl rfl rfl ?_
                        refine v_ineg 134 hF dX2_joined_133 rfl ?_
                        exact v_iret hF dX2_joined_134
abbrev rmX2_named : Room := { frames := 0, cells := 0, slots := 0, locals := 0 }
def m_X2_named (x1 : Int32) (M : Mm) : Option (Int32 × Mm) := if ((-1 : Int32) - x1) = (0) then (some ((M 1 1), M)) else (if ((-1 : Int32) - x1) = (1) then (some ((M 1 2), M)) else (if ((-1 : Int32) - x1) = (2) then (some ((M 1 3), M)) else (if ((-1 : Int32) - x1) = (3) then (some ((M 1 4), M)) else (if ((-1 : Int32) - x1) = (4) then (some ((M 1 5), M)) else (some ((M 1 6), M))))))
set_option maxRecDepth 100000 in
set_option maxHeartbeats 4000000 in
theorem c_X2_named {G : Gx} {sh : List Sh} (hT : TexAt sh) (M : Mm) (x1 : Int32) : CT yX2_named cX2_named 2 (some .int) rmX2_named G sh [.ref (G.2.2.2.2 1), .int x1] rvI M (m_X2_named  x1 M) := by
  refine CT.of (by decide +kernel) (Nat.le_of_ble_eq_true rfl) (fun X hF => ?_)
  show VR X G sh 2 rvI M 0 [(0, .ref (G.2.2.2.2 1)), (1, .int x1)] [] _
  unfold m_X2_named
  refine v_iconst (-1) 1 hF dX2_named_0 rfl (by decide) ?_
  refine v_iload_n 1 2 hF dX2_named_1 rfl rfl rfl ?_
  refine v_isub 3 hF dX2_named_2 rfl ?_
  refine v_ite (fun e1 => ?_) (fun n0 => ?_)
  · refine v_tsIn (0) (33) 36 hF dX2_named_3 e1 (by decide) rfl (by decide) ?_
    refine v_aload_n 0 37 hF dX2_named_36 rfl rfl rfl ?_
    refine v_getI 40 hF dX2_named_37 rfl fl_X2_50 hT.1 rfl ?_
    exact v_iret hF dX2_named_40
  · refine v_ite (fun e1 => ?_) (fun n1 => ?_)
    · refine v_tsIn (1) (38) 41 hF dX2_named_3 e1 (by decide) rfl (by decide) ?_
      refine v_aload_n 0 42 hF dX2_named_41 rfl rfl rfl ?_
      refine v_getI 45 hF dX2_named_42 rfl fl_X2_53 hT.1 rfl ?_
      exact v_iret hF dX2_named_45
    · refine v_ite (fun e1 => ?_) (fun n2 => ?_)
      · refine v_tsIn (2) (43) 46 hF dX2_named_3 e1 (by decide) rfl (by decide) ?_
        refine v_aload_n 0 47 hF dX2_named_46 rfl rfl rfl ?_
        refine v_getI 50 hF dX2_named_47 rfl fl_X2_56 hT.1 rfl ?_
        exact v_iret hF dX2_named_50
      · refine v_ite (fun e1 => ?_) (fun n3 => ?_)
        · refine v_tsIn (3) (48) 51 hF dX2_named_3 e1 (by decide) rfl (by decide) ?_
          refine v_aload_n 0 52 hF dX2_named_51 rfl rfl rfl ?_
          refine v_getI 55 hF dX2_named_52 rfl fl_X2_59 hT.1 rfl ?_
          exact v_iret hF dX2_named_55
        · refine v_ite (fun e1 => ?_) (fun n4 => ?_)
          · refine v_tsIn (4) (53) 56 hF dX2_named_3 e1 (by decide) rfl (by decide) ?_
            refine v_aload_n 0 57 hF dX2_named_56 rfl rfl rfl ?_
            refine v_getI 60 hF dX2_named_57 rfl fl_X2_62 hT.1 rfl ?_
            exact v_iret hF dX2_named_60
          · refine v_tsOut 61 hF dX2_named_3 (by have a0 := lv_neT n0 (a := (0)) (by decide); have a1 := lv_neT n1 (a := (1)) (by decide); have a2 := lv_neT n2 (a := (2)) (by decide); have a3 := lv_neT n3 (a := (3)) (by decide); have a4 := lv_neT n4 (a := (4)) (by decide); omega) (by decide) ?_
            refine v_aload_n 0 62 hF dX2_named_61 rfl rfl rfl ?_
            refine v_getI 65 hF dX2_named_62 rfl fl_X2_65 hT.1 rfl ?_
            exact v_iret hF dX2_named_65
abbrev rmX2_value : Room := { frames := 1, cells := 0, slots := 0, locals := 22 }
def m_X2_value_J219 (x4 : Int32) (M : Mm) : Option (Int32 × Mm) := if x4 ≤ 0 then (some ((0 : Int32), M)) else (gd (inr ((0 : Int32)) 64) (some ((M 4 ((0 : Int32)).toNatClampNeg), M)))
def m_X2_value_J209 (n46 : Int32 → Int32 → Int32 → Mm → Option (Int32 × Mm)) (x3 : Int32) (x4 : Int32) (x5 : Int32) (s0 : Int32) (s1 : Int32) (M : Mm) : Option (Int32 × Mm) := gd (inr s1 64) (lt1 (up M 4 s1.toNatClampNeg s0) fun M1 => lt1 (x4 + 1) fun y2 => lt1 (x5 + 1) fun y3 => n46 x3 y2 y3 M1)
def m_X2_value_J161 (n46 : Int32 → Int32 → Int32 → Mm → Option (Int32 × Mm)) (x3 : Int32) (x4 : Int32) (x5 : Int32) (x6 : Int32) (x7 : Int32) (x8 : Int32) (s0 : Int32) (M : Mm) : Option (Int32 × Mm) := lt1 s0 fun y4 => lt1 ((x4 - x7)) fun y5 => if x6 < 0 then (if x7 = 0 then (bd (m_X2_named x6 M) fun r9 M8 => m_X2_value_J209 n46 x3 y5 x5 r9 y5 M8) else (bd (m_X2_joined x6 y4 x8 M) fun r7 M6 => m_X2_value_J209 n46 x3 y5 x5 r7 y5 M6)) else (m_X2_value_J209 n46 x3 y5 x5 x6 y5 M)
def m_X2_value_J140 (n46 : Int32 → Int32 → Int32 → Mm → Option (Int32 × Mm)) (x3 : Int32) (x4 : Int32) (x5 : Int32) (x6 : Int32) (x7 : Int32) (s0 : Int32) (M : Mm) : Option (Int32 × Mm) := lt1 s0 fun y10 => if x7 ≤ (1 : Int32) then (m_X2_value_J161 n46 x3 x4 x5 x6 x7 y10 ((0 : Int32)) M) else (gd (inr ((x4 - (2 : Int32))) 64) (m_X2_value_J161 n46 x3 x4 x5 x6 x7 y10 ((M 4 ((x4 - (2 : Int32))).toNatClampNeg)) M))
def m_X2_value_J101 (n46 : Int32 → Int32 → Int32 → Mm → Option (Int32 × Mm)) (x3 : Int32) (x4 : Int32) (x5 : Int32) (x6 : Int32) (s0 : Int32) (M : Mm) : Option (Int32 × Mm) := lt1 s0 fun y11 => if x4 < y11 then (some ((0 : Int32), M)) else (if x4 < (64 : Int32) then (if y11 ≤ 0 then (m_X2_value_J140 n46 x3 x4 x5 x6 y11 ((0 : Int32)) M) else (gd (inr ((x4 - (1 : Int32))) 64) (m_X2_value_J140 n46 x3 x4 x5 x6 y11 ((M 4 ((x4 - (1 : Int32))).toNatClampNeg)) M))) else (some ((0 : Int32), M)))
def m_X2_value_B46 (n46 : Int32 → Int32 → Int32 → Mm → Option (Int32 × Mm)) (x3 : Int32) (x4 : Int32) (x5 : Int32) (M : Mm) : Option (Int32 × Mm) := gd (inr ((x3 + (1 : Int32))) 19) (if (M 3 ((x3 + (1 : Int32))).toNatClampNeg) ≤ x5 then (m_X2_value_J219 x4 M) else (if (960 : Int32) ≤ x5 then (m_X2_value_J219 x4 M) else (gd (inr x5 960) (lt1 ((M 2 x5.toNatClampNeg)) fun y12 => if y12 ≤ (-11 : Int32) then (if y12 ≤ (-21 : Int32) then (m_X2_value_J101 n46 x3 x4 x5 y12 ((1 : Int32)) M) else (m_X2_value_J101 n46 x3 x4 x5 y12 ((2 : Int32)) M)) else (m_X2_value_J101 n46 x3 x4 x5 y12 ((0 : Int32)) M)))))
def m_X2_value_L46 : Nat → Int32 → Int32 → Int32 → Mm → Option (Int32 × Mm)
  | 0 => fun _ _ _ _ => none
  | n + 1 => m_X2_value_B46  (m_X2_value_L46  n)
def m_X2_value (x1 : Int32) (x2 : Int32) (M : Mm) : Option (Int32 × Mm) := lt1 (((x1 * (3 : Int32)) + x2)) fun y13 => bd (m_X2_isText x1 M) fun r15 M14 => if r15 = 0 then (some ((0 : Int32), M14)) else (if y13 < 0 then (some ((0 : Int32), M14)) else (if (y13 + (1 : Int32)) < (19 : Int32) then (lt1 ((0 : Int32)) fun y16 => gd (inr y13 19) (lt1 ((mmax ((0 : Int32)) ((M14 3 y13.toNatClampNeg)))) fun y17 => m_X2_value_L46 FU y13 y16 y17 M14)) else (some ((0 : Int32), M14))))
set_option maxRecDepth 100000 in
set_option maxHeartbeats 4000000 in
theorem v_X2_value_J219 {X : Cx} {G : Gx} {sh : List Sh} (hF : FX X G sh 10 cX2_value (yX2_value).cls (some .int) rmX2_value) (hT : TexAt sh) : ∀ (x4 : Int32) (M : Mm), VR X G sh 10 rvI M 219 [(0, .ref (G.2.2.2.2 1)), (4, .int x4)] [] (m_X2_value_J219  x4 M) := by
  intro x4 M
  unfold m_X2_value_J219
  refine v_iload 1 221 hF dX2_value_219 rfl rfl ?_
  refine v_if_le 224 233 hF dX2_value_221 rfl (by decide) (fun _ => ?_) (fun _ => ?_)
  · refine v_iconst (0) 234 hF dX2_value_233 rfl (by decide) ?_
    exact v_iret hF dX2_value_234
  · refine v_aload_n 0 225 hF dX2_value_224 rfl rfl rfl ?_
    refine v_getR (b := 4) 228 hF dX2_value_225 rfl fl_X2_18 hT.1 rfl ?_
    refine v_iconst (0) 229 hF dX2_value_228 rfl (by decide) ?_
    refine v_iald 230 hF dX2_value_229 rfl (hT.2.2.2) ?_
    refine v_goto 234 hF dX2_value_230 (by decide) ?_
    exact v_iret hF dX2_value_234
set_option maxRecDepth 100000 in
set_option maxHeartbeats 4000000 in
theorem v_X2_value_J209 {X : Cx} {G : Gx} {sh : List Sh} (hF : FX X G sh 10 cX2_value (yX2_value).cls (some .int) rmX2_value) (hT : TexAt sh) (n46 : Int32 → Int32 → Int32 → Mm → Option (Int32 × Mm)) (h46 : ∀ (x3 : Int32) (x4 : Int32) (x5 : Int32) (M : Mm), VR X G sh 10 rvI M 46 [(0, .ref (G.2.2.2.2 1)), (3, .int x3), (4, .int x4), (5, .int x5)] [] (n46 x3 x4 x5 M)) : ∀ (x3 : Int32) (x4 : Int32) (x5 : Int32) (s0 : Int32) (s1 : Int32) (M : Mm), VR X G sh 10 rvI M 209 [(0, .ref (G.2.2.2.2 1)), (3, .int x3), (4, .int x4), (5, .int x5)] [.int s0, .int s1, .ref (G.2.2.2.2 4)] (m_X2_value_J209  n46 x3 x4 x5 s0 s1 M) := by
  intro x3 x4 x5 s0 s1 M
  unfold m_X2_value_J209
  refine v_iast 210 hF dX2_value_209 rfl (hT.2.2.2) (fun M1 => ?_)
  refine v_iinc (v := (x4 + 1)) (lo' := fun y2 => [(4, .int y2), (0, .ref (G.2.2.2.2 1)), (3, .int x3), (5, .int x5)]) 2 213 hF dX2_value_210 rfl rfl rfl (by decide) (fun _ => rfl) (fun y2 => ?_)
  refine v_iinc (v := (x5 + 1)) (lo' := fun y3 => [(5, .int y3), (4, .int y2), (0, .ref (G.2.2.2.2 1)), (3, .int x3)]) 3 216 hF dX2_value_213 rfl rfl rfl (by decide) (fun _ => rfl) (fun y3 => ?_)
  refine v_goto 46 hF dX2_value_216 (by decide) ?_
  refine VR.pick [2, 3, 1, 0] rfl ?_
  exact h46 x3 y2 y3 M1
set_option maxRecDepth 100000 in
set_option maxHeartbeats 4000000 in
theorem v_X2_value_J161 {X : Cx} {G : Gx} {sh : List Sh} (hF : FX X G sh 10 cX2_value (yX2_value).cls (some .int) rmX2_value) (hT : TexAt sh) (n46 : Int32 → Int32 → Int32 → Mm → Option (Int32 × Mm)) (h46 : ∀ (x3 : Int32) (x4 : Int32) (x5 : Int32) (M : Mm), VR X G sh 10 rvI M 46 [(0, .ref (G.2.2.2.2 1)), (3, .int x3), (4, .int x4), (5, .int x5)] [] (n46 x3 x4 x5 M)) : ∀ (x3 : Int32) (x4 : Int32) (x5 : Int32) (x6 : Int32) (x7 : Int32) (x8 : Int32) (s0 : Int32) (M : Mm), VR X G sh 10 rvI M 161 [(0, .ref (G.2.2.2.2 1)), (3, .int x3), (4, .int x4), (5, .int x5), (6, .int x6), (7, .int x7), (8, .int x8)] [.int s0] (m_X2_value_J161  n46 x3 x4 x5 x6 x7 x8 s0 M) := by
  intro x3 x4 x5 x6 x7 x8 s0 M
  unfold m_X2_value_J161
  refine v_istore (lo' := fun y4 => [(9, .int y4), (0, .ref (G.2.2.2.2 1)), (3, .int x3), (4, .int x4), (5, .int x5), (6, .int x6), (7, .int x7), (8, .int x8)]) 163 hF dX2_value_161 rfl (by decide) (fun _ => rfl) (fun y4 => ?_)
  refine v_iload 3 165 hF dX2_value_163 rfl rfl ?_
  refine v_iload 6 167 hF dX2_value_165 rfl rfl ?_
  refine v_isub 168 hF dX2_value_167 rfl ?_
  refine v_istore (lo' := fun y5 => [(4, .int y5), (9, .int y4), (0, .ref (G.2.2.2.2 1)), (3, .int x3), (5, .int x5), (6, .int x6), (7, .int x7), (8, .int x8)]) 170 hF dX2_value_168 rfl (by decide) (fun _ => rfl) (fun y5 => ?_)
  refine v_aload_n 2 171 hF dX2_value_170 rfl rfl rfl ?_
  refine v_getR (b := 4) 174 hF dX2_value_171 rfl fl_X2_18 hT.1 rfl ?_
  refine v_iload 0 176 hF dX2_value_174 rfl rfl ?_
  refine v_iload 5 178 hF dX2_value_176 rfl rfl ?_
  refine v_if_lt 181 186 hF dX2_value_178 rfl (by decide) (fun _ => ?_) (fun _ => ?_)
  · refine v_iload 6 188 hF dX2_value_186 rfl rfl ?_
    refine v_if_ne 191 200 hF dX2_value_188 rfl (by decide) (fun _ => ?_) (fun _ => ?_)
    · refine v_iload 5 202 hF dX2_value_200 rfl rfl ?_
      refine v_iload 1 204 hF dX2_value_202 rfl rfl ?_
      refine v_iload 7 206 hF dX2_value_204 rfl rfl ?_
      refine v_staI ([.int x6, .int y4, .int x8]) ([.int y5, .ref (G.2.2.2.2 4)]) 209 hF dX2_value_206 rfl cw_X2_46 (c_X2_joined (G := G) (sh := sh) M x6 y4 x8) ⟨rfl, rfl, Nat.le_of_ble_eq_true rfl, Nat.le_of_ble_eq_true rfl⟩ rfl rfl (Nat.le_of_ble_eq_true rfl) (fun r7 M6 => ?_)
      refine VR.pick [2, 3, 0, 4] rfl ?_
      exact v_X2_value_J209 hF hT _ h46 x3 y5 x5 r7 y5 M6
    · refine v_aload_n 2 192 hF dX2_value_191 rfl rfl rfl ?_
      refine v_iload 5 194 hF dX2_value_192 rfl rfl ?_
      refine v_callI ([.int x6]) ([.int y5, .ref (G.2.2.2.2 4)]) 197 hF dX2_value_194 rfl cw_X2_42 rfl (hT.1) (c_X2_named (G := G) hT M x6) ⟨rfl, rfl, Nat.le_of_ble_eq_true rfl, Nat.le_of_ble_eq_true rfl⟩ rfl rfl (Nat.le_of_ble_eq_true rfl) (fun r9 M8 => ?_)
      refine v_goto 209 hF dX2_value_197 (by decide) ?_
      refine VR.pick [2, 3, 0, 4] rfl ?_
      exact v_X2_value_J209 hF hT _ h46 x3 y5 x5 r9 y5 M8
  · refine v_iload 5 183 hF dX2_value_181 rfl rfl ?_
    refine v_goto 209 hF dX2_value_183 (by decide) ?_
    refine VR.pick [2, 3, 0, 4] rfl ?_
    exact v_X2_value_J209 hF hT _ h46 x3 y5 x5 x6 y5 M
set_option maxRecDepth 100000 in
set_option maxHeartbeats 4000000 in
theorem v_X2_value_J140 {X : Cx} {G : Gx} {sh : List Sh} (hF : FX X G sh 10 cX2_value (yX2_value).cls (some .int) rmX2_value) (hT : TexAt sh) (n46 : Int32 → Int32 → Int32 → Mm → Option (Int32 × Mm)) (h46 : ∀ (x3 : Int32) (x4 : Int32) (x5 : Int32) (M : Mm), VR X G sh 10 rvI M 46 [(0, .ref (G.2.2.2.2 1)), (3, .int x3), (4, .int x4), (5, .int x5)] [] (n46 x3 x4 x5 M)) : ∀ (x3 : Int32) (x4 : Int32) (x5 : Int32) (x6 : Int32) (x7 : Int32) (s0 : Int32) (M : Mm), VR X G sh 10 rvI M 140 [(0, .ref (G.2.2.2.2 1)), (3, .int x3), (4, .int x4), (5, .int x5), (6, .int x6), (7, .int x7)] [.int s0] (m_X2_value_J140  n46 x3 x4 x5 x6 x7 s0 M) := by
  intro x3 x4 x5 x6 x7 s0 M
  unfold m_X2_value_J140
  refine v_istore (lo' := fun y10 => [(8, .int y10), (0, .ref (G.2.2.2.2 1)), (3, .int x3), (4, .int x4), (5, .int x5), (6, .int x6), (7, .int x7)]) 142 hF dX2_value_140 rfl (by decide) (fun _ => rfl) (fun y10 => ?_)
  refine v_iload 6 144 hF dX2_value_142 rfl rfl ?_
  refine v_iconst (1) 145 hF dX2_value_144 rfl (by decide) ?_
  refine v_icmp_le 148 160 hF dX2_value_145 rfl (by decide) (fun _ => ?_) (fun _ => ?_)
  · refine v_iconst (0) 161 hF dX2_value_160 rfl (by decide) ?_
    refine VR.pick [1, 2, 3, 4, 5, 6, 0] rfl ?_
    exact v_X2_value_J161 hF hT _ h46 x3 x4 x5 x6 x7 y10 ((0 : Int32)) M
  · refine v_aload_n 1 149 hF dX2_value_148 rfl rfl rfl ?_
    refine v_getR (b := 4) 152 hF dX2_value_149 rfl fl_X2_18 hT.1 rfl ?_
    refine v_iload 3 154 hF dX2_value_152 rfl rfl ?_
    refine v_iconst (2) 155 hF dX2_value_154 rfl (by decide) ?_
    refine v_isub 156 hF dX2_value_155 rfl ?_
    refine v_iald 157 hF dX2_value_156 rfl (hT.2.2.2) ?_
    refine v_goto 161 hF dX2_value_157 (by decide) ?_
    refine VR.pick [1, 2, 3, 4, 5, 6, 0] rfl ?_
    exact v_X2_value_J161 hF hT _ h46 x3 x4 x5 x6 x7 y10 ((M 4 ((x4 - (2 : Int32))).toNatClampNeg)) M
set_option maxRecDepth 100000 in
set_option maxHeartbeats 4000000 in
theorem v_X2_value_J101 {X : Cx} {G : Gx} {sh : List Sh} (hF : FX X G sh 10 cX2_value (yX2_value).cls (some .int) rmX2_value) (hT : TexAt sh) (n46 : Int32 → Int32 → Int32 → Mm → Option (Int32 × Mm)) (h46 : ∀ (x3 : Int32) (x4 : Int32) (x5 : Int32) (M : Mm), VR X G sh 10 rvI M 46 [(0, .ref (G.2.2.2.2 1)), (3, .int x3), (4, .int x4), (5, .int x5)] [] (n46 x3 x4 x5 M)) : ∀ (x3 : Int32) (x4 : Int32) (x5 : Int32) (x6 : Int32) (s0 : Int32) (M : Mm), VR X G sh 10 rvI M 101 [(0, .ref (G.2.2.2.2 1)), (3, .int x3), (4, .int x4), (5, .int x5), (6, .int x6)] [.int s0] (m_X2_value_J101  n46 x3 x4 x5 x6 s0 M) := by
  intro x3 x4 x5 x6 s0 M
  unfold m_X2_value_J101
  refine v_istore (lo' := fun y11 => [(7, .int y11), (0, .ref (G.2.2.2.2 1)), (3, .int x3), (4, .int x4), (5, .int x5), (6, .int x6)]) 103 hF dX2_value_101 rfl (by decide) (fun _ => rfl) (fun y11 => ?_)
  refine v_iload 3 105 hF dX2_value_103 rfl rfl ?_
  refine v_iload 0 107 hF dX2_value_105 rfl rfl ?_
  refine v_icmp_lt 110 120 hF dX2_value_107 rfl (by decide) (fun _ => ?_) (fun _ => ?_)
  · refine v_iconst (0) 121 hF dX2_value_120 rfl (by decide) ?_
    exact v_iret hF dX2_value_121
  · refine v_iload 3 112 hF dX2_value_110 rfl rfl ?_
    refine v_aload_n 1 113 hF dX2_value_112 rfl rfl rfl ?_
    refine v_getR (b := 4) 116 hF dX2_value_113 rfl fl_X2_18 hT.1 rfl ?_
    refine v_alen 64 117 hF dX2_value_116 rfl (hT.2.2.2) (Or.inl rfl) (by decide) ?_
    refine v_icmp_lt 120 122 hF dX2_value_117 rfl (by decide) (fun _ => ?_) (fun _ => ?_)
    · refine v_iload 0 124 hF dX2_value_122 rfl rfl ?_
      refine v_if_le 127 139 hF dX2_value_124 rfl (by decide) (fun _ => ?_) (fun _ => ?_)
      · refine v_iconst (0) 140 hF dX2_value_139 rfl (by decide) ?_
        refine VR.pick [1, 2, 3, 4, 5, 0] rfl ?_
        exact v_X2_value_J140 hF hT _ h46 x3 x4 x5 x6 y11 ((0 : Int32)) M
      · refine v_aload_n 1 128 hF dX2_value_127 rfl rfl rfl ?_
        refine v_getR (b := 4) 131 hF dX2_value_128 rfl fl_X2_18 hT.1 rfl ?_
        refine v_iload 3 133 hF dX2_value_131 rfl rfl ?_
        refine v_iconst (1) 134 hF dX2_value_133 rfl (by decide) ?_
        refine v_isub 135 hF dX2_value_134 rfl ?_
        refine v_iald 136 hF dX2_value_135 rfl (hT.2.2.2) ?_
        refine v_goto 140 hF dX2_value_136 (by decide) ?_
        refine VR.pick [1, 2, 3, 4, 5, 0] rfl ?_
        exact v_X2_value_J140 hF hT _ h46 x3 x4 x5 x6 y11 ((M 4 ((x4 - (1 : Int32))).toNatClampNeg)) M
    · refine v_iconst (0) 121 hF dX2_value_120 rfl (by decide) ?_
      exact v_iret hF dX2_value_121
set_option maxRecDepth 100000 in
set_option maxHeartbeats 4000000 in
theorem v_X2_value_B46 {X : Cx} {G : Gx} {sh : List Sh} (hF : FX X G sh 10 cX2_value (yX2_value).cls (some .int) rmX2_value) (hT : TexAt sh) (n46 : Int32 → Int32 → Int32 → Mm → Option (Int32 × Mm)) (h46 : ∀ (x3 : Int32) (x4 : Int32) (x5 : Int32) (M : Mm), VR X G sh 10 rvI M 46 [(0, .ref (G.2.2.2.2 1)), (3, .int x3), (4, .int x4), (5, .int x5)] [] (n46 x3 x4 x5 M)) : ∀ (x3 : Int32) (x4 : Int32) (x5 : Int32) (M : Mm), VR X G sh 10 rvI M 46 [(0, .ref (G.2.2.2.2 1)), (3, .int x3), (4, .int x4), (5, .int x5)] [] (m_X2_value_B46  n46 x3 x4 x5 M) := by
  intro x3 x4 x5 M
  unfold m_X2_value_B46
  refine v_iload 3 48 hF dX2_value_46 rfl rfl ?_
  refine v_aload_n 0 49 hF dX2_value_48 rfl rfl rfl ?_
  refine v_getR (b := 3) 52 hF dX2_value_49 rfl fl_X2_15 hT.1 rfl ?_
  refine v_iload_n 1 53 hF dX2_value_52 rfl rfl rfl ?_
  refine v_iconst (1) 54 hF dX2_value_53 rfl (by decide) ?_
  refine v_iadd 55 hF dX2_value_54 rfl ?_
  refine v_iald 56 hF dX2_value_55 rfl (hT.2.2.1) ?_
  refine v_icmp_ge 59 219 hF dX2_value_56 rfl (by decide) (fun _ => ?_) (fun _ => ?_)
  · refine VR.pick [0, 2] rfl ?_
    exact v_X2_value_J219 hF hT x4 M
  · refine v_iload 3 61 hF dX2_value_59 rfl rfl ?_
    refine v_aload_n 0 62 hF dX2_value_61 rfl rfl rfl ?_
    refine v_getR (b := 2) 65 hF dX2_value_62 rfl fl_X2_11 hT.1 rfl ?_
    refine v_alen 960 66 hF dX2_value_65 rfl (hT.2.1) (Or.inl rfl) (by decide) ?_
    refine v_icmp_ge 69 219 hF dX2_value_66 rfl (by decide) (fun _ => ?_) (fun _ => ?_)
    · refine VR.pick [0, 2] rfl ?_
      exact v_X2_value_J219 hF hT x4 M
    · refine v_aload_n 0 70 hF dX2_value_69 rfl rfl rfl ?_
      refine v_getR (b := 2) 73 hF dX2_value_70 rfl fl_X2_11 hT.1 rfl ?_
      refine v_iload 3 75 hF dX2_value_73 rfl rfl ?_
      refine v_iald 76 hF dX2_value_75 rfl (hT.2.1) ?_
      refine v_istore (lo' := fun y12 => [(6, .int y12), (0, .ref (G.2.2.2.2 1)), (3, .int x3), (4, .int x4), (5, .int x5)]) 78 hF dX2_value_76 rfl (by decide) (fun _ => rfl) (fun y12 => ?_)
      refine v_iload 0 80 hF dX2_value_78 rfl rfl ?_
      refine v_bipush (-11) 82 hF dX2_value_80 rfl (by decide) ?_
      refine v_icmp_le 85 89 hF dX2_value_82 rfl (by decide) (fun _ => ?_) (fun _ => ?_)
      · refine v_iload 0 91 hF dX2_value_89 rfl rfl ?_
        refine v_bipush (-21) 93 hF dX2_value_91 rfl (by decide) ?_
        refine v_icmp_le 96 100 hF dX2_value_93 rfl (by decide) (fun _ => ?_) (fun _ => ?_)
        · refine v_iconst (1) 101 hF dX2_value_100 rfl (by decide) ?_
          refine VR.pick [1, 2, 3, 4, 0] rfl ?_
          exact v_X2_value_J101 hF hT _ h46 x3 x4 x5 y12 ((1 : Int32)) M
        · refine v_iconst (2) 97 hF dX2_value_96 rfl (by decide) ?_
          refine v_goto 101 hF dX2_value_97 (by decide) ?_
          refine VR.pick [1, 2, 3, 4, 0] rfl ?_
          exact v_X2_value_J101 hF hT _ h46 x3 x4 x5 y12 ((2 : Int32)) M
      · refine v_iconst (0) 86 hF dX2_value_85 rfl (by decide) ?_
        refine v_goto 101 hF dX2_value_86 (by decide) ?_
        refine VR.pick [1, 2, 3, 4, 0] rfl ?_
        exact v_X2_value_J101 hF hT _ h46 x3 x4 x5 y12 ((0 : Int32)) M
theorem v_X2_value_L46 {X : Cx} {G : Gx} {sh : List Sh} (hF : FX X G sh 10 cX2_value (yX2_value).cls (some .int) rmX2_value) (hT : TexAt sh) : ∀ (n : Nat), ∀ (x3 : Int32) (x4 : Int32) (x5 : Int32) (M : Mm), VR X G sh 10 rvI M 46 [(0, .ref (G.2.2.2.2 1)), (3, .int x3), (4, .int x4), (5, .int x5)] [] (m_X2_value_L46  n x3 x4 x5 M) := by
  intro n
  induction n with
  | zero => intro x3 x4 x5 M; exact VR.none
  | succ n ih => exact v_X2_value_B46 hF hT _ ih
set_option maxRecDepth 100000 in
set_option maxHeartbeats 4000000 in
theorem c_X2_value {G : Gx} {sh : List Sh} (hT : TexAt sh) (M : Mm) (x1 : Int32) (x2 : Int32) : CT yX2_value cX2_value 10 (some .int) rmX2_value G sh [.ref (G.2.2.2.2 1), .int x1, .int x2] rvI M (m_X2_value  x1 x2 M) := by
  refine CT.of (by decide +kernel) (Nat.le_of_ble_eq_true rfl) (fun X hF => ?_)
  show VR X G sh 10 rvI M 0 [(0, .ref (G.2.2.2.2 1)), (1, .int x1), (2, .int x2)] [] _
  unfold m_X2_value
  refine v_iload_n 1 1 hF dX2_value_0 rfl rfl rfl ?_
  refine v_iconst (3) 2 hF dX2_value_1 rfl (by decide) ?_
  refine v_imul 3 hF dX2_value_2 rfl ?_
  refine v_iload_n 2 4 hF dX2_value_3 rfl rfl rfl ?_
  refine v_iadd 5 hF dX2_value_4 rfl ?_
  refine v_istore_n (lo' := fun y13 => [(3, .int y13), (0, .ref (G.2.2.2.2 1)), (1, .int x1), (2, .int x2)]) 6 hF dX2_value_5 rfl rfl (by decide) (fun _ => rfl) (fun y13 => ?_)
  refine v_aload_n 1 7 hF dX2_value_6 rfl rfl rfl ?_
  refine v_iload_n 2 8 hF dX2_value_7 rfl rfl rfl ?_
  refine v_callI ([.int x1]) ([]) 11 hF dX2_value_8 rfl cw_X2_32 rfl (hT.1) (c_X2_isText (G := G) hT M x1) ⟨rfl, rfl, Nat.le_of_ble_eq_true rfl, Nat.le_of_ble_eq_true rfl⟩ rfl rfl (Nat.le_of_ble_eq_true rfl) (fun r15 M14 => ?_)
  refine v_if_eq 14 29 hF dX2_value_11 rfl (by decide) (fun _ => ?_) (fun _ => ?_)
  · refine v_iconst (0) 30 hF dX2_value_29 rfl (by decide) ?_
    exact v_iret hF dX2_value_30
  · refine v_iload_n 0 15 hF dX2_value_14 rfl rfl rfl ?_
    refine v_if_lt 18 29 hF dX2_value_15 rfl (by decide) (fun _ => ?_) (fun _ => ?_)
    · refine v_iconst (0) 30 hF dX2_value_29 rfl (by decide) ?_
      exact v_iret hF dX2_value_30
    · refine v_iload_n 0 19 hF dX2_value_18 rfl rfl rfl ?_
      refine v_iconst (1) 20 hF dX2_value_19 rfl (by decide) ?_
      refine v_iadd 21 hF dX2_value_20 rfl ?_
      refine v_aload_n 1 22 hF dX2_value_21 rfl rfl rfl ?_
      refine v_getR (b := 3) 25 hF dX2_value_22 rfl fl_X2_15 hT.1 rfl ?_
      refine v_alen 19 26 hF dX2_value_25 rfl (hT.2.2.1) (Or.inl rfl) (by decide) ?_
      refine v_icmp_lt 29 31 hF dX2_value_26 rfl (by decide) (fun _ => ?_) (fun _ => ?_)
      · refine v_iconst (0) 32 hF dX2_value_31 rfl (by decide) ?_
        refine v_istore (lo' := fun y16 => [(4, .int y16), (3, .int y13), (0, .ref (G.2.2.2.2 1)), (1, .int x1), (2, .int x2)]) 34 hF dX2_value_32 rfl (by decide) (fun _ => rfl) (fun y16 => ?_)
        refine v_iconst (0) 35 hF dX2_value_34 rfl (by decide) ?_
        refine v_aload_n 2 36 hF dX2_value_35 rfl rfl rfl ?_
        refine v_getR (b := 3) 39 hF dX2_value_36 rfl fl_X2_15 hT.1 rfl ?_
        refine v_iload_n 1 40 hF dX2_value_39 rfl rfl rfl ?_
        refine v_iald 41 hF dX2_value_40 rfl (hT.2.2.1) ?_
        refine v_mmax 44 hF dX2_value_41 rfl cm_X2_36 ⟨Nat.le_of_ble_eq_true rfl, Nat.le_of_ble_eq_true rfl⟩ ?_
        refine v_istore (lo' := fun y17 => [(5, .int y17), (4, .int y16), (3, .int y13), (0, .ref (G.2.2.2.2 1)), (1, .int x1), (2, .int x2)]) 46 hF dX2_value_44 rfl (by decide) (fun _ => rfl) (fun y17 => ?_)
        refine VR.pick [3, 2, 1, 0] rfl ?_
        exact v_X2_value_L46 hF hT FU y13 y16 y17 M14
      · refine v_iconst (0) 30 hF dX2_value_29 rfl (by decide) ?_
        exact v_iret hF dX2_value_30
abbrev rmX3_takeOver : Room := { frames := 0, cells := 0, slots := 0, locals := 0 }
def m_X3_takeOver_B96 (v : Nat) (w : Nat) (n96 : Int32 → Mm → Option (Unit × Mm)) (x2 : Int32) (M : Mm) : Option (Unit × Mm) := if (8 : Int32) ≤ x2 then (some ((), M)) else (gd (inr x2 8) (gd (inr x2 8) (lt1 (up M (v + 4) x2.toNatClampNeg ((M (w + 4) x2.toNatClampNeg))) fun M1 => gd (inr x2 8) (gd (inr x2 8) (lt1 (up M1 (v + 5) x2.toNatClampNeg ((M1 (w + 5) x2.toNatClampNeg))) fun M2 => gd (inr x2 8) (gd (inr x2 8) (lt1 (up M2 (v + 6) x2.toNatClampNeg ((M2 (w + 6) x2.toNatClampNeg))) fun M3 => gd (inr x2 8) (gd (inr x2 8) (lt1 (up M3 (v + 7) x2.toNatClampNeg ((M3 (w + 7) x2.toNatClampNeg))) fun M4 => gd (inr x2 8) (gd (inr x2 8) (lt1 (up M4 (v + 8) x2.toNatClampNeg ((M4 (w + 8) x2.toNatClampNeg))) fun M5 => lt1 (x2 + 1) fun y6 => n96 y6 M5)))))))))))
def m_X3_takeOver_L96 (v : Nat) (w : Nat) : Nat → Int32 → Mm → Option (Unit × Mm)
  | 0 => fun _ _ => none
  | n + 1 => m_X3_takeOver_B96 v w (m_X3_takeOver_L96 v w n)
def m_X3_takeOver_B47 (v : Nat) (w : Nat) (n47 : Int32 → Mm → Option (Unit × Mm)) (x2 : Int32) (M : Mm) : Option (Unit × Mm) := if (5 : Int32) ≤ x2 then (lt1 ((0 : Int32)) fun y7 => m_X3_takeOver_L96 v w FU y7 M) else (gd (inr x2 5) (gd (inr x2 5) (lt1 (up M (v + 1) x2.toNatClampNeg ((M (w + 1) x2.toNatClampNeg))) fun M8 => gd (inr x2 5) (gd (inr x2 5) (lt1 (up M8 (v + 2) x2.toNatClampNeg ((M8 (w + 2) x2.toNatClampNeg))) fun M9 => gd (inr x2 5) (gd (inr x2 5) (lt1 (up M9 (v + 3) x2.toNatClampNeg ((M9 (w + 3) x2.toNatClampNeg))) fun M10 => lt1 (x2 + 1) fun y11 => n47 y11 M10)))))))
def m_X3_takeOver_L47 (v : Nat) (w : Nat) : Nat → Int32 → Mm → Option (Unit × Mm)
  | 0 => fun _ _ => none
  | n + 1 => m_X3_takeOver_B47 v w (m_X3_takeOver_L47 v w n)
def m_X3_takeOver (v : Nat) (w : Nat)  (M : Mm) : Option (Unit × Mm) := lt1 (up M v 1 ((M w 1))) fun M12 => lt1 (up M12 v 2 ((M12 w 2))) fun M13 => lt1 (up M13 v 3 ((M13 w 3))) fun M14 => lt1 (up M14 v 4 ((M14 w 4))) fun M15 => lt1 (up M15 v 5 ((M15 w 5))) fun M16 => lt1 (up M16 v 6 ((0 : Int32))) fun M17 => lt1 ((0 : Int32)) fun y18 => m_X3_takeOver_L47 v w FU y18 M17
set_option maxRecDepth 100000 in
set_option maxHeartbeats 4000000 in
theorem v_X3_takeOver_B96 {X : Cx} {G : Gx} {sh : List Sh} (hF : FX X G sh 3 cX3_takeOver (yX3_takeOver).cls none rmX3_takeOver) {v : Nat} {w : Nat} (hT : TexAt sh) (hv : VilAt sh v) (hw : VilAt sh w) (n96 : Int32 → Mm → Option (Unit × Mm)) (h96 : ∀ (x2 : Int32) (M : Mm), VR X G sh 3 rvV M 96 [(0, .ref (G.2.2.2.2 v)), (1, .ref (G.2.2.2.2 w)), (2, .int x2)] [] (n96 x2 M)) : ∀ (x2 : Int32) (M : Mm), VR X G sh 3 rvV M 96 [(0, .ref (G.2.2.2.2 v)), (1, .ref (G.2.2.2.2 w)), (2, .int x2)] [] (m_X3_takeOver_B96 v w n96 x2 M) := by
  intro x2 M
  unfold m_X3_takeOver_B96
  refine v_iload_n 2 97 hF dX3_takeOver_96 rfl rfl rfl ?_
  refine v_bipush (8) 99 hF dX3_takeOver_97 rfl (by decide) ?_
  refine v_icmp_ge 102 168 hF dX3_takeOver_99 rfl (by decide) (fun _ => ?_) (fun _ => ?_)
  · exact v_vret hF dX3_takeOver_168
  · refine v_aload_n 0 103 hF dX3_takeOver_102 rfl rfl rfl ?_
    refine v_getR (b := v + 4) 106 hF dX3_takeOver_103 rfl fl_X3_25 hv.1 rfl ?_
    refine v_iload_n 2 107 hF dX3_takeOver_106 rfl rfl rfl ?_
    refine v_aload_n 1 108 hF dX3_takeOver_107 rfl rfl rfl ?_
    refine v_getR (b := w + 4) 111 hF dX3_takeOver_108 rfl fl_X3_25 hw.1 rfl ?_
    refine v_iload_n 2 112 hF dX3_takeOver_111 rfl rfl rfl ?_
    refine v_iald 113 hF dX3_takeOver_112 rfl (hw.2.2.2.2.1) ?_
    refine v_iast 114 hF dX3_takeOver_113 rfl (hv.2.2.2.2.1) (fun M1 => ?_)
    refine v_aload_n 0 115 hF dX3_takeOver_114 rfl rfl rfl ?_
    refine v_getR (b := v + 5) 118 hF dX3_takeOver_115 rfl fl_X3_28 hv.1 rfl ?_
    refine v_iload_n 2 119 hF dX3_takeOver_118 rfl rfl rfl ?_
    refine v_aload_n 1 120 hF dX3_takeOver_119 rfl rfl rfl ?_
    refine v_getR (b := w + 5) 123 hF dX3_takeOver_120 rfl fl_X3_28 hw.1 rfl ?_
    refine v_iload_n 2 124 hF dX3_takeOver_123 rfl rfl rfl ?_
    refine v_iald 125 hF dX3_takeOver_124 rfl (hw.2.2.2.2.2.1) ?_
    refine v_iast 126 hF dX3_takeOver_125 rfl (hv.2.2.2.2.2.1) (fun M2 => ?_)
    refine v_aload_n 0 127 hF dX3_takeOver_126 rfl rfl rfl ?_
    refine v_getR (b := v + 6) 130 hF dX3_takeOver_127 rfl fl_X3_31 hv.1 rfl ?_
    refine v_iload_n 2 131 hF dX3_takeOver_130 rfl rfl rfl ?_
    refine v_aload_n 1 132 hF dX3_takeOver_131 rfl rfl rfl ?_
    refine v_getR (b := w + 6) 135 hF dX3_takeOver_132 rfl fl_X3_31 hw.1 rfl ?_
    refine v_iload_n 2 136 hF dX3_takeOver_135 rfl rfl rfl ?_
    refine v_iald 137 hF dX3_takeOver_136 rfl (hw.2.2.2.2.2.2.1) ?_
    refine v_iast 138 hF dX3_takeOver_137 rfl (hv.2.2.2.2.2.2.1) (fun M3 => ?_)
    refine v_aload_n 0 139 hF dX3_takeOver_138 rfl rfl rfl ?_
    refine v_getR (b := v + 7) 142 hF dX3_takeOver_139 rfl fl_X3_34 hv.1 rfl ?_
    refine v_iload_n 2 143 hF dX3_takeOver_142 rfl rfl rfl ?_
    refine v_aload_n 1 144 hF dX3_takeOver_143 rfl rfl rfl ?_
    refine v_getR (b := w + 7) 147 hF dX3_takeOver_144 rfl fl_X3_34 hw.1 rfl ?_
    refine v_iload_n 2 148 hF dX3_takeOver_147 rfl rfl rfl ?_
    refine v_iald 149 hF dX3_takeOver_148 rfl (hw.2.2.2.2.2.2.2.1) ?_
    refine v_iast 150 hF dX3_takeOver_149 rfl (hv.2.2.2.2.2.2.2.1) (fun M4 => ?_)
    refine v_aload_n 0 151 hF dX3_takeOver_150 rfl rfl rfl ?_
    refine v_getR (b := v + 8) 154 hF dX3_takeOver_151 rfl fl_X3_37 hv.1 rfl ?_
    refine v_iload_n 2 155 hF dX3_takeOver_154 rfl rfl rfl ?_
    refine v_aload_n 1 156 hF dX3_takeOver_155 rfl rfl rfl ?_
    refine v_getR (b := w + 8) 159 hF dX3_takeOver_156 rfl fl_X3_37 hw.1 rfl ?_
    refine v_iload_n 2 160 hF dX3_takeOver_159 rfl rfl rfl ?_
    refine v_iald 161 hF dX3_takeOver_160 rfl (hw.2.2.2.2.2.2.2.2) ?_
    refine v_iast 162 hF dX3_takeOver_161 rfl (hv.2.2.2.2.2.2.2.2) (fun M5 => ?_)
    refine v_iinc (v := (x2 + 1)) (lo' := fun y6 => [(2, .int y6), (0, .ref (G.2.2.2.2 v)), (1, .ref (G.2.2.2.2 w))]) 2 165 hF dX3_takeOver_162 rfl rfl rfl (by decide) (fun _ => rfl) (fun y6 => ?_)
    refine v_goto 96 hF dX3_takeOver_165 (by decide) ?_
    refine VR.pick [1, 2, 0] rfl ?_
    exact h96 y6 M5
theorem v_X3_takeOver_L96 {X : Cx} {G : Gx} {sh : List Sh} (hF : FX X G sh 3 cX3_takeOver (yX3_takeOver).cls none rmX3_takeOver) {v : Nat} {w : Nat} (hT : TexAt sh) (hv : VilAt sh v) (hw : VilAt sh w) : ∀ (n : Nat), ∀ (x2 : Int32) (M : Mm), VR X G sh 3 rvV M 96 [(0, .ref (G.2.2.2.2 v)), (1, .ref (G.2.2.2.2 w)), (2, .int x2)] [] (m_X3_takeOver_L96 v w n x2 M) := by
  intro n
  induction n with
  | zero => intro x2 M; exact VR.none
  | succ n ih => exact v_X3_takeOver_B96 hF hT hv hw _ ih
set_option maxRecDepth 100000 in
set_option maxHeartbeats 4000000 in
theorem v_X3_takeOver_B47 {X : Cx} {G : Gx} {sh : List Sh} (hF : FX X G sh 3 cX3_takeOver (yX3_takeOver).cls none rmX3_takeOver) {v : Nat} {w : Nat} (hT : TexAt sh) (hv : VilAt sh v) (hw : VilAt sh w) (n47 : Int32 → Mm → Option (Unit × Mm)) (h47 : ∀ (x2 : Int32) (M : Mm), VR X G sh 3 rvV M 47 [(0, .ref (G.2.2.2.2 v)), (1, .ref (G.2.2.2.2 w)), (2, .int x2)] [] (n47 x2 M)) : ∀ (x2 : Int32) (M : Mm), VR X G sh 3 rvV M 47 [(0, .ref (G.2.2.2.2 v)), (1, .ref (G.2.2.2.2 w)), (2, .int x2)] [] (m_X3_takeOver_B47 v w n47 x2 M) := by
  intro x2 M
  unfold m_X3_takeOver_B47
  refine v_iload_n 2 48 hF dX3_takeOver_47 rfl rfl rfl ?_
  refine v_iconst (5) 49 hF dX3_takeOver_48 rfl (by decide) ?_
  refine v_icmp_ge 52 94 hF dX3_takeOver_49 rfl (by decide) (fun _ => ?_) (fun _ => ?_)
  · refine v_iconst (0) 95 hF dX3_takeOver_94 rfl (by decide) ?_
    refine v_istore_n (lo' := fun y7 => [(2, .int y7), (0, .ref (G.2.2.2.2 v)), (1, .ref (G.2.2.2.2 w))]) 96 hF dX3_takeOver_95 rfl rfl (by decide) (fun _ => rfl) (fun y7 => ?_)
    refine VR.pick [1, 2, 0] rfl ?_
    exact v_X3_takeOver_L96 hF hT hv hw FU y7 M
  · refine v_aload_n 0 53 hF dX3_takeOver_52 rfl rfl rfl ?_
    refine v_getR (b := v + 1) 56 hF dX3_takeOver_53 rfl fl_X3_15 hv.1 rfl ?_
    refine v_iload_n 2 57 hF dX3_takeOver_56 rfl rfl rfl ?_
    refine v_aload_n 1 58 hF dX3_takeOver_57 rfl rfl rfl ?_
    refine v_getR (b := w + 1) 61 hF dX3_takeOver_58 rfl fl_X3_15 hw.1 rfl ?_
    refine v_iload_n 2 62 hF dX3_takeOver_61 rfl rfl rfl ?_
    refine v_iald 63 hF dX3_takeOver_62 rfl (hw.2.1) ?_
    refine v_iast 64 hF dX3_takeOver_63 rfl (hv.2.1) (fun M8 => ?_)
    refine v_aload_n 0 65 hF dX3_takeOver_64 rfl rfl rfl ?_
    refine v_getR (b := v + 2) 68 hF dX3_takeOver_65 rfl fl_X3_19 hv.1 rfl ?_
    refine v_iload_n 2 69 hF dX3_takeOver_68 rfl rfl rfl ?_
    refine v_aload_n 1 70 hF dX3_takeOver_69 rfl rfl rfl ?_
    refine v_getR (b := w + 2) 73 hF dX3_takeOver_70 rfl fl_X3_19 hw.1 rfl ?_
    refine v_iload_n 2 74 hF dX3_takeOver_73 rfl rfl rfl ?_
    refine v_iald 75 hF dX3_takeOver_74 rfl (hw.2.2.1) ?_
    refine v_iast 76 hF dX3_takeOver_75 rfl (hv.2.2.1) (fun M9 => ?_)
    refine v_aload_n 0 77 hF dX3_takeOver_76 rfl rfl rfl ?_
    refine v_getR (b := v + 3) 80 hF dX3_takeOver_77 rfl fl_X3_22 hv.1 rfl ?_
    refine v_iload_n 2 81 hF dX3_takeOver_80 rfl rfl rfl ?_
    refine v_aload_n 1 82 hF dX3_takeOver_81 rfl rfl rfl ?_
    refine v_getR (b := w + 3) 85 hF dX3_takeOver_82 rfl fl_X3_22 hw.1 rfl ?_
    refine v_iload_n 2 86 hF dX3_takeOver_85 rfl rfl rfl ?_
    refine v_iald 87 hF dX3_takeOver_86 rfl (hw.2.2.2.1) ?_
    refine v_iast 88 hF dX3_takeOver_87 rfl (hv.2.2.2.1) (fun M10 => ?_)
    refine v_iinc (v := (x2 + 1)) (lo' := fun y11 => [(2, .int y11), (0, .ref (G.2.2.2.2 v)), (1, .ref (G.2.2.2.2 w))]) 2 91 hF dX3_takeOver_88 rfl rfl rfl (by decide) (fun _ => rfl) (fun y11 => ?_)
    refine v_goto 47 hF dX3_takeOver_91 (by decide) ?_
    refine VR.pick [1, 2, 0] rfl ?_
    exact h47 y11 M10
theorem v_X3_takeOver_L47 {X : Cx} {G : Gx} {sh : List Sh} (hF : FX X G sh 3 cX3_takeOver (yX3_takeOver).cls none rmX3_takeOver) {v : Nat} {w : Nat} (hT : TexAt sh) (hv : VilAt sh v) (hw : VilAt sh w) : ∀ (n : Nat), ∀ (x2 : Int32) (M : Mm), VR X G sh 3 rvV M 47 [(0, .ref (G.2.2.2.2 v)), (1, .ref (G.2.2.2.2 w)), (2, .int x2)] [] (m_X3_takeOver_L47 v w n x2 M) := by
  intro n
  induction n with
  | zero => intro x2 M; exact VR.none
  | succ n ih => exact v_X3_takeOver_B47 hF hT hv hw _ ih
set_option maxRecDepth 100000 in
set_option maxHeartbeats 4000000 in
theorem c_X3_takeOver {G : Gx} {sh : List Sh} {v : Nat} {w : Nat} (hT : TexAt sh) (hv : VilAt sh v) (hw : VilAt sh w) (M : Mm)  : CT yX3_takeOver cX3_takeOver 3 none rmX3_takeOver G sh [.ref (G.2.2.2.2 v), .ref (G.2.2.2.2 w)] rvV M (m_X3_takeOver v w  M) := by
  refine CT.of (by decide +kernel) (Nat.le_of_ble_eq_true rfl) (fun X hF => ?_)
  show VR X G sh 3 rvV M 0 [(0, .ref (G.2.2.2.2 v)), (1, .ref (G.2.2.2.2 w))] [] _
  unfold m_X3_takeOver
  refine v_aload_n 0 1 hF dX3_takeOver_0 rfl rfl rfl ?_
  refine v_aload_n 1 2 hF dX3_takeOver_1 rfl rfl rfl ?_
  refine v_getI 5 hF dX3_takeOver_2 rfl fl_X3_44 hw.1 rfl ?_
  refine v_putI 8 hF dX3_takeOver_5 rfl fl_X3_44 fp_X3_1 hv.1 rfl (fun M12 => ?_)
  refine v_aload_n 0 9 hF dX3_takeOver_8 rfl rfl rfl ?_
  refine v_aload_n 1 10 hF dX3_takeOver_9 rfl rfl rfl ?_
  refine v_getI 13 hF dX3_takeOver_10 rfl fl_X3_9 hw.1 rfl ?_
  refine v_putI 16 hF dX3_takeOver_13 rfl fl_X3_9 fp_X3_2 hv.1 rfl (fun M13 => ?_)
  refine v_aload_n 0 17 hF dX3_takeOver_16 rfl rfl rfl ?_
  refine v_aload_n 1 18 hF dX3_takeOver_17 rfl rfl rfl ?_
  refine v_getI 21 hF dX3_takeOver_18 rfl fl_X3_47 hw.1 rfl ?_
  refine v_putI 24 hF dX3_takeOver_21 rfl fl_X3_47 fp_X3_3 hv.1 rfl (fun M14 => ?_)
  refine v_aload_n 0 25 hF dX3_takeOver_24 rfl rfl rfl ?_
  refine v_aload_n 1 26 hF dX3_takeOver_25 rfl rfl rfl ?_
  refine v_getI 29 hF dX3_takeOver_26 rfl fl_X3_50 hw.1 rfl ?_
  refine v_putI 32 hF dX3_takeOver_29 rfl fl_X3_50 fp_X3_4 hv.1 rfl (fun M15 => ?_)
  refine v_aload_n 0 33 hF dX3_takeOver_32 rfl rfl rfl ?_
  refine v_aload_n 1 34 hF dX3_takeOver_33 rfl rfl rfl ?_
  refine v_getI 37 hF dX3_takeOver_34 rfl fl_X3_53 hw.1 rfl ?_
  refine v_putI 40 hF dX3_takeOver_37 rfl fl_X3_53 fp_X3_5 hv.1 rfl (fun M16 => ?_)
  refine v_aload_n 0 41 hF dX3_takeOver_40 rfl rfl rfl ?_
  refine v_iconst (0) 42 hF dX3_takeOver_41 rfl (by decide) ?_
  refine v_putI 45 hF dX3_takeOver_42 rfl fl_X3_56 fp_X3_6 hv.1 rfl (fun M17 => ?_)
  refine v_iconst (0) 46 hF dX3_takeOver_45 rfl (by decide) ?_
  refine v_istore_n (lo' := fun y18 => [(2, .int y18), (0, .ref (G.2.2.2.2 v)), (1, .ref (G.2.2.2.2 w))]) 47 hF dX3_takeOver_46 rfl rfl (by decide) (fun _ => rfl) (fun y18 => ?_)
  refine VR.pick [1, 2, 0] rfl ?_
  exact v_X3_takeOver_L47 hF hT hv hw FU y18 M17
abbrev rmX3_isOne : Room := { frames := 0, cells := 0, slots := 0, locals := 0 }
def m_X3_isOne (v : Nat) (x1 : Int32) (M : Mm) : Option (Int32 × Mm) := if x1 < 0 then (some ((0 : Int32), M)) else (if (M v 4) ≤ x1 then (some ((0 : Int32), M)) else (if (5 : Int32) ≤ x1 then (some ((0 : Int32), M)) else (some ((1 : Int32), M))))
set_option maxRecDepth 100000 in
set_option maxHeartbeats 4000000 in
theorem c_X3_isOne {G : Gx} {sh : List Sh} {v : Nat} (hT : TexAt sh) (hv : VilAt sh v) (M : Mm) (x1 : Int32) : CT yX3_isOne cX3_isOne 2 (some .boolean) rmX3_isOne G sh [.ref (G.2.2.2.2 v), .int x1] rvI M (m_X3_isOne v x1 M) := by
  refine CT.of (by decide +kernel) (Nat.le_of_ble_eq_true rfl) (fun X hF => ?_)
  show VR X G sh 2 rvI M 0 [(0, .ref (G.2.2.2.2 v)), (1, .int x1)] [] _
  unfold m_X3_isOne
  refine v_iload_n 1 1 hF dX3_isOne_0 rfl rfl rfl ?_
  refine v_if_lt 4 21 hF dX3_isOne_1 rfl (by decide) (fun _ => ?_) (fun _ => ?_)
  · refine v_iconst (0) 22 hF dX3_isOne_21 rfl (by decide) ?_
    exact v_zret0 hF dX3_isOne_22 rfl
  · refine v_iload_n 1 5 hF dX3_isOne_4 rfl rfl rfl ?_
    refine v_aload_n 0 6 hF dX3_isOne_5 rfl rfl rfl ?_
    refine v_getI 9 hF dX3_isOne_6 rfl fl_X3_50 hv.1 rfl ?_
    refine v_icmp_ge 12 21 hF dX3_isOne_9 rfl (by decide) (fun _ => ?_) (fun _ => ?_)
    · refine v_iconst (0) 22 hF dX3_isOne_21 rfl (by decide) ?_
      exact v_zret0 hF dX3_isOne_22 rfl
    · refine v_iload_n 1 13 hF dX3_isOne_12 rfl rfl rfl ?_
      refine v_iconst (5) 14 hF dX3_isOne_13 rfl (by decide) ?_
      refine v_icmp_ge 17 21 hF dX3_isOne_14 rfl (by decide) (fun _ => ?_) (fun _ => ?_)
      · refine v_iconst (0) 22 hF dX3_isOne_21 rfl (by decide) ?_
        exact v_zret0 hF dX3_isOne_22 rfl
      · refine v_iconst (1) 18 hF dX3_isOne_17 rfl (by decide) ?_
        refine v_goto 22 hF dX3_isOne_18 (by decide) ?_
        exact v_zret0 hF dX3_isOne_22 rfl
abbrev rmX3_areTwo : Room := { frames := 1, cells := 0, slots := 0, locals := 21 }
def m_X3_areTwo (v : Nat) (x1 : Int32) (x2 : Int32) (M : Mm) : Option (Int32 × Mm) := bd (m_X3_isOne v x1 M) fun r2 M1 => if r2 = 0 then (some ((0 : Int32), M1)) else (bd (m_X3_isOne v x2 M1) fun r4 M3 => if r4 = 0 then (some ((0 : Int32), M3)) else (if x1 = x2 then (some ((0 : Int32), M3)) else (some ((1 : Int32), M3))))
set_option maxRecDepth 100000 in
set_option maxHeartbeats 4000000 in
theorem c_X3_areTwo {G : Gx} {sh : List Sh} {v : Nat} (hT : TexAt sh) (hv : VilAt sh v) (M : Mm) (x1 : Int32) (x2 : Int32) : CT yX3_areTwo cX3_areTwo 3 (some .boolean) rmX3_areTwo G sh [.ref (G.2.2.2.2 v), .int x1, .int x2] rvI M (m_X3_areTwo v x1 x2 M) := by
  refine CT.of (by decide +kernel) (Nat.le_of_ble_eq_true rfl) (fun X hF => ?_)
  show VR X G sh 3 rvI M 0 [(0, .ref (G.2.2.2.2 v)), (1, .int x1), (2, .int x2)] [] _
  unfold m_X3_areTwo
  refine v_aload_n 0 1 hF dX3_areTwo_0 rfl rfl rfl ?_
  refine v_iload_n 1 2 hF dX3_areTwo_1 rfl rfl rfl ?_
  refine v_callI ([.int x1]) ([]) 5 hF dX3_areTwo_2 rfl cw_X3_59 rfl (hv.1) (c_X3_isOne (G := G) hT hv M x1) ⟨rfl, rfl, Nat.le_of_ble_eq_true rfl, Nat.le_of_ble_eq_true rfl⟩ rfl rfl (Nat.le_of_ble_eq_true rfl) (fun r2 M1 => ?_)
  refine v_if_eq 8 25 hF dX3_areTwo_5 rfl (by decide) (fun _ => ?_) (fun _ => ?_)
  · refine v_iconst (0) 26 hF dX3_areTwo_25 rfl (by decide) ?_
    exact v_zret0 hF dX3_areTwo_26 rfl
  · refine v_aload_n 0 9 hF dX3_areTwo_8 rfl rfl rfl ?_
    refine v_iload_n 2 10 hF dX3_areTwo_9 rfl rfl rfl ?_
    refine v_callI ([.int x2]) ([]) 13 hF dX3_areTwo_10 rfl cw_X3_59 rfl (hv.1) (c_X3_isOne (G := G) hT hv M1 x2) ⟨rfl, rfl, Nat.le_of_ble_eq_true rfl, Nat.le_of_ble_eq_true rfl⟩ rfl rfl (Nat.le_of_ble_eq_true rfl) (fun r4 M3 => ?_)
    refine v_if_eq 16 25 hF dX3_areTwo_13 rfl (by decide) (fun _ => ?_) (fun _ => ?_)
    · refine v_iconst (0) 26 hF dX3_areTwo_25 rfl (by decide) ?_
      exact v_zret0 hF dX3_areTwo_26 rfl
    · refine v_iload_n 1 17 hF dX3_areTwo_16 rfl rfl rfl ?_
      refine v_iload_n 2 18 hF dX3_areTwo_17 rfl rfl rfl ?_
      refine v_icmp_eq 21 25 hF dX3_areTwo_18 rfl (by decide) (fun _ => ?_) (fun _ => ?_)
      · refine v_iconst (0) 26 hF dX3_areTwo_25 rfl (by decide) ?_
        exact v_zret0 hF dX3_areTwo_26 rfl
      · refine v_iconst (1) 22 hF dX3_areTwo_21 rfl (by decide) ?_
        refine v_goto 26 hF dX3_areTwo_22 (by decide) ?_
        exact v_zret0 hF dX3_areTwo_26 rfl
abbrev rmX3_isLetter : Room := { frames := 0, cells := 0, slots := 0, locals := 0 }
def m_X3_isLetter (v : Nat) (x1 : Int32) (M : Mm) : Option (Int32 × Mm) := if x1 < 0 then (some ((0 : Int32), M)) else (if (M v 5) ≤ x1 then (some ((0 : Int32), M)) else (if (8 : Int32) ≤ x1 then (some ((0 : Int32), M)) else (some ((1 : Int32), M))))
set_option maxRecDepth 100000 in
set_option maxHeartbeats 4000000 in
theorem c_X3_isLetter {G : Gx} {sh : List Sh} {v : Nat} (hT : TexAt sh) (hv : VilAt sh v) (M : Mm) (x1 : Int32) : CT yX3_isLetter cX3_isLetter 2 (some .boolean) rmX3_isLetter G sh [.ref (G.2.2.2.2 v), .int x1] rvI M (m_X3_isLetter v x1 M) := by
  refine CT.of (by decide +kernel) (Nat.le_of_ble_eq_true rfl) (fun X hF => ?_)
  show VR X G sh 2 rvI M 0 [(0, .ref (G.2.2.2.2 v)), (1, .int x1)] [] _
  unfold m_X3_isLetter
  refine v_iload_n 1 1 hF dX3_isLetter_0 rfl rfl rfl ?_
  refine v_if_lt 4 22 hF dX3_isLetter_1 rfl (by decide) (fun _ => ?_) (fun _ => ?_)
  · refine v_iconst (0) 23 hF dX3_isLetter_22 rfl (by decide) ?_
    exact v_zret0 hF dX3_isLetter_23 rfl
  · refine v_iload_n 1 5 hF dX3_isLetter_4 rfl rfl rfl ?_
    refine v_aload_n 0 6 hF dX3_isLetter_5 rfl rfl rfl ?_
    refine v_getI 9 hF dX3_isLetter_6 rfl fl_X3_53 hv.1 rfl ?_
    refine v_icmp_ge 12 22 hF dX3_isLetter_9 rfl (by decide) (fun _ => ?_) (fun _ => ?_)
    · refine v_iconst (0) 23 hF dX3_isLetter_22 rfl (by decide) ?_
      exact v_zret0 hF dX3_isLetter_23 rfl
    · refine v_iload_n 1 13 hF dX3_isLetter_12 rfl rfl rfl ?_
      refine v_bipush (8) 15 hF dX3_isLetter_13 rfl (by decide) ?_
      refine v_icmp_ge 18 22 hF dX3_isLetter_15 rfl (by decide) (fun _ => ?_) (fun _ => ?_)
      · refine v_iconst (0) 23 hF dX3_isLetter_22 rfl (by decide) ?_
        exact v_zret0 hF dX3_isLetter_23 rfl
      · refine v_iconst (1) 19 hF dX3_isLetter_18 rfl (by decide) ?_
        refine v_goto 23 hF dX3_isLetter_19 (by decide) ?_
        exact v_zret0 hF dX3_isLetter_23 rfl
abbrev rmX3_hasRoom : Room := { frames := 0, cells := 0, slots := 0, locals := 0 }
def m_X3_hasRoom (v : Nat)  (M : Mm) : Option (Int32 × Mm) := if (8 : Int32) ≤ (M v 5) then (some ((0 : Int32), M)) else (some ((1 : Int32), M))
set_option maxRecDepth 100000 in
set_option maxHeartbeats 4000000 in
theorem c_X3_hasRoom {G : Gx} {sh : List Sh} {v : Nat} (hT : TexAt sh) (hv : VilAt sh v) (M : Mm)  : CT yX3_hasRoom cX3_hasRoom 1 (some .boolean) rmX3_hasRoom G sh [.ref (G.2.2.2.2 v)] rvI M (m_X3_hasRoom v  M) := by
  refine CT.of (by decide +kernel) (Nat.le_of_ble_eq_true rfl) (fun X hF => ?_)
  show VR X G sh 1 rvI M 0 [(0, .ref (G.2.2.2.2 v))] [] _
  unfold m_X3_hasRoom
  refine v_aload_n 0 1 hF dX3_hasRoom_0 rfl rfl rfl ?_
  refine v_getI 4 hF dX3_hasRoom_1 rfl fl_X3_53 hv.1 rfl ?_
  refine v_bipush (8) 6 hF dX3_hasRoom_4 rfl (by decide) ?_
  refine v_icmp_ge 9 13 hF dX3_hasRoom_6 rfl (by decide) (fun _ => ?_) (fun _ => ?_)
  · refine v_iconst (0) 14 hF dX3_hasRoom_13 rfl (by decide) ?_
    exact v_zret0 hF dX3_hasRoom_14 rfl
  · refine v_iconst (1) 10 hF dX3_hasRoom_9 rfl (by decide) ?_
    refine v_goto 14 hF dX3_hasRoom_10 (by decide) ?_
    exact v_zret0 hF dX3_hasRoom_14 rfl
abbrev rmX3_kindOf : Room := { frames := 1, cells := 0, slots := 0, locals := 21 }
def m_X3_kindOf (v : Nat) (x1 : Int32) (M : Mm) : Option (Int32 × Mm) := bd (m_X3_isOne v x1 M) fun r2 M1 => if r2 = 0 then (some ((-1 : Int32), M1)) else (gd (inr x1 5) (some ((M1 (v + 1) x1.toNatClampNeg), M1)))
set_option maxRecDepth 100000 in
set_option maxHeartbeats 4000000 in
theorem c_X3_kindOf {G : Gx} {sh : List Sh} {v : Nat} (hT : TexAt sh) (hv : VilAt sh v) (M : Mm) (x1 : Int32) : CT yX3_kindOf cX3_kindOf 2 (some .int) rmX3_kindOf G sh [.ref (G.2.2.2.2 v), .int x1] rvI M (m_X3_kindOf v x1 M) := by
  refine CT.of (by decide +kernel) (Nat.le_of_ble_eq_true rfl) (fun X hF => ?_)
  show VR X G sh 2 rvI M 0 [(0, .ref (G.2.2.2.2 v)), (1, .int x1)] [] _
  unfold m_X3_kindOf
  refine v_aload_n 0 1 hF dX3_kindOf_0 rfl rfl rfl ?_
  refine v_iload_n 1 2 hF dX3_kindOf_1 rfl rfl rfl ?_
  refine v_callI ([.int x1]) ([]) 5 hF dX3_kindOf_2 rfl cw_X3_59 rfl (hv.1) (c_X3_isOne (G := G) hT hv M x1) ⟨rfl, rfl, Nat.le_of_ble_eq_true rfl, Nat.le_of_ble_eq_true rfl⟩ rfl rfl (Nat.le_of_ble_eq_true rfl) (fun r2 M1 => ?_)
  refine v_if_eq 8 17 hF dX3_kindOf_5 rfl (by decide) (fun _ => ?_) (fun _ => ?_)
  · refine v_iconst (-1) 18 hF dX3_kindOf_17 rfl (by decide) ?_
    exact v_iret hF dX3_kindOf_18
  · refine v_aload_n 0 9 hF dX3_kindOf_8 rfl rfl rfl ?_
    refine v_getR (b := v + 1) 12 hF dX3_kindOf_9 rfl fl_X3_15 hv.1 rfl ?_
    refine v_iload_n 1 13 hF dX3_kindOf_12 rfl rfl rfl ?_
    refine v_iald 14 hF dX3_kindOf_13 rfl (hv.2.1) ?_
    refine v_goto 18 hF dX3_kindOf_14 (by decide) ?_
    exact v_iret hF dX3_kindOf_18
abbrev rmX3_numberOf : Room := { frames := 1, cells := 0, slots := 0, locals := 21 }
def m_X3_numberOf (v : Nat) (x1 : Int32) (M : Mm) : Option (Int32 × Mm) := bd (m_X3_isOne v x1 M) fun r2 M1 => if r2 = 0 then (some ((-1 : Int32), M1)) else (gd (inr x1 5) (some ((M1 (v + 2) x1.toNatClampNeg), M1)))
set_option maxRecDepth 100000 in
set_option maxHeartbeats 4000000 in
theorem c_X3_numberOf {G : Gx} {sh : List Sh} {v : Nat} (hT : TexAt sh) (hv : VilAt sh v) (M : Mm) (x1 : Int32) : CT yX3_numberOf cX3_numberOf 2 (some .int) rmX3_numberOf G sh [.ref (G.2.2.2.2 v), .int x1] rvI M (m_X3_numberOf v x1 M) := by
  refine CT.of (by decide +kernel) (Nat.le_of_ble_eq_true rfl) (fun X hF => ?_)
  show VR X G sh 2 rvI M 0 [(0, .ref (G.2.2.2.2 v)), (1, .int x1)] [] _
  unfold m_X3_numberOf
  refine v_aload_n 0 1 hF dX3_numberOf_0 rfl rfl rfl ?_
  refine v_iload_n 1 2 hF dX3_numberOf_1 rfl rfl rfl ?_
  refine v_callI ([.int x1]) ([]) 5 hF dX3_numberOf_2 rfl cw_X3_59 rfl (hv.1) (c_X3_isOne (G := G) hT hv M x1) ⟨rfl, rfl, Nat.le_of_ble_eq_true rfl, Nat.le_of_ble_eq_true rfl⟩ rfl rfl (Nat.le_of_ble_eq_true rfl) (fun r2 M1 => ?_)
  refine v_if_eq 8 17 hF dX3_numberOf_5 rfl (by decide) (fun _ => ?_) (fun _ => ?_)
  · refine v_iconst (-1) 18 hF dX3_numberOf_17 rfl (by decide) ?_
    exact v_iret hF dX3_numberOf_18
  · refine v_aload_n 0 9 hF dX3_numberOf_8 rfl rfl rfl ?_
    refine v_getR (b := v + 2) 12 hF dX3_numberOf_9 rfl fl_X3_19 hv.1 rfl ?_
    refine v_iload_n 1 13 hF dX3_numberOf_12 rfl rfl rfl ?_
    refine v_iald 14 hF dX3_numberOf_13 rfl (hv.2.2.1) ?_
    refine v_goto 18 hF dX3_numberOf_14 (by decide) ?_
    exact v_iret hF dX3_numberOf_18
abbrev rmX3_houseOf : Room := { frames := 1, cells := 0, slots := 0, locals := 21 }
def m_X3_houseOf (v : Nat) (x1 : Int32) (M : Mm) : Option (Int32 × Mm) := bd (m_X3_isOne v x1 M) fun r2 M1 => if r2 = 0 then (some ((-1 : Int32), M1)) else (gd (inr x1 5) (some ((M1 (v + 3) x1.toNatClampNeg), M1)))
set_option maxRecDepth 100000 in
set_option maxHeartbeats 4000000 in
theorem c_X3_houseOf {G : Gx} {sh : List Sh} {v : Nat} (hT : TexAt sh) (hv : VilAt sh v) (M : Mm) (x1 : Int32) : CT yX3_houseOf cX3_houseOf 2 (some .int) rmX3_houseOf G sh [.ref (G.2.2.2.2 v), .int x1] rvI M (m_X3_houseOf v x1 M) := by
  refine CT.of (by decide +kernel) (Nat.le_of_ble_eq_true rfl) (fun X hF => ?_)
  show VR X G sh 2 rvI M 0 [(0, .ref (G.2.2.2.2 v)), (1, .int x1)] [] _
  unfold m_X3_houseOf
  refine v_aload_n 0 1 hF dX3_houseOf_0 rfl rfl rfl ?_
  refine v_iload_n 1 2 hF dX3_houseOf_1 rfl rfl rfl ?_
  refine v_callI ([.int x1]) ([]) 5 hF dX3_houseOf_2 rfl cw_X3_59 rfl (hv.1) (c_X3_isOne (G := G) hT hv M x1) ⟨rfl, rfl, Nat.le_of_ble_eq_true rfl, Nat.le_of_ble_eq_true rfl⟩ rfl rfl (Nat.le_of_ble_eq_true rfl) (fun r2 M1 => ?_)
  refine v_if_eq 8 17 hF dX3_houseOf_5 rfl (by decide) (fun _ => ?_) (fun _ => ?_)
  · refine v_iconst (-1) 18 hF dX3_houseOf_17 rfl (by decide) ?_
    exact v_iret hF dX3_houseOf_18
  · refine v_aload_n 0 9 hF dX3_houseOf_8 rfl rfl rfl ?_
    refine v_getR (b := v + 3) 12 hF dX3_houseOf_9 rfl fl_X3_22 hv.1 rfl ?_
    refine v_iload_n 1 13 hF dX3_houseOf_12 rfl rfl rfl ?_
    refine v_iald 14 hF dX3_houseOf_13 rfl (hv.2.2.2.1) ?_
    refine v_goto 18 hF dX3_houseOf_14 (by decide) ?_
    exact v_iret hF dX3_houseOf_18
abbrev rmX3_fromWhom : Room := { frames := 1, cells := 0, slots := 0, locals := 21 }
def m_X3_fromWhom (v : Nat) (x1 : Int32) (M : Mm) : Option (Int32 × Mm) := bd (m_X3_isLetter v x1 M) fun r2 M1 => if r2 = 0 then (some ((-1 : Int32), M1)) else (gd (inr x1 8) (some ((M1 (v + 4) x1.toNatClampNeg), M1)))
set_option maxRecDepth 100000 in
set_option maxHeartbeats 4000000 in
theorem c_X3_fromWhom {G : Gx} {sh : List Sh} {v : Nat} (hT : TexAt sh) (hv : VilAt sh v) (M : Mm) (x1 : Int32) : CT yX3_fromWhom cX3_fromWhom 2 (some .int) rmX3_fromWhom G sh [.ref (G.2.2.2.2 v), .int x1] rvI M (m_X3_fromWhom v x1 M) := by
  refine CT.of (by decide +kernel) (Nat.le_of_ble_eq_true rfl) (fun X hF => ?_)
  show VR X G sh 2 rvI M 0 [(0, .ref (G.2.2.2.2 v)), (1, .int x1)] [] _
  unfold m_X3_fromWhom
  refine v_aload_n 0 1 hF dX3_fromWhom_0 rfl rfl rfl ?_
  refine v_iload_n 1 2 hF dX3_fromWhom_1 rfl rfl rfl ?_
  refine v_callI ([.int x1]) ([]) 5 hF dX3_fromWhom_2 rfl cw_X3_63 rfl (hv.1) (c_X3_isLetter (G := G) hT hv M x1) ⟨rfl, rfl, Nat.le_of_ble_eq_true rfl, Nat.le_of_ble_eq_true rfl⟩ rfl rfl (Nat.le_of_ble_eq_true rfl) (fun r2 M1 => ?_)
  refine v_if_eq 8 17 hF dX3_fromWhom_5 rfl (by decide) (fun _ => ?_) (fun _ => ?_)
  · refine v_iconst (-1) 18 hF dX3_fromWhom_17 rfl (by decide) ?_
    exact v_iret hF dX3_fromWhom_18
  · refine v_aload_n 0 9 hF dX3_fromWhom_8 rfl rfl rfl ?_
    refine v_getR (b := v + 4) 12 hF dX3_fromWhom_9 rfl fl_X3_25 hv.1 rfl ?_
    refine v_iload_n 1 13 hF dX3_fromWhom_12 rfl rfl rfl ?_
    refine v_iald 14 hF dX3_fromWhom_13 rfl (hv.2.2.2.2.1) ?_
    refine v_goto 18 hF dX3_fromWhom_14 (by decide) ?_
    exact v_iret hF dX3_fromWhom_18
abbrev rmX3_toWhom : Room := { frames := 1, cells := 0, slots := 0, locals := 21 }
def m_X3_toWhom (v : Nat) (x1 : Int32) (M : Mm) : Option (Int32 × Mm) := bd (m_X3_isLetter v x1 M) fun r2 M1 => if r2 = 0 then (some ((-1 : Int32), M1)) else (gd (inr x1 8) (some ((M1 (v + 5) x1.toNatClampNeg), M1)))
set_option maxRecDepth 100000 in
set_option maxHeartbeats 4000000 in
theorem c_X3_toWhom {G : Gx} {sh : List Sh} {v : Nat} (hT : TexAt sh) (hv : VilAt sh v) (M : Mm) (x1 : Int32) : CT yX3_toWhom cX3_toWhom 2 (some .int) rmX3_toWhom G sh [.ref (G.2.2.2.2 v), .int x1] rvI M (m_X3_toWhom v x1 M) := by
  refine CT.of (by decide +kernel) (Nat.le_of_ble_eq_true rfl) (fun X hF => ?_)
  show VR X G sh 2 rvI M 0 [(0, .ref (G.2.2.2.2 v)), (1, .int x1)] [] _
  unfold m_X3_toWhom
  refine v_aload_n 0 1 hF dX3_toWhom_0 rfl rfl rfl ?_
  refine v_iload_n 1 2 hF dX3_toWhom_1 rfl rfl rfl ?_
  refine v_callI ([.int x1]) ([]) 5 hF dX3_toWhom_2 rfl cw_X3_63 rfl (hv.1) (c_X3_isLetter (G := G) hT hv M x1) ⟨rfl, rfl, Nat.le_of_ble_eq_true rfl, Nat.le_of_ble_eq_true rfl⟩ rfl rfl (Nat.le_of_ble_eq_true rfl) (fun r2 M1 => ?_)
  refine v_if_eq 8 17 hF dX3_toWhom_5 rfl (by decide) (fun _ => ?_) (fun _ => ?_)
  · refine v_iconst (-1) 18 hF dX3_toWhom_17 rfl (by decide) ?_
    exact v_iret hF dX3_toWhom_18
  · refine v_aload_n 0 9 hF dX3_toWhom_8 rfl rfl rfl ?_
    refine v_getR (b := v + 5) 12 hF dX3_toWhom_9 rfl fl_X3_28 hv.1 rfl ?_
    refine v_iload_n 1 13 hF dX3_toWhom_12 rfl rfl rfl ?_
    refine v_iald 14 hF dX3_toWhom_13 rfl (hv.2.2.2.2.2.1) ?_
    refine v_goto 18 hF dX3_toWhom_14 (by decide) ?_
    exact v_iret hF dX3_toWhom_18
abbrev rmX3_whereIs : Room := { frames := 1, cells := 0, slots := 0, locals := 21 }
def m_X3_whereIs (v : Nat) (x1 : Int32) (M : Mm) : Option (Int32 × Mm) := bd (m_X3_isLetter v x1 M) fun r2 M1 => if r2 = 0 then (some ((-1 : Int32), M1)) else (gd (inr x1 8) (some ((M1 (v + 6) x1.toNatClampNeg), M1)))
set_option maxRecDepth 100000 in
set_option maxHeartbeats 4000000 in
theorem c_X3_whereIs {G : Gx} {sh : List Sh} {v : Nat} (hT : TexAt sh) (hv : VilAt sh v) (M : Mm) (x1 : Int32) : CT yX3_whereIs cX3_whereIs 2 (some .int) rmX3_whereIs G sh [.ref (G.2.2.2.2 v), .int x1] rvI M (m_X3_whereIs v x1 M) := by
  refine CT.of (by decide +kernel) (Nat.le_of_ble_eq_true rfl) (fun X hF => ?_)
  show VR X G sh 2 rvI M 0 [(0, .ref (G.2.2.2.2 v)), (1, .int x1)] [] _
  unfold m_X3_whereIs
  refine v_aload_n 0 1 hF dX3_whereIs_0 rfl rfl rfl ?_
  refine v_iload_n 1 2 hF dX3_whereIs_1 rfl rfl rfl ?_
  refine v_callI ([.int x1]) ([]) 5 hF dX3_whereIs_2 rfl cw_X3_63 rfl (hv.1) (c_X3_isLetter (G := G) hT hv M x1) ⟨rfl, rfl, Nat.le_of_ble_eq_true rfl, Nat.le_of_ble_eq_true rfl⟩ rfl rfl (Nat.le_of_ble_eq_true rfl) (fun r2 M1 => ?_)
  refine v_if_eq 8 17 hF dX3_whereIs_5 rfl (by decide) (fun _ => ?_) (fun _ => ?_)
  · refine v_iconst (-1) 18 hF dX3_whereIs_17 rfl (by decide) ?_
    exact v_iret hF dX3_whereIs_18
  · refine v_aload_n 0 9 hF dX3_whereIs_8 rfl rfl rfl ?_
    refine v_getR (b := v + 6) 12 hF dX3_whereIs_9 rfl fl_X3_31 hv.1 rfl ?_
    refine v_iload_n 1 13 hF dX3_whereIs_12 rfl rfl rfl ?_
    refine v_iald 14 hF dX3_whereIs_13 rfl (hv.2.2.2.2.2.2.1) ?_
    refine v_goto 18 hF dX3_whereIs_14 (by decide) ?_
    exact v_iret hF dX3_whereIs_18
abbrev rmX3_toneOf : Room := { frames := 1, cells := 0, slots := 0, locals := 21 }
def m_X3_toneOf (v : Nat) (x1 : Int32) (M : Mm) : Option (Int32 × Mm) := bd (m_X3_isLetter v x1 M) fun r2 M1 => if r2 = 0 then (some ((0 : Int32), M1)) else (gd (inr x1 8) (some ((M1 (v + 7) x1.toNatClampNeg), M1)))
set_option maxRecDepth 100000 in
set_option maxHeartbeats 4000000 in
theorem c_X3_toneOf {G : Gx} {sh : List Sh} {v : Nat} (hT : TexAt sh) (hv : VilAt sh v) (M : Mm) (x1 : Int32) : CT yX3_toneOf cX3_toneOf 2 (some .int) rmX3_toneOf G sh [.ref (G.2.2.2.2 v), .int x1] rvI M (m_X3_toneOf v x1 M) := by
  refine CT.of (by decide +kernel) (Nat.le_of_ble_eq_true rfl) (fun X hF => ?_)
  show VR X G sh 2 rvI M 0 [(0, .ref (G.2.2.2.2 v)), (1, .int x1)] [] _
  unfold m_X3_toneOf
  refine v_aload_n 0 1 hF dX3_toneOf_0 rfl rfl rfl ?_
  refine v_iload_n 1 2 hF dX3_toneOf_1 rfl rfl rfl ?_
  refine v_callI ([.int x1]) ([]) 5 hF dX3_toneOf_2 rfl cw_X3_63 rfl (hv.1) (c_X3_isLetter (G := G) hT hv M x1) ⟨rfl, rfl, Nat.le_of_ble_eq_true rfl, Nat.le_of_ble_eq_true rfl⟩ rfl rfl (Nat.le_of_ble_eq_true rfl) (fun r2 M1 => ?_)
  refine v_if_eq 8 17 hF dX3_toneOf_5 rfl (by decide) (fun _ => ?_) (fun _ => ?_)
  · refine v_iconst (0) 18 hF dX3_toneOf_17 rfl (by decide) ?_
    exact v_iret hF dX3_toneOf_18
  · refine v_aload_n 0 9 hF dX3_toneOf_8 rfl rfl rfl ?_
    refine v_getR (b := v + 7) 12 hF dX3_toneOf_9 rfl fl_X3_34 hv.1 rfl ?_
    refine v_iload_n 1 13 hF dX3_toneOf_12 rfl rfl rfl ?_
    refine v_iald 14 hF dX3_toneOf_13 rfl (hv.2.2.2.2.2.2.2.1) ?_
    refine v_goto 18 hF dX3_toneOf_14 (by decide) ?_
    exact v_iret hF dX3_toneOf_18
abbrev rmX3_readBy : Room := { frames := 1, cells := 0, slots := 0, locals := 21 }
def m_X3_readBy (v : Nat) (x1 : Int32) (M : Mm) : Option (Int32 × Mm) := bd (m_X3_isLetter v x1 M) fun r2 M1 => if r2 = 0 then (some ((0 : Int32), M1)) else (gd (inr x1 8) (some ((M1 (v + 8) x1.toNatClampNeg), M1)))
set_option maxRecDepth 100000 in
set_option maxHeartbeats 4000000 in
theorem c_X3_readBy {G : Gx} {sh : List Sh} {v : Nat} (hT : TexAt sh) (hv : VilAt sh v) (M : Mm) (x1 : Int32) : CT yX3_readBy cX3_readBy 2 (some .int) rmX3_readBy G sh [.ref (G.2.2.2.2 v), .int x1] rvI M (m_X3_readBy v x1 M) := by
  refine CT.of (by decide +kernel) (Nat.le_of_ble_eq_true rfl) (fun X hF => ?_)
  show VR X G sh 2 rvI M 0 [(0, .ref (G.2.2.2.2 v)), (1, .int x1)] [] _
  unfold m_X3_readBy
  refine v_aload_n 0 1 hF dX3_readBy_0 rfl rfl rfl ?_
  refine v_iload_n 1 2 hF dX3_readBy_1 rfl rfl rfl ?_
  refine v_callI ([.int x1]) ([]) 5 hF dX3_readBy_2 rfl cw_X3_63 rfl (hv.1) (c_X3_isLetter (G := G) hT hv M x1) ⟨rfl, rfl, Nat.le_of_ble_eq_true rfl, Nat.le_of_ble_eq_true rfl⟩ rfl rfl (Nat.le_of_ble_eq_true rfl) (fun r2 M1 => ?_)
  refine v_if_eq 8 17 hF dX3_readBy_5 rfl (by decide) (fun _ => ?_) (fun _ => ?_)
  · refine v_iconst (0) 18 hF dX3_readBy_17 rfl (by decide) ?_
    exact v_iret hF dX3_readBy_18
  · refine v_aload_n 0 9 hF dX3_readBy_8 rfl rfl rfl ?_
    refine v_getR (b := v + 8) 12 hF dX3_readBy_9 rfl fl_X3_37 hv.1 rfl ?_
    refine v_iload_n 1 13 hF dX3_readBy_12 rfl rfl rfl ?_
    refine v_iald 14 hF dX3_readBy_13 rfl (hv.2.2.2.2.2.2.2.2) ?_
    refine v_goto 18 hF dX3_readBy_14 (by decide) ?_
    exact v_iret hF dX3_readBy_18
abbrev rmX3_changeKind : Room := { frames := 1, cells := 0, slots := 0, locals := 21 }
def m_X3_changeKind (v : Nat) (x1 : Int32) (x2 : Int32) (M : Mm) : Option (Unit × Mm) := bd (m_X3_isOne v x1 M) fun r2 M1 => if r2 = 0 then (some ((), M1)) else (gd (inr x1 5) (lt1 (up M1 (v + 1) x1.toNatClampNeg x2) fun M3 => some ((), M3)))
set_option maxRecDepth 100000 in
set_option maxHeartbeats 4000000 in
theorem c_X3_changeKind {G : Gx} {sh : List Sh} {v : Nat} (hT : TexAt sh) (hv : VilAt sh v) (M : Mm) (x1 : Int32) (x2 : Int32) : CT yX3_changeKind cX3_changeKind 3 none rmX3_changeKind G sh [.ref (G.2.2.2.2 v), .int x1, .int x2] rvV M (m_X3_changeKind v x1 x2 M) := by
  refine CT.of (by decide +kernel) (Nat.le_of_ble_eq_true rfl) (fun X hF => ?_)
  show VR X G sh 3 rvV M 0 [(0, .ref (G.2.2.2.2 v)), (1, .int x1), (2, .int x2)] [] _
  unfold m_X3_changeKind
  refine v_aload_n 0 1 hF dX3_changeKind_0 rfl rfl rfl ?_
  refine v_iload_n 1 2 hF dX3_changeKind_1 rfl rfl rfl ?_
  refine v_callI ([.int x1]) ([]) 5 hF dX3_changeKind_2 rfl cw_X3_59 rfl (hv.1) (c_X3_isOne (G := G) hT hv M x1) ⟨rfl, rfl, Nat.le_of_ble_eq_true rfl, Nat.le_of_ble_eq_true rfl⟩ rfl rfl (Nat.le_of_ble_eq_true rfl) (fun r2 M1 => ?_)
  refine v_if_eq 8 15 hF dX3_changeKind_5 rfl (by decide) (fun _ => ?_) (fun _ => ?_)
  · exact v_vret hF dX3_changeKind_15
  · refine v_aload_n 0 9 hF dX3_changeKind_8 rfl rfl rfl ?_
    refine v_getR (b := v + 1) 12 hF dX3_changeKind_9 rfl fl_X3_15 hv.1 rfl ?_
    refine v_iload_n 1 13 hF dX3_changeKind_12 rfl rfl rfl ?_
    refine v_iload_n 2 14 hF dX3_changeKind_13 rfl rfl rfl ?_
    refine v_iast 15 hF dX3_changeKind_14 rfl (hv.2.1) (fun M3 => ?_)
    exact v_vret hF dX3_changeKind_15
