abbrev rmX1_advance : Room := { frames := 6, cells := 0, slots := 0, locals := 128 }
def m_X1_advance_J110 (s0 : Int32) (M : Mm) : Option (Unit × Mm) := lt1 (up M 5 3 s0) fun M1 => lt1 (up M1 5 5 (((M1 5 5) + (1 : Int32)))) fun M2 => some ((), M2)
def m_X1_advance_J39  (M : Mm) : Option (Unit × Mm) := lt1 (up M 5 4 ((M 5 5))) fun M3 => bd (m_X1_byteAt ((M3 5 5)) M3) fun r5 M4 => lt1 r5 fun y6 => if y6 = (-1 : Int32) then (lt1 (up M4 5 3 ((0 : Int32))) fun M15 => some ((), M15)) else (bd (m_X1_isWordByte y6 M4) fun r8 M7 => if r8 = 0 then (bd (m_X1_isDigit y6 M7) fun r10 M9 => if r10 = 0 then (bd (m_X1_isSign y6 M9) fun r12 M11 => if r12 = 0 then (m_X1_advance_J110 ((2 : Int32)) M11) else (m_X1_advance_J110 y6 M11)) else (bd (m_X1_readNumber M9) fun _ M13 => some ((), M13))) else (bd (m_X1_readWord M7) fun _ M14 => some ((), M14)))
def m_X1_advance_B2 (n2 : Int32 → Mm → Option (Unit × Mm)) (x1 : Int32) (M : Mm) : Option (Unit × Mm) := if (160 : Int32) ≤ x1 then (m_X1_advance_J39 M) else (bd (m_X1_byteAt ((M 5 5)) M) fun r17 M16 => bd (m_X1_isBlank r17 M16) fun r19 M18 => if r19 = 0 then (m_X1_advance_J39 M18) else (lt1 (up M18 5 5 (((M18 5 5) + (1 : Int32)))) fun M20 => lt1 (x1 + 1) fun y21 => n2 y21 M20))
def m_X1_advance_L2 : Nat → Int32 → Mm → Option (Unit × Mm)
  | 0 => fun _ _ => none
  | n + 1 => m_X1_advance_B2  (m_X1_advance_L2  n)
def m_X1_advance  (M : Mm) : Option (Unit × Mm) := lt1 ((0 : Int32)) fun y22 => m_X1_advance_L2 FU y22 M
set_option maxRecDepth 100000 in
set_option maxHeartbeats 4000000 in
theorem v_X1_advance_J110 {X : Cx} {G : Gx} {sh : List Sh} (hF : FX X G sh 2 cX1_advance (yX1_advance).cls none rmX1_advance) (hT : TexAt sh) (hP : TapAt sh) : ∀ (s0 : Int32) (M : Mm), VR X G sh 2 rvV M 110 [(0, .ref (G.2.2.2.2 5))] [.int s0, .ref (G.2.2.2.2 5)] (m_X1_advance_J110  s0 M) := by
  intro s0 M
  unfold m_X1_advance_J110
  refine v_putI 113 hF dX1_advance_110 rfl fl_X1_67 fp_X1_3 hP.1 rfl (fun M1 => ?_)
  refine v_aload_n 0 114 hF dX1_advance_113 rfl rfl rfl ?_
  refine v_dupR 115 hF dX1_advance_114 rfl ?_
  refine v_getI 118 hF dX1_advance_115 rfl fl_X1_40 hP.1 rfl ?_
  refine v_iconst (1) 119 hF dX1_advance_118 rfl (by decide) ?_
  refine v_iadd 120 hF dX1_advance_119 rfl ?_
  refine v_putI 123 hF dX1_advance_120 rfl fl_X1_40 fp_X1_5 hP.1 rfl (fun M2 => ?_)
  exact v_vret hF dX1_advance_123
set_option maxRecDepth 100000 in
set_option maxHeartbeats 4000000 in
theorem v_X1_advance_J39 {X : Cx} {G : Gx} {sh : List Sh} (hF : FX X G sh 2 cX1_advance (yX1_advance).cls none rmX1_advance) (hT : TexAt sh) (hP : TapAt sh) : ∀ (M : Mm), VR X G sh 2 rvV M 39 [(0, .ref (G.2.2.2.2 5))] [] (m_X1_advance_J39   M) := by
  intro  M
  unfold m_X1_advance_J39
  refine v_aload_n 0 40 hF dX1_advance_39 rfl rfl rfl ?_
  refine v_aload_n 0 41 hF dX1_advance_40 rfl rfl rfl ?_
  refine v_getI 44 hF dX1_advance_41 rfl fl_X1_40 hP.1 rfl ?_
  refine v_putI 47 hF dX1_advance_44 rfl fl_X1_93 fp_X1_4 hP.1 rfl (fun M3 => ?_)
  refine v_aload_n 0 48 hF dX1_advance_47 rfl rfl rfl ?_
  refine v_aload_n 0 49 hF dX1_advance_48 rfl rfl rfl ?_
  refine v_getI 52 hF dX1_advance_49 rfl fl_X1_40 hP.1 rfl ?_
  refine v_callI ([.int ((M3 5 5))]) ([]) 55 hF dX1_advance_52 rfl cw_X1_96 rfl (hP.1) (c_X1_byteAt (G := G) hT hP M3 ((M3 5 5))) ⟨rfl, rfl, Nat.le_of_ble_eq_true rfl, Nat.le_of_ble_eq_true rfl⟩ rfl rfl (Nat.le_of_ble_eq_true rfl) (fun r5 M4 => ?_)
  refine v_istore_n (lo' := fun y6 => [(1, .int y6), (0, .ref (G.2.2.2.2 5))]) 56 hF dX1_advance_55 rfl rfl (by decide) (fun _ => rfl) (fun y6 => ?_)
  refine v_iload_n 0 57 hF dX1_advance_56 rfl rfl rfl ?_
  refine v_iconst (-1) 58 hF dX1_advance_57 rfl (by decide) ?_
  refine v_icmp_ne 61 69 hF dX1_advance_58 rfl (by decide) (fun _ => ?_) (fun _ => ?_)
  · refine v_iload_n 0 70 hF dX1_advance_69 rfl rfl rfl ?_
    refine v_staI ([.int y6]) ([]) 73 hF dX1_advance_70 rfl cw_X1_103 (c_X1_isWordByte (G := G) (sh := sh) M4 y6) ⟨rfl, rfl, Nat.le_of_ble_eq_true rfl, Nat.le_of_ble_eq_true rfl⟩ rfl rfl (Nat.le_of_ble_eq_true rfl) (fun r8 M7 => ?_)
    refine v_if_eq 76 83 hF dX1_advance_73 rfl (by decide) (fun _ => ?_) (fun _ => ?_)
    · refine v_iload_n 0 84 hF dX1_advance_83 rfl rfl rfl ?_
      refine v_staI ([.int y6]) ([]) 87 hF dX1_advance_84 rfl cw_X1_109 (c_X1_isDigit (G := G) (sh := sh) M7 y6) ⟨rfl, rfl, Nat.le_of_ble_eq_true rfl, Nat.le_of_ble_eq_true rfl⟩ rfl rfl (Nat.le_of_ble_eq_true rfl) (fun r10 M9 => ?_)
      refine v_if_eq 90 97 hF dX1_advance_87 rfl (by decide) (fun _ => ?_) (fun _ => ?_)
      · refine v_aload_n 1 98 hF dX1_advance_97 rfl rfl rfl ?_
        refine v_iload_n 0 99 hF dX1_advance_98 rfl rfl rfl ?_
        refine v_staI ([.int y6]) ([.ref (G.2.2.2.2 5)]) 102 hF dX1_advance_99 rfl cw_X1_115 (c_X1_isSign (G := G) (sh := sh) M9 y6) ⟨rfl, rfl, Nat.le_of_ble_eq_true rfl, Nat.le_of_ble_eq_true rfl⟩ rfl rfl (Nat.le_of_ble_eq_true rfl) (fun r12 M11 => ?_)
        refine v_if_eq 105 109 hF dX1_advance_102 rfl (by decide) (fun _ => ?_) (fun _ => ?_)
        · refine v_iconst (2) 110 hF dX1_advance_109 rfl (by decide) ?_
          refine VR.pick [1] rfl ?_
          exact v_X1_advance_J110 hF hT hP ((2 : Int32)) M11
        · refine v_iload_n 0 106 hF dX1_advance_105 rfl rfl rfl ?_
          refine v_goto 110 hF dX1_advance_106 (by decide) ?_
          refine VR.pick [1] rfl ?_
          exact v_X1_advance_J110 hF hT hP y6 M11
      · refine v_aload_n 1 91 hF dX1_advance_90 rfl rfl rfl ?_
        refine v_callV ([]) ([]) 94 hF dX1_advance_91 rfl cw_X1_112 rfl (hP.1) (c_X1_readNumber (G := G) hT hP M9) ⟨rfl, rfl, Nat.le_of_ble_eq_true rfl, Nat.le_of_ble_eq_true rfl⟩ rfl rfl (Nat.le_of_ble_eq_true rfl) (fun _ M13 => ?_)
        refine v_goto 123 hF dX1_advance_94 (by decide) ?_
        exact v_vret hF dX1_advance_123
    · refine v_aload_n 1 77 hF dX1_advance_76 rfl rfl rfl ?_
      refine v_callV ([]) ([]) 80 hF dX1_advance_77 rfl cw_X1_106 rfl (hP.1) (c_X1_readWord (G := G) hT hP M7) ⟨rfl, rfl, Nat.le_of_ble_eq_true rfl, Nat.le_of_ble_eq_true rfl⟩ rfl rfl (Nat.le_of_ble_eq_true rfl) (fun _ M14 => ?_)
      refine v_goto 123 hF dX1_advance_80 (by decide) ?_
      exact v_vret hF dX1_advance_123
  · refine v_aload_n 1 62 hF dX1_advance_61 rfl rfl rfl ?_
    refine v_iconst (0) 63 hF dX1_advance_62 rfl (by decide) ?_
    refine v_putI 66 hF dX1_advance_63 rfl fl_X1_67 fp_X1_3 hP.1 rfl (fun M15 => ?_)
    refine v_goto 123 hF dX1_advance_66 (by decide) ?_
    exact v_vret hF dX1_advance_123
set_option maxRecDepth 100000 in
set_option maxHeartbeats 4000000 in
theorem v_X1_advance_B2 {X : Cx} {G : Gx} {sh : List Sh} (hF : FX X G sh 2 cX1_advance (yX1_advance).cls none rmX1_advance) (hT : TexAt sh) (hP : TapAt sh) (n2 : Int32 → Mm → Option (Unit × Mm)) (h2 : ∀ (x1 : Int32) (M : Mm), VR X G sh 2 rvV M 2 [(0, .ref (G.2.2.2.2 5)), (1, .int x1)] [] (n2 x1 M)) : ∀ (x1 : Int32) (M : Mm), VR X G sh 2 rvV M 2 [(0, .ref (G.2.2.2.2 5)), (1, .int x1)] [] (m_X1_advance_B2  n2 x1 M) := by
  intro x1 M
  unfold m_X1_advance_B2
  refine v_iload_n 1 3 hF dX1_advance_2 rfl rfl rfl ?_
  refine v_sipush (160) 6 hF dX1_advance_3 rfl (by decide) ?_
  refine v_icmp_ge 9 39 hF dX1_advance_6 rfl (by decide) (fun _ => ?_) (fun _ => ?_)
  · refine VR.pick [0] rfl ?_
    exact v_X1_advance_J39 hF hT hP M
  · refine v_aload_n 0 10 hF dX1_advance_9 rfl rfl rfl ?_
    refine v_aload_n 0 11 hF dX1_advance_10 rfl rfl rfl ?_
    refine v_getI 14 hF dX1_advance_11 rfl fl_X1_40 hP.1 rfl ?_
    refine v_callI ([.int ((M 5 5))]) ([]) 17 hF dX1_advance_14 rfl cw_X1_96 rfl (hP.1) (c_X1_byteAt (G := G) hT hP M ((M 5 5))) ⟨rfl, rfl, Nat.le_of_ble_eq_true rfl, Nat.le_of_ble_eq_true rfl⟩ rfl rfl (Nat.le_of_ble_eq_true rfl) (fun r17 M16 => ?_)
    refine v_staI ([.int r17]) ([]) 20 hF dX1_advance_17 rfl cw_X1_100 (c_X1_isBlank (G := G) (sh := sh) M16 r17) ⟨rfl, rfl, Nat.le_of_ble_eq_true rfl, Nat.le_of_ble_eq_true rfl⟩ rfl rfl (Nat.le_of_ble_eq_true rfl) (fun r19 M18 => ?_)
    refine v_if_eq 23 39 hF dX1_advance_20 rfl (by decide) (fun _ => ?_) (fun _ => ?_)
    · refine VR.pick [0] rfl ?_
      exact v_X1_advance_J39 hF hT hP M18
    · refine v_aload_n 0 24 hF dX1_advance_23 rfl rfl rfl ?_
      refine v_dupR 25 hF dX1_advance_24 rfl ?_
      refine v_getI 28 hF dX1_advance_25 rfl fl_X1_40 hP.1 rfl ?_
      refine v_iconst (1) 29 hF dX1_advance_28 rfl (by decide) ?_
      refine v_iadd 30 hF dX1_advance_29 rfl ?_
      refine v_putI 33 hF dX1_advance_30 rfl fl_X1_40 fp_X1_5 hP.1 rfl (fun M20 => ?_)
      refine v_iinc (v := (x1 + 1)) (lo' := fun y21 => [(1, .int y21), (0, .ref (G.2.2.2.2 5))]) 1 36 hF dX1_advance_33 rfl rfl rfl (by decide) (fun _ => rfl) (fun y21 => ?_)
      refine v_goto 2 hF dX1_advance_36 (by decide) ?_
      refine VR.pick [1, 0] rfl ?_
      exact h2 y21 M20
theorem v_X1_advance_L2 {X : Cx} {G : Gx} {sh : List Sh} (hF : FX X G sh 2 cX1_advance (yX1_advance).cls none rmX1_advance) (hT : TexAt sh) (hP : TapAt sh) : ∀ (n : Nat), ∀ (x1 : Int32) (M : Mm), VR X G sh 2 rvV M 2 [(0, .ref (G.2.2.2.2 5)), (1, .int x1)] [] (m_X1_advance_L2  n x1 M) := by
  intro n
  induction n with
  | zero => intro x1 M; exact VR.none
  | succ n ih => exact v_X1_advance_B2 hF hT hP _ ih
set_option maxRecDepth 100000 in
set_option maxHeartbeats 4000000 in
theorem c_X1_advance {G : Gx} {sh : List Sh} (hT : TexAt sh) (hP : TapAt sh) (M : Mm)  : CT yX1_advance cX1_advance 2 none rmX1_advance G sh [.ref (G.2.2.2.2 5)] rvV M (m_X1_advance   M) := by
  refine CT.of (by decide +kernel) (Nat.le_of_ble_eq_true rfl) (fun X hF => ?_)
  show VR X G sh 2 rvV M 0 [(0, .ref (G.2.2.2.2 5))] [] _
  unfold m_X1_advance
  refine v_iconst (0) 1 hF dX1_advance_0 rfl (by decide) ?_
  refine v_istore_n (lo' := fun y22 => [(1, .int y22), (0, .ref (G.2.2.2.2 5))]) 2 hF dX1_advance_1 rfl rfl (by decide) (fun _ => rfl) (fun y22 => ?_)
  refine VR.pick [1, 0] rfl ?_
  exact v_X1_advance_L2 hF hT hP FU y22 M
abbrev rmX1_refuse : Room := { frames := 0, cells := 0, slots := 0, locals := 0 }
def m_X1_refuse_J16  (M : Mm) : Option (Unit × Mm) := lt1 (up M 5 3 ((2 : Int32))) fun M1 => some ((), M1)
def m_X1_refuse  (M : Mm) : Option (Unit × Mm) := if (M 5 7) = (-1 : Int32) then (lt1 (up M 5 7 ((M 5 4))) fun M2 => m_X1_refuse_J16 M2) else (m_X1_refuse_J16 M)
set_option maxRecDepth 100000 in
set_option maxHeartbeats 4000000 in
theorem v_X1_refuse_J16 {X : Cx} {G : Gx} {sh : List Sh} (hF : FX X G sh 1 cX1_refuse (yX1_refuse).cls none rmX1_refuse) (hT : TexAt sh) (hP : TapAt sh) : ∀ (M : Mm), VR X G sh 1 rvV M 16 [(0, .ref (G.2.2.2.2 5))] [] (m_X1_refuse_J16   M) := by
  intro  M
  unfold m_X1_refuse_J16
  refine v_aload_n 0 17 hF dX1_refuse_16 rfl rfl rfl ?_
  refine v_iconst (2) 18 hF dX1_refuse_17 rfl (by decide) ?_
  refine v_putI 21 hF dX1_refuse_18 rfl fl_X1_67 fp_X1_3 hP.1 rfl (fun M1 => ?_)
  exact v_vret hF dX1_refuse_21
set_option maxRecDepth 100000 in
set_option maxHeartbeats 4000000 in
theorem c_X1_refuse {G : Gx} {sh : List Sh} (hT : TexAt sh) (hP : TapAt sh) (M : Mm)  : CT yX1_refuse cX1_refuse 1 none rmX1_refuse G sh [.ref (G.2.2.2.2 5)] rvV M (m_X1_refuse   M) := by
  refine CT.of (by decide +kernel) (Nat.le_of_ble_eq_true rfl) (fun X hF => ?_)
  show VR X G sh 1 rvV M 0 [(0, .ref (G.2.2.2.2 5))] [] _
  unfold m_X1_refuse
  refine v_aload_n 0 1 hF dX1_refuse_0 rfl rfl rfl ?_
  refine v_getI 4 hF dX1_refuse_1 rfl fl_X1_37 hP.1 rfl ?_
  refine v_iconst (-1) 5 hF dX1_refuse_4 rfl (by decide) ?_
  refine v_icmp_ne 8 16 hF dX1_refuse_5 rfl (by decide) (fun _ => ?_) (fun _ => ?_)
  · refine VR.pick [0] rfl ?_
    exact v_X1_refuse_J16 hF hT hP M
  · refine v_aload_n 0 9 hF dX1_refuse_8 rfl rfl rfl ?_
    refine v_aload_n 0 10 hF dX1_refuse_9 rfl rfl rfl ?_
    refine v_getI 13 hF dX1_refuse_10 rfl fl_X1_93 hP.1 rfl ?_
    refine v_putI 16 hF dX1_refuse_13 rfl fl_X1_37 fp_X1_7 hP.1 rfl (fun M2 => ?_)
    refine VR.pick [0] rfl ?_
    exact v_X1_refuse_J16 hF hT hP M2
abbrev rmX1_expect : Room := { frames := 7, cells := 0, slots := 0, locals := 149 }
def m_X1_expect (x1 : Int32) (M : Mm) : Option (Unit × Mm) := if (M 5 3) = x1 then (if (M 5 3) = 0 then (some ((), M)) else (bd (m_X1_advance M) fun _ M1 => some ((), M1))) else (bd (m_X1_refuse M) fun _ M2 => some ((), M2))
set_option maxRecDepth 100000 in
set_option maxHeartbeats 4000000 in
theorem c_X1_expect {G : Gx} {sh : List Sh} (hT : TexAt sh) (hP : TapAt sh) (M : Mm) (x1 : Int32) : CT yX1_expect cX1_expect 2 none rmX1_expect G sh [.ref (G.2.2.2.2 5), .int x1] rvV M (m_X1_expect  x1 M) := by
  refine CT.of (by decide +kernel) (Nat.le_of_ble_eq_true rfl) (fun X hF => ?_)
  show VR X G sh 2 rvV M 0 [(0, .ref (G.2.2.2.2 5)), (1, .int x1)] [] _
  unfold m_X1_expect
  refine v_aload_n 0 1 hF dX1_expect_0 rfl rfl rfl ?_
  refine v_getI 4 hF dX1_expect_1 rfl fl_X1_67 hP.1 rfl ?_
  refine v_iload_n 1 5 hF dX1_expect_4 rfl rfl rfl ?_
  refine v_icmp_eq 8 15 hF dX1_expect_5 rfl (by decide) (fun _ => ?_) (fun _ => ?_)
  · refine v_aload_n 0 16 hF dX1_expect_15 rfl rfl rfl ?_
    refine v_getI 19 hF dX1_expect_16 rfl fl_X1_67 hP.1 rfl ?_
    refine v_if_eq 22 26 hF dX1_expect_19 rfl (by decide) (fun _ => ?_) (fun _ => ?_)
    · exact v_vret hF dX1_expect_26
    · refine v_aload_n 0 23 hF dX1_expect_22 rfl rfl rfl ?_
      refine v_callV ([]) ([]) 26 hF dX1_expect_23 rfl cw_X1_43 rfl (hP.1) (c_X1_advance (G := G) hT hP M) ⟨rfl, rfl, Nat.le_of_ble_eq_true rfl, Nat.le_of_ble_eq_true rfl⟩ rfl rfl (Nat.le_of_ble_eq_true rfl) (fun _ M1 => ?_)
      exact v_vret hF dX1_expect_26
  · refine v_aload_n 0 9 hF dX1_expect_8 rfl rfl rfl ?_
    refine v_callV ([]) ([]) 12 hF dX1_expect_9 rfl cw_X1_90 rfl (hP.1) (c_X1_refuse (G := G) hT hP M) ⟨rfl, rfl, Nat.le_of_ble_eq_true rfl, Nat.le_of_ble_eq_true rfl⟩ rfl rfl (Nat.le_of_ble_eq_true rfl) (fun _ M2 => ?_)
    refine v_goto 26 hF dX1_expect_12 (by decide) ?_
    exact v_vret hF dX1_expect_26
abbrev rmX1_opens : Room := { frames := 7, cells := 0, slots := 0, locals := 149 }
def m_X1_opens (x1 : Int32) (M : Mm) : Option (Int32 × Mm) := if x1 < (5 : Int32) then (bd (m_X1_advance M) fun _ M1 => some ((1 : Int32), M1)) else (bd (m_X1_refuse M) fun _ M2 => some ((0 : Int32), M2))
set_option maxRecDepth 100000 in
set_option maxHeartbeats 4000000 in
theorem c_X1_opens {G : Gx} {sh : List Sh} (hT : TexAt sh) (hP : TapAt sh) (M : Mm) (x1 : Int32) : CT yX1_opens cX1_opens 2 (some .boolean) rmX1_opens G sh [.ref (G.2.2.2.2 5), .int x1] rvI M (m_X1_opens  x1 M) := by
  refine CT.of (by decide +kernel) (Nat.le_of_ble_eq_true rfl) (fun X hF => ?_)
  show VR X G sh 2 rvI M 0 [(0, .ref (G.2.2.2.2 5)), (1, .int x1)] [] _
  unfold m_X1_opens
  refine v_iload_n 1 1 hF dX1_opens_0 rfl rfl rfl ?_
  refine v_iconst (5) 2 hF dX1_opens_1 rfl (by decide) ?_
  refine v_icmp_lt 5 11 hF dX1_opens_2 rfl (by decide) (fun _ => ?_) (fun _ => ?_)
  · refine v_aload_n 0 12 hF dX1_opens_11 rfl rfl rfl ?_
    refine v_callV ([]) ([]) 15 hF dX1_opens_12 rfl cw_X1_43 rfl (hP.1) (c_X1_advance (G := G) hT hP M) ⟨rfl, rfl, Nat.le_of_ble_eq_true rfl, Nat.le_of_ble_eq_true rfl⟩ rfl rfl (Nat.le_of_ble_eq_true rfl) (fun _ M1 => ?_)
    refine v_iconst (1) 16 hF dX1_opens_15 rfl (by decide) ?_
    exact v_zret0 hF dX1_opens_16 rfl
  · refine v_aload_n 0 6 hF dX1_opens_5 rfl rfl rfl ?_
    refine v_callV ([]) ([]) 9 hF dX1_opens_6 rfl cw_X1_90 rfl (hP.1) (c_X1_refuse (G := G) hT hP M) ⟨rfl, rfl, Nat.le_of_ble_eq_true rfl, Nat.le_of_ble_eq_true rfl⟩ rfl rfl (Nat.le_of_ble_eq_true rfl) (fun _ M2 => ?_)
    refine v_iconst (0) 10 hF dX1_opens_9 rfl (by decide) ?_
    exact v_zret0 hF dX1_opens_10 rfl
abbrev rmX2_add : Room := { frames := 0, cells := 0, slots := 0, locals := 0 }
def m_X2_add (x1 : Int32) (M : Mm) : Option (Unit × Mm) := if (M 1 9) < 0 then (some ((), M)) else (if (960 : Int32) ≤ (M 1 9) then (some ((), M)) else (gd (inr ((M 1 9)) 960) (lt1 (up M 2 ((M 1 9)).toNatClampNeg x1) fun M1 => lt1 (up M1 1 9 (((M1 1 9) + (1 : Int32)))) fun M2 => some ((), M2))))
set_option maxRecDepth 100000 in
set_option maxHeartbeats 4000000 in
theorem c_X2_add {G : Gx} {sh : List Sh} (hT : TexAt sh) (M : Mm) (x1 : Int32) : CT yX2_add cX2_add 2 none rmX2_add G sh [.ref (G.2.2.2.2 1), .int x1] rvV M (m_X2_add  x1 M) := by
  refine CT.of (by decide +kernel) (Nat.le_of_ble_eq_true rfl) (fun X hF => ?_)
  show VR X G sh 2 rvV M 0 [(0, .ref (G.2.2.2.2 1)), (1, .int x1)] [] _
  unfold m_X2_add
  refine v_aload_n 0 1 hF dX2_add_0 rfl rfl rfl ?_
  refine v_getI 4 hF dX2_add_1 rfl fl_X2_29 hT.1 rfl ?_
  refine v_if_lt 7 39 hF dX2_add_4 rfl (by decide) (fun _ => ?_) (fun _ => ?_)
  · exact v_vret hF dX2_add_39
  · refine v_aload_n 0 8 hF dX2_add_7 rfl rfl rfl ?_
    refine v_getI 11 hF dX2_add_8 rfl fl_X2_29 hT.1 rfl ?_
    refine v_aload_n 0 12 hF dX2_add_11 rfl rfl rfl ?_
    refine v_getR (b := 2) 15 hF dX2_add_12 rfl fl_X2_11 hT.1 rfl ?_
    refine v_alen 960 16 hF dX2_add_15 rfl (hT.2.1) (Or.inl rfl) (by decide) ?_
    refine v_icmp_ge 19 39 hF dX2_add_16 rfl (by decide) (fun _ => ?_) (fun _ => ?_)
    · exact v_vret hF dX2_add_39
    · refine v_aload_n 0 20 hF dX2_add_19 rfl rfl rfl ?_
      refine v_getR (b := 2) 23 hF dX2_add_20 rfl fl_X2_11 hT.1 rfl ?_
      refine v_aload_n 0 24 hF dX2_add_23 rfl rfl rfl ?_
      refine v_getI 27 hF dX2_add_24 rfl fl_X2_29 hT.1 rfl ?_
      refine v_iload_n 1 28 hF dX2_add_27 rfl rfl rfl ?_
      refine v_iast 29 hF dX2_add_28 rfl (hT.2.1) (fun M1 => ?_)
      refine v_aload_n 0 30 hF dX2_add_29 rfl rfl rfl ?_
      refine v_dupR 31 hF dX2_add_30 rfl ?_
      refine v_getI 34 hF dX2_add_31 rfl fl_X2_29 hT.1 rfl ?_
      refine v_iconst (1) 35 hF dX2_add_34 rfl (by decide) ?_
      refine v_iadd 36 hF dX2_add_35 rfl ?_
      refine v_putI 39 hF dX2_add_36 rfl fl_X2_29 fp_X2_9 hT.1 rfl (fun M2 => ?_)
      exact v_vret hF dX2_add_39
