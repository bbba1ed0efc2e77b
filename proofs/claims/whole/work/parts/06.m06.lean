abbrev rmX3_goesDown : Room := { frames := 4, cells := 0, slots := 0, locals := 99 }
def m_X3_goesDown_J101 (v : Nat) (x1 : Int32) (M : Mm) : Option (Int32 × Mm) := gd (inr x1 8) (gd (!(decide ((8 : Int32) = 0))) (gd (inr x1 8) (lt1 (up M (v + 6) x1.toNatClampNeg ((irm ((((M (v + 6) x1.toNatClampNeg) + (8 : Int32)) - (1 : Int32))) ((8 : Int32))))) fun M1 => some ((0 : Int32), M1))))
def m_X3_goesDown (v : Nat) (x1 : Int32) (M : Mm) : Option (Int32 × Mm) := bd (m_X3_isLetter v x1 M) fun r3 M2 => if r3 = 0 then (some ((0 : Int32), M2)) else (gd (inr x1 8) (if (M2 (v + 6) x1.toNatClampNeg) = (-1 : Int32) then (some ((0 : Int32), M2)) else (gd (inr x1 8) (bd (m_X3_livesIn v ((M2 (v + 6) x1.toNatClampNeg)) M2) fun r5 M4 => lt1 r5 fun y6 => if y6 = (-1 : Int32) then (m_X3_goesDown_J101 v x1 M4) else (gd (inr x1 8) (gd (inr x1 8) (lt1 (up M4 (v + 8) x1.toNatClampNeg (((M4 (v + 8) x1.toNatClampNeg) ||| (shl ((1 : Int32)) y6)))) fun M7 => gd (inr x1 8) (if y6 = (M7 (v + 5) x1.toNatClampNeg) then (gd (inr x1 8) (lt1 (up M7 (v + 6) x1.toNatClampNeg ((-1 : Int32))) fun M15 => some ((1 : Int32), M15))) else (bd (m_X3_carries v y6 x1 M7) fun r9 M8 => if r9 = 0 then (some ((0 : Int32), M8)) else (gd (inr x1 8) (bd (m_X3_softens v y6 x1 M8) fun r11 M10 => bd (m_X3_bounded (((M8 (v + 7) x1.toNatClampNeg) - r11)) ((0 : Int32)) M10) fun r13 M12 => gd (inr x1 8) (lt1 (up M12 (v + 7) x1.toNatClampNeg r13) fun M14 => m_X3_goesDown_J101 v x1 M14))))))))))))
set_option maxRecDepth 100000 in
set_option maxHeartbeats 4000000 in
theorem v_X3_goesDown_J101 {X : Cx} {G : Gx} {sh : List Sh} (hF : FX X G sh 3 cX3_goesDown (yX3_goesDown).cls (some .boolean) rmX3_goesDown) {v : Nat} (hT : TexAt sh) (hv : VilAt sh v) : ∀ (x1 : Int32) (M : Mm), VR X G sh 3 rvI M 101 [(0, .ref (G.2.2.2.2 v)), (1, .int x1)] [] (m_X3_goesDown_J101 v x1 M) := by
  intro x1 M
  unfold m_X3_goesDown_J101
  refine v_aload_n 0 102 hF dX3_goesDown_101 rfl rfl rfl ?_
  refine v_getR (b := v + 6) 105 hF dX3_goesDown_102 rfl fl_X3_31 hv.1 rfl ?_
  refine v_iload_n 1 106 hF dX3_goesDown_105 rfl rfl rfl ?_
  refine v_aload_n 0 107 hF dX3_goesDown_106 rfl rfl rfl ?_
  refine v_getR (b := v + 6) 110 hF dX3_goesDown_107 rfl fl_X3_31 hv.1 rfl ?_
  refine v_iload_n 1 111 hF dX3_goesDown_110 rfl rfl rfl ?_
  refine v_iald 112 hF dX3_goesDown_111 rfl (hv.2.2.2.2.2.2.1) ?_
  refine v_bipush (8) 114 hF dX3_goesDown_112 rfl (by decide) ?_
  refine v_iadd 115 hF dX3_goesDown_114 rfl ?_
  refine v_iconst (1) 116 hF dX3_goesDown_115 rfl (by decide) ?_
  refine v_isub 117 hF dX3_goesDown_116 rfl ?_
  refine v_bipush (8) 119 hF dX3_goesDown_117 rfl (by decide) ?_
  refine v_irem 120 hF dX3_goesDown_119 rfl ?_
  refine v_iast 121 hF dX3_goesDown_120 rfl (hv.2.2.2.2.2.2.1) (fun M1 => ?_)
  refine v_iconst (0) 122 hF dX3_goesDown_121 rfl (by decide) ?_
  exact v_zret0 hF dX3_goesDown_122 rfl
set_option maxRecDepth 100000 in
set_option maxHeartbeats 4000000 in
theorem c_X3_goesDown {G : Gx} {sh : List Sh} {v : Nat} (hT : TexAt sh) (hv : VilAt sh v) (M : Mm) (x1 : Int32) : CT yX3_goesDown cX3_goesDown 3 (some .boolean) rmX3_goesDown G sh [.ref (G.2.2.2.2 v), .int x1] rvI M (m_X3_goesDown v x1 M) := by
  refine CT.of (by decide +kernel) (Nat.le_of_ble_eq_true rfl) (fun X hF => ?_)
  show VR X G sh 3 rvI M 0 [(0, .ref (G.2.2.2.2 v)), (1, .int x1)] [] _
  unfold m_X3_goesDown
  refine v_aload_n 0 1 hF dX3_goesDown_0 rfl rfl rfl ?_
  refine v_iload_n 1 2 hF dX3_goesDown_1 rfl rfl rfl ?_
  refine v_callI ([.int x1]) ([]) 5 hF dX3_goesDown_2 rfl cw_X3_63 rfl (hv.1) (c_X3_isLetter (G := G) hT hv M x1) ⟨rfl, rfl, Nat.le_of_ble_eq_true rfl, Nat.le_of_ble_eq_true rfl⟩ rfl rfl (Nat.le_of_ble_eq_true rfl) (fun r3 M2 => ?_)
  refine v_if_eq 8 18 hF dX3_goesDown_5 rfl (by decide) (fun _ => ?_) (fun _ => ?_)
  · refine v_iconst (0) 19 hF dX3_goesDown_18 rfl (by decide) ?_
    exact v_zret0 hF dX3_goesDown_19 rfl
  · refine v_aload_n 0 9 hF dX3_goesDown_8 rfl rfl rfl ?_
    refine v_getR (b := v + 6) 12 hF dX3_goesDown_9 rfl fl_X3_31 hv.1 rfl ?_
    refine v_iload_n 1 13 hF dX3_goesDown_12 rfl rfl rfl ?_
    refine v_iald 14 hF dX3_goesDown_13 rfl (hv.2.2.2.2.2.2.1) ?_
    refine v_iconst (-1) 15 hF dX3_goesDown_14 rfl (by decide) ?_
    refine v_icmp_ne 18 20 hF dX3_goesDown_15 rfl (by decide) (fun _ => ?_) (fun _ => ?_)
    · refine v_aload_n 0 21 hF dX3_goesDown_20 rfl rfl rfl ?_
      refine v_aload_n 0 22 hF dX3_goesDown_21 rfl rfl rfl ?_
      refine v_getR (b := v + 6) 25 hF dX3_goesDown_22 rfl fl_X3_31 hv.1 rfl ?_
      refine v_iload_n 1 26 hF dX3_goesDown_25 rfl rfl rfl ?_
      refine v_iald 27 hF dX3_goesDown_26 rfl (hv.2.2.2.2.2.2.1) ?_
      refine v_callI ([.int ((M2 (v + 6) x1.toNatClampNeg))]) ([]) 30 hF dX3_goesDown_27 rfl cw_X3_98 rfl (hv.1) (c_X3_livesIn (G := G) hT hv M2 ((M2 (v + 6) x1.toNatClampNeg))) ⟨rfl, rfl, Nat.le_of_ble_eq_true rfl, Nat.le_of_ble_eq_true rfl⟩ rfl rfl (Nat.le_of_ble_eq_true rfl) (fun r5 M4 => ?_)
      refine v_istore_n (lo' := fun y6 => [(2, .int y6), (0, .ref (G.2.2.2.2 v)), (1, .int x1)]) 31 hF dX3_goesDown_30 rfl rfl (by decide) (fun _ => rfl) (fun y6 => ?_)
      refine v_iload_n 0 32 hF dX3_goesDown_31 rfl rfl rfl ?_
      refine v_iconst (-1) 33 hF dX3_goesDown_32 rfl (by decide) ?_
      refine v_icmp_eq 36 101 hF dX3_goesDown_33 rfl (by decide) (fun _ => ?_) (fun _ => ?_)
      · refine VR.pick [1, 2] rfl ?_
        exact v_X3_goesDown_J101 hF hT hv x1 M4
      · refine v_aload_n 1 37 hF dX3_goesDown_36 rfl rfl rfl ?_
        refine v_getR (b := v + 8) 40 hF dX3_goesDown_37 rfl fl_X3_37 hv.1 rfl ?_
        refine v_iload_n 2 41 hF dX3_goesDown_40 rfl rfl rfl ?_
        refine v_dup2 42 hF dX3_goesDown_41 rfl ?_
        refine v_iald 43 hF dX3_goesDown_42 rfl (hv.2.2.2.2.2.2.2.2) ?_
        refine v_iconst (1) 44 hF dX3_goesDown_43 rfl (by decide) ?_
        refine v_iload_n 0 45 hF dX3_goesDown_44 rfl rfl rfl ?_
        refine v_ishl 46 hF dX3_goesDown_45 rfl ?_
        refine v_ior 47 hF dX3_goesDown_46 rfl ?_
        refine v_iast 48 hF dX3_goesDown_47 rfl (hv.2.2.2.2.2.2.2.2) (fun M7 => ?_)
        refine v_iload_n 0 49 hF dX3_goesDown_48 rfl rfl rfl ?_
        refine v_aload_n 1 50 hF dX3_goesDown_49 rfl rfl rfl ?_
        refine v_getR (b := v + 5) 53 hF dX3_goesDown_50 rfl fl_X3_28 hv.1 rfl ?_
        refine v_iload_n 2 54 hF dX3_goesDown_53 rfl rfl rfl ?_
        refine v_iald 55 hF dX3_goesDown_54 rfl (hv.2.2.2.2.2.1) ?_
        refine v_icmp_ne 58 67 hF dX3_goesDown_55 rfl (by decide) (fun _ => ?_) (fun _ => ?_)
        · refine v_aload_n 1 68 hF dX3_goesDown_67 rfl rfl rfl ?_
          refine v_iload_n 0 69 hF dX3_goesDown_68 rfl rfl rfl ?_
          refine v_iload_n 2 70 hF dX3_goesDown_69 rfl rfl rfl ?_
          refine v_callI ([.int y6, .int x1]) ([]) 73 hF dX3_goesDown_70 rfl cw_X3_101 rfl (hv.1) (c_X3_carries (G := G) hT hv M7 y6 x1) ⟨rfl, rfl, Nat.le_of_ble_eq_true rfl, Nat.le_of_ble_eq_true rfl⟩ rfl rfl (Nat.le_of_ble_eq_true rfl) (fun r9 M8 => ?_)
          refine v_if_ne 76 78 hF dX3_goesDown_73 rfl (by decide) (fun _ => ?_) (fun _ => ?_)
          · refine v_aload_n 1 79 hF dX3_goesDown_78 rfl rfl rfl ?_
            refine v_getR (b := v + 7) 82 hF dX3_goesDown_79 rfl fl_X3_34 hv.1 rfl ?_
            refine v_iload_n 2 83 hF dX3_goesDown_82 rfl rfl rfl ?_
            refine v_aload_n 1 84 hF dX3_goesDown_83 rfl rfl rfl ?_
            refine v_getR (b := v + 7) 87 hF dX3_goesDown_84 rfl fl_X3_34 hv.1 rfl ?_
            refine v_iload_n 2 88 hF dX3_goesDown_87 rfl rfl rfl ?_
            refine v_iald 89 hF dX3_goesDown_88 rfl (hv.2.2.2.2.2.2.2.1) ?_
            refine v_aload_n 1 90 hF dX3_goesDown_89 rfl rfl rfl ?_
            refine v_iload_n 0 91 hF dX3_goesDown_90 rfl rfl rfl ?_
            refine v_iload_n 2 92 hF dX3_goesDown_91 rfl rfl rfl ?_
            refine v_callI ([.int y6, .int x1]) ([.int ((M8 (v + 7) x1.toNatClampNeg)), .int x1, .ref (G.2.2.2.2 (v + 7))]) 95 hF dX3_goesDown_92 rfl cw_X3_105 rfl (hv.1) (c_X3_softens (G := G) hT hv M8 y6 x1) ⟨rfl, rfl, Nat.le_of_ble_eq_true rfl, Nat.le_of_ble_eq_true rfl⟩ rfl rfl (Nat.le_of_ble_eq_true rfl) (fun r11 M10 => ?_)
            refine v_isub 96 hF dX3_goesDown_95 rfl ?_
            refine v_iconst (0) 97 hF dX3_goesDown_96 rfl (by decide) ?_
            refine v_staI ([.int (((M8 (v + 7) x1.toNatClampNeg) - r11)), .int ((0 : Int32))]) ([.int x1, .ref (G.2.2.2.2 (v + 7))]) 100 hF dX3_goesDown_97 rfl cw_X3_109 (c_X3_bounded (G := G) (sh := sh) M10 (((M8 (v + 7) x1.toNatClampNeg) - r11)) ((0 : Int32))) ⟨rfl, rfl, Nat.le_of_ble_eq_true rfl, Nat.le_of_ble_eq_true rfl⟩ rfl rfl (Nat.le_of_ble_eq_true rfl) (fun r13 M12 => ?_)
            refine v_iast 101 hF dX3_goesDown_100 rfl (hv.2.2.2.2.2.2.2.1) (fun M14 => ?_)
            refine VR.pick [1, 2] rfl ?_
            exact v_X3_goesDown_J101 hF hT hv x1 M14
          · refine v_iconst (0) 77 hF dX3_goesDown_76 rfl (by decide) ?_
            exact v_zret0 hF dX3_goesDown_77 rfl
        · refine v_aload_n 1 59 hF dX3_goesDown_58 rfl rfl rfl ?_
          refine v_getR (b := v + 6) 62 hF dX3_goesDown_59 rfl fl_X3_31 hv.1 rfl ?_
          refine v_iload_n 2 63 hF dX3_goesDown_62 rfl rfl rfl ?_
          refine v_iconst (-1) 64 hF dX3_goesDown_63 rfl (by decide) ?_
          refine v_iast 65 hF dX3_goesDown_64 rfl (hv.2.2.2.2.2.2.1) (fun M15 => ?_)
          refine v_iconst (1) 66 hF dX3_goesDown_65 rfl (by decide) ?_
          exact v_zret0 hF dX3_goesDown_66 rfl
    · refine v_iconst (0) 19 hF dX3_goesDown_18 rfl (by decide) ?_
      exact v_zret0 hF dX3_goesDown_19 rfl
abbrev rmX3_passDay : Room := { frames := 5, cells := 0, slots := 0, locals := 121 }
def m_X3_passDay_J38 (v : Nat) (x1 : Int32) (M : Mm) : Option (Int32 × Mm) := lt1 (up M v 1 (((M v 1) + (1 : Int32)))) fun M1 => some (x1, M1)
def m_X3_passDay_J32 (v : Nat) (n4 : Int32 → Int32 → Mm → Option (Int32 × Mm)) (x1 : Int32) (x2 : Int32) (M : Mm) : Option (Int32 × Mm) := lt1 (x2 + 1) fun y2 => n4 x1 y2 M
def m_X3_passDay_B4 (v : Nat) (n4 : Int32 → Int32 → Mm → Option (Int32 × Mm)) (x1 : Int32) (x2 : Int32) (M : Mm) : Option (Int32 × Mm) := if (M v 5) ≤ x2 then (m_X3_passDay_J38 v x1 M) else (if (8 : Int32) ≤ x2 then (m_X3_passDay_J38 v x1 M) else (bd (m_X3_goesDown v x2 M) fun r4 M3 => if r4 = 0 then (m_X3_passDay_J32 v n4 x1 x2 M3) else (lt1 ((x1 ||| (shl ((1 : Int32)) x2))) fun y5 => m_X3_passDay_J32 v n4 y5 x2 M3)))
def m_X3_passDay_L4 (v : Nat) : Nat → Int32 → Int32 → Mm → Option (Int32 × Mm)
  | 0 => fun _ _ _ => none
  | n + 1 => m_X3_passDay_B4 v (m_X3_passDay_L4 v n)
def m_X3_passDay (v : Nat)  (M : Mm) : Option (Int32 × Mm) := lt1 ((0 : Int32)) fun y6 => lt1 ((0 : Int32)) fun y7 => m_X3_passDay_L4 v FU y6 y7 M
set_option maxRecDepth 100000 in
set_option maxHeartbeats 4000000 in
theorem v_X3_passDay_J38 {X : Cx} {G : Gx} {sh : List Sh} (hF : FX X G sh 3 cX3_passDay (yX3_passDay).cls (some .int) rmX3_passDay) {v : Nat} (hT : TexAt sh) (hv : VilAt sh v) : ∀ (x1 : Int32) (M : Mm), VR X G sh 3 rvI M 38 [(0, .ref (G.2.2.2.2 v)), (1, .int x1)] [] (m_X3_passDay_J38 v x1 M) := by
  intro x1 M
  unfold m_X3_passDay_J38
  refine v_aload_n 0 39 hF dX3_passDay_38 rfl rfl rfl ?_
  refine v_dupR 40 hF dX3_passDay_39 rfl ?_
  refine v_getI 43 hF dX3_passDay_40 rfl fl_X3_44 hv.1 rfl ?_
  refine v_iconst (1) 44 hF dX3_passDay_43 rfl (by decide) ?_
  refine v_iadd 45 hF dX3_passDay_44 rfl ?_
  refine v_putI 48 hF dX3_passDay_45 rfl fl_X3_44 fp_X3_1 hv.1 rfl (fun M1 => ?_)
  refine v_iload_n 1 49 hF dX3_passDay_48 rfl rfl rfl ?_
  exact v_iret hF dX3_passDay_49
set_option maxRecDepth 100000 in
set_option maxHeartbeats 4000000 in
theorem v_X3_passDay_J32 {X : Cx} {G : Gx} {sh : List Sh} (hF : FX X G sh 3 cX3_passDay (yX3_passDay).cls (some .int) rmX3_passDay) {v : Nat} (hT : TexAt sh) (hv : VilAt sh v) (n4 : Int32 → Int32 → Mm → Option (Int32 × Mm)) (h4 : ∀ (x1 : Int32) (x2 : Int32) (M : Mm), VR X G sh 3 rvI M 4 [(0, .ref (G.2.2.2.2 v)), (1, .int x1), (2, .int x2)] [] (n4 x1 x2 M)) : ∀ (x1 : Int32) (x2 : Int32) (M : Mm), VR X G sh 3 rvI M 32 [(0, .ref (G.2.2.2.2 v)), (1, .int x1), (2, .int x2)] [] (m_X3_passDay_J32 v n4 x1 x2 M) := by
  intro x1 x2 M
  unfold m_X3_passDay_J32
  refine v_iinc (v := (x2 + 1)) (lo' := fun y2 => [(2, .int y2), (0, .ref (G.2.2.2.2 v)), (1, .int x1)]) 2 35 hF dX3_passDay_32 rfl rfl rfl (by decide) (fun _ => rfl) (fun y2 => ?_)
  refine v_goto 4 hF dX3_passDay_35 (by decide) ?_
  refine VR.pick [1, 2, 0] rfl ?_
  exact h4 x1 y2 M
set_option maxRecDepth 100000 in
set_option maxHeartbeats 4000000 in
theorem v_X3_passDay_B4 {X : Cx} {G : Gx} {sh : List Sh} (hF : FX X G sh 3 cX3_passDay (yX3_passDay).cls (some .int) rmX3_passDay) {v : Nat} (hT : TexAt sh) (hv : VilAt sh v) (n4 : Int32 → Int32 → Mm → Option (Int32 × Mm)) (h4 : ∀ (x1 : Int32) (x2 : Int32) (M : Mm), VR X G sh 3 rvI M 4 [(0, .ref (G.2.2.2.2 v)), (1, .int x1), (2, .int x2)] [] (n4 x1 x2 M)) : ∀ (x1 : Int32) (x2 : Int32) (M : Mm), VR X G sh 3 rvI M 4 [(0, .ref (G.2.2.2.2 v)), (1, .int x1), (2, .int x2)] [] (m_X3_passDay_B4 v n4 x1 x2 M) := by
  intro x1 x2 M
  unfold m_X3_passDay_B4
  refine v_iload_n 2 5 hF dX3_passDay_4 rfl rfl rfl ?_
  refine v_aload_n 0 6 hF dX3_passDay_5 rfl rfl rfl ?_
  refine v_getI 9 hF dX3_passDay_6 rfl fl_X3_53 hv.1 rfl ?_
  refine v_icmp_ge 12 38 hF dX3_passDay_9 rfl (by decide) (fun _ => ?_) (fun _ => ?_)
  · refine VR.pick [0, 1] rfl ?_
    exact v_X3_passDay_J38 hF hT hv x1 M
  · refine v_iload_n 2 13 hF dX3_passDay_12 rfl rfl rfl ?_
    refine v_bipush (8) 15 hF dX3_passDay_13 rfl (by decide) ?_
    refine v_icmp_ge 18 38 hF dX3_passDay_15 rfl (by decide) (fun _ => ?_) (fun _ => ?_)
    · refine VR.pick [0, 1] rfl ?_
      exact v_X3_passDay_J38 hF hT hv x1 M
    · refine v_aload_n 0 19 hF dX3_passDay_18 rfl rfl rfl ?_
      refine v_iload_n 2 20 hF dX3_passDay_19 rfl rfl rfl ?_
      refine v_callI ([.int x2]) ([]) 23 hF dX3_passDay_20 rfl cw_X3_73 rfl (hv.1) (c_X3_goesDown (G := G) hT hv M x2) ⟨rfl, rfl, Nat.le_of_ble_eq_true rfl, Nat.le_of_ble_eq_true rfl⟩ rfl rfl (Nat.le_of_ble_eq_true rfl) (fun r4 M3 => ?_)
      refine v_if_eq 26 32 hF dX3_passDay_23 rfl (by decide) (fun _ => ?_) (fun _ => ?_)
      · refine VR.pick [0, 1, 2] rfl ?_
        exact v_X3_passDay_J32 hF hT hv _ h4 x1 x2 M3
      · refine v_iload_n 1 27 hF dX3_passDay_26 rfl rfl rfl ?_
        refine v_iconst (1) 28 hF dX3_passDay_27 rfl (by decide) ?_
        refine v_iload_n 2 29 hF dX3_passDay_28 rfl rfl rfl ?_
        refine v_ishl 30 hF dX3_passDay_29 rfl ?_
        refine v_ior 31 hF dX3_passDay_30 rfl ?_
        refine v_istore_n (lo' := fun y5 => [(1, .int y5), (0, .ref (G.2.2.2.2 v)), (2, .int x2)]) 32 hF dX3_passDay_31 rfl rfl (by decide) (fun _ => rfl) (fun y5 => ?_)
        refine VR.pick [1, 0, 2] rfl ?_
        exact v_X3_passDay_J32 hF hT hv _ h4 y5 x2 M3
theorem v_X3_passDay_L4 {X : Cx} {G : Gx} {sh : List Sh} (hF : FX X G sh 3 cX3_passDay (yX3_passDay).cls (some .int) rmX3_passDay) {v : Nat} (hT : TexAt sh) (hv : VilAt sh v) : ∀ (n : Nat), ∀ (x1 : Int32) (x2 : Int32) (M : Mm), VR X G sh 3 rvI M 4 [(0, .ref (G.2.2.2.2 v)), (1, .int x1), (2, .int x2)] [] (m_X3_passDay_L4 v n x1 x2 M) := by
  intro n
  induction n with
  | zero => intro x1 x2 M; exact VR.none
  | succ n ih => exact v_X3_passDay_B4 hF hT hv _ ih
set_option maxRecDepth 100000 in
set_option maxHeartbeats 4000000 in
theorem c_X3_passDay {G : Gx} {sh : List Sh} {v : Nat} (hT : TexAt sh) (hv : VilAt sh v) (M : Mm)  : CT yX3_passDay cX3_passDay 3 (some .int) rmX3_passDay G sh [.ref (G.2.2.2.2 v)] rvI M (m_X3_passDay v  M) := by
  refine CT.of (by decide +kernel) (Nat.le_of_ble_eq_true rfl) (fun X hF => ?_)
  show VR X G sh 3 rvI M 0 [(0, .ref (G.2.2.2.2 v))] [] _
  unfold m_X3_passDay
  refine v_iconst (0) 1 hF dX3_passDay_0 rfl (by decide) ?_
  refine v_istore_n (lo' := fun y6 => [(1, .int y6), (0, .ref (G.2.2.2.2 v))]) 2 hF dX3_passDay_1 rfl rfl (by decide) (fun _ => rfl) (fun y6 => ?_)
  refine v_iconst (0) 3 hF dX3_passDay_2 rfl (by decide) ?_
  refine v_istore_n (lo' := fun y7 => [(2, .int y7), (1, .int y6), (0, .ref (G.2.2.2.2 v))]) 4 hF dX3_passDay_3 rfl rfl (by decide) (fun _ => rfl) (fun y7 => ?_)
  refine VR.pick [2, 1, 0] rfl ?_
  exact v_X3_passDay_L4 hF hT hv FU y6 y7 M
abbrev rmX3_passDays : Room := { frames := 6, cells := 0, slots := 0, locals := 143 }
def m_X3_passDays_B2 (v : Nat) (n2 : Int32 → Int32 → Mm → Option (Unit × Mm)) (x1 : Int32) (x2 : Int32) (M : Mm) : Option (Unit × Mm) := if x1 ≤ x2 then (some ((), M)) else (bd (m_X3_passDay v M) fun r2 M1 => lt1 (x2 + 1) fun y3 => n2 x1 y3 M1)
def m_X3_passDays_L2 (v : Nat) : Nat → Int32 → Int32 → Mm → Option (Unit × Mm)
  | 0 => fun _ _ _ => none
  | n + 1 => m_X3_passDays_B2 v (m_X3_passDays_L2 v n)
def m_X3_passDays (v : Nat) (x1 : Int32) (M : Mm) : Option (Unit × Mm) := lt1 ((0 : Int32)) fun y4 => m_X3_passDays_L2 v FU x1 y4 M
set_option maxRecDepth 100000 in
set_option maxHeartbeats 4000000 in
theorem v_X3_passDays_B2 {X : Cx} {G : Gx} {sh : List Sh} (hF : FX X G sh 3 cX3_passDays (yX3_passDays).cls none rmX3_passDays) {v : Nat} (hT : TexAt sh) (hv : VilAt sh v) (n2 : Int32 → Int32 → Mm → Option (Unit × Mm)) (h2 : ∀ (x1 : Int32) (x2 : Int32) (M : Mm), VR X G sh 3 rvV M 2 [(0, .ref (G.2.2.2.2 v)), (1, .int x1), (2, .int x2)] [] (n2 x1 x2 M)) : ∀ (x1 : Int32) (x2 : Int32) (M : Mm), VR X G sh 3 rvV M 2 [(0, .ref (G.2.2.2.2 v)), (1, .int x1), (2, .int x2)] [] (m_X3_passDays_B2 v n2 x1 x2 M) := by
  intro x1 x2 M
  unfold m_X3_passDays_B2
  refine v_iload_n 2 3 hF dX3_passDays_2 rfl rfl rfl ?_
  refine v_iload_n 1 4 hF dX3_passDays_3 rfl rfl rfl ?_
  refine v_icmp_ge 7 18 hF dX3_passDays_4 rfl (by decide) (fun _ => ?_) (fun _ => ?_)
  · exact v_vret hF dX3_passDays_18
  · refine v_aload_n 0 8 hF dX3_passDays_7 rfl rfl rfl ?_
    refine v_callI ([]) ([]) 11 hF dX3_passDays_8 rfl cw_X3_76 rfl (hv.1) (c_X3_passDay (G := G) hT hv M) ⟨rfl, rfl, Nat.le_of_ble_eq_true rfl, Nat.le_of_ble_eq_true rfl⟩ rfl rfl (Nat.le_of_ble_eq_true rfl) (fun r2 M1 => ?_)
    refine v_popI 12 hF dX3_passDays_11 rfl ?_
    refine v_iinc (v := (x2 + 1)) (lo' := fun y3 => [(2, .int y3), (0, .ref (G.2.2.2.2 v)), (1, .int x1)]) 2 15 hF dX3_passDays_12 rfl rfl rfl (by decide) (fun _ => rfl) (fun y3 => ?_)
    refine v_goto 2 hF dX3_passDays_15 (by decide) ?_
    refine VR.pick [1, 2, 0] rfl ?_
    exact h2 x1 y3 M1
theorem v_X3_passDays_L2 {X : Cx} {G : Gx} {sh : List Sh} (hF : FX X G sh 3 cX3_passDays (yX3_passDays).cls none rmX3_passDays) {v : Nat} (hT : TexAt sh) (hv : VilAt sh v) : ∀ (n : Nat), ∀ (x1 : Int32) (x2 : Int32) (M : Mm), VR X G sh 3 rvV M 2 [(0, .ref (G.2.2.2.2 v)), (1, .int x1), (2, .int x2)] [] (m_X3_passDays_L2 v n x1 x2 M) := by
  intro n
  induction n with
  | zero => intro x1 x2 M; exact VR.none
  | succ n ih => exact v_X3_passDays_B2 hF hT hv _ ih
set_option maxRecDepth 100000 in
set_option maxHeartbeats 4000000 in
theorem c_X3_passDays {G : Gx} {sh : List Sh} {v : Nat} (hT : TexAt sh) (hv : VilAt sh v) (M : Mm) (x1 : Int32) : CT yX3_passDays cX3_passDays 3 none rmX3_passDays G sh [.ref (G.2.2.2.2 v), .int x1] rvV M (m_X3_passDays v x1 M) := by
  refine CT.of (by decide +kernel) (Nat.le_of_ble_eq_true rfl) (fun X hF => ?_)
  show VR X G sh 3 rvV M 0 [(0, .ref (G.2.2.2.2 v)), (1, .int x1)] [] _
  unfold m_X3_passDays
  refine v_iconst (0) 1 hF dX3_passDays_0 rfl (by decide) ?_
  refine v_istore_n (lo' := fun y4 => [(2, .int y4), (0, .ref (G.2.2.2.2 v)), (1, .int x1)]) 2 hF dX3_passDays_1 rfl rfl (by decide) (fun _ => rfl) (fun y4 => ?_)
  refine VR.pick [1, 2, 0] rfl ?_
  exact v_X3_passDays_L2 hF hT hv FU x1 y4 M
abbrev rmX3_passDayOf : Room := { frames := 5, cells := 0, slots := 0, locals := 121 }
def m_X3_passDayOf (v : Nat) (x1 : Int32) (M : Mm) : Option (Unit × Mm) := bd (m_X3_goesDown v x1 M) fun r2 M1 => lt1 (up M1 v 1 (((M1 v 1) + (1 : Int32)))) fun M3 => some ((), M3)
set_option maxRecDepth 100000 in
set_option maxHeartbeats 4000000 in
theorem c_X3_passDayOf {G : Gx} {sh : List Sh} {v : Nat} (hT : TexAt sh) (hv : VilAt sh v) (M : Mm) (x1 : Int32) : CT yX3_passDayOf cX3_passDayOf 2 none rmX3_passDayOf G sh [.ref (G.2.2.2.2 v), .int x1] rvV M (m_X3_passDayOf v x1 M) := by
  refine CT.of (by decide +kernel) (Nat.le_of_ble_eq_true rfl) (fun X hF => ?_)
  show VR X G sh 2 rvV M 0 [(0, .ref (G.2.2.2.2 v)), (1, .int x1)] [] _
  unfold m_X3_passDayOf
  refine v_aload_n 0 1 hF dX3_passDayOf_0 rfl rfl rfl ?_
  refine v_iload_n 1 2 hF dX3_passDayOf_1 rfl rfl rfl ?_
  refine v_callI ([.int x1]) ([]) 5 hF dX3_passDayOf_2 rfl cw_X3_73 rfl (hv.1) (c_X3_goesDown (G := G) hT hv M x1) ⟨rfl, rfl, Nat.le_of_ble_eq_true rfl, Nat.le_of_ble_eq_true rfl⟩ rfl rfl (Nat.le_of_ble_eq_true rfl) (fun r2 M1 => ?_)
  refine v_popI 6 hF dX3_passDayOf_5 rfl ?_
  refine v_aload_n 0 7 hF dX3_passDayOf_6 rfl rfl rfl ?_
  refine v_dupR 8 hF dX3_passDayOf_7 rfl ?_
  refine v_getI 11 hF dX3_passDayOf_8 rfl fl_X3_44 hv.1 rfl ?_
  refine v_iconst (1) 12 hF dX3_passDayOf_11 rfl (by decide) ?_
  refine v_iadd 13 hF dX3_passDayOf_12 rfl ?_
  refine v_putI 16 hF dX3_passDayOf_13 rfl fl_X3_44 fp_X3_1 hv.1 rfl (fun M3 => ?_)
  exact v_vret hF dX3_passDayOf_16
abbrev rmX3_readBehind : Room := { frames := 6, cells := 0, slots := 0, locals := 142 }
def m_X3_readBehind_B2 (v : Nat) (n2 : Int32 → Int32 → Int32 → Mm → Option (Int32 × Mm)) (x1 : Int32) (x2 : Int32) (x3 : Int32) (M : Mm) : Option (Int32 × Mm) := if x2 ≤ x3 then (bd (m_X3_readBy v x1 M) fun r2 M1 => some (r2, M1)) else (bd (m_X3_passDayOf v x1 M) fun _ M3 => lt1 (x3 + 1) fun y4 => n2 x1 x2 y4 M3)
def m_X3_readBehind_L2 (v : Nat) : Nat → Int32 → Int32 → Int32 → Mm → Option (Int32 × Mm)
  | 0 => fun _ _ _ _ => none
  | n + 1 => m_X3_readBehind_B2 v (m_X3_readBehind_L2 v n)
def m_X3_readBehind (v : Nat) (x1 : Int32) (x2 : Int32) (M : Mm) : Option (Int32 × Mm) := lt1 ((0 : Int32)) fun y5 => m_X3_readBehind_L2 v FU x1 x2 y5 M
set_option maxRecDepth 100000 in
set_option maxHeartbeats 4000000 in
theorem v_X3_readBehind_B2 {X : Cx} {G : Gx} {sh : List Sh} (hF : FX X G sh 4 cX3_readBehind (yX3_readBehind).cls (some .int) rmX3_readBehind) {v : Nat} (hT : TexAt sh) (hv : VilAt sh v) (n2 : Int32 → Int32 → Int32 → Mm → Option (Int32 × Mm)) (h2 : ∀ (x1 : Int32) (x2 : Int32) (x3 : Int32) (M : Mm), VR X G sh 4 rvI M 2 [(0, .ref (G.2.2.2.2 v)), (1, .int x1), (2, .int x2), (3, .int x3)] [] (n2 x1 x2 x3 M)) : ∀ (x1 : Int32) (x2 : Int32) (x3 : Int32) (M : Mm), VR X G sh 4 rvI M 2 [(0, .ref (G.2.2.2.2 v)), (1, .int x1), (2, .int x2), (3, .int x3)] [] (m_X3_readBehind_B2 v n2 x1 x2 x3 M) := by
  intro x1 x2 x3 M
  unfold m_X3_readBehind_B2
  refine v_iload_n 3 3 hF dX3_readBehind_2 rfl rfl rfl ?_
  refine v_iload_n 2 4 hF dX3_readBehind_3 rfl rfl rfl ?_
  refine v_icmp_ge 7 18 hF dX3_readBehind_4 rfl (by decide) (fun _ => ?_) (fun _ => ?_)
  · refine v_aload_n 0 19 hF dX3_readBehind_18 rfl rfl rfl ?_
    refine v_iload_n 1 20 hF dX3_readBehind_19 rfl rfl rfl ?_
    refine v_callI ([.int x1]) ([]) 23 hF dX3_readBehind_20 rfl cw_X3_84 rfl (hv.1) (c_X3_readBy (G := G) hT hv M x1) ⟨rfl, rfl, Nat.le_of_ble_eq_true rfl, Nat.le_of_ble_eq_true rfl⟩ rfl rfl (Nat.le_of_ble_eq_true rfl) (fun r2 M1 => ?_)
    exact v_iret hF dX3_readBehind_23
  · refine v_aload_n 0 8 hF dX3_readBehind_7 rfl rfl rfl ?_
    refine v_iload_n 1 9 hF dX3_readBehind_8 rfl rfl rfl ?_
    refine v_callV ([.int x1]) ([]) 12 hF dX3_readBehind_9 rfl cw_X3_80 rfl (hv.1) (c_X3_passDayOf (G := G) hT hv M x1) ⟨rfl, rfl, Nat.le_of_ble_eq_true rfl, Nat.le_of_ble_eq_true rfl⟩ rfl rfl (Nat.le_of_ble_eq_true rfl) (fun _ M3 => ?_)
    refine v_iinc (v := (x3 + 1)) (lo' := fun y4 => [(3, .int y4), (0, .ref (G.2.2.2.2 v)), (1, .int x1), (2, .int x2)]) 3 15 hF dX3_readBehind_12 rfl rfl rfl (by decide) (fun _ => rfl) (fun y4 => ?_)
    refine v_goto 2 hF dX3_readBehind_15 (by decide) ?_
    refine VR.pick [1, 2, 3, 0] rfl ?_
    exact h2 x1 x2 y4 M3
theorem v_X3_readBehind_L2 {X : Cx} {G : Gx} {sh : List Sh} (hF : FX X G sh 4 cX3_readBehind (yX3_readBehind).cls (some .int) rmX3_readBehind) {v : Nat} (hT : TexAt sh) (hv : VilAt sh v) : ∀ (n : Nat), ∀ (x1 : Int32) (x2 : Int32) (x3 : Int32) (M : Mm), VR X G sh 4 rvI M 2 [(0, .ref (G.2.2.2.2 v)), (1, .int x1), (2, .int x2), (3, .int x3)] [] (m_X3_readBehind_L2 v n x1 x2 x3 M) := by
  intro n
  induction n with
  | zero => intro x1 x2 x3 M; exact VR.none
  | succ n ih => exact v_X3_readBehind_B2 hF hT hv _ ih
set_option maxRecDepth 100000 in
set_option maxHeartbeats 4000000 in
theorem c_X3_readBehind {G : Gx} {sh : List Sh} {v : Nat} (hT : TexAt sh) (hv : VilAt sh v) (M : Mm) (x1 : Int32) (x2 : Int32) : CT yX3_readBehind cX3_readBehind 4 (some .int) rmX3_readBehind G sh [.ref (G.2.2.2.2 v), .int x1, .int x2] rvI M (m_X3_readBehind v x1 x2 M) := by
  refine CT.of (by decide +kernel) (Nat.le_of_ble_eq_true rfl) (fun X hF => ?_)
  show VR X G sh 4 rvI M 0 [(0, .ref (G.2.2.2.2 v)), (1, .int x1), (2, .int x2)] [] _
  unfold m_X3_readBehind
  refine v_iconst (0) 1 hF dX3_readBehind_0 rfl (by decide) ?_
  refine v_istore_n (lo' := fun y5 => [(3, .int y5), (0, .ref (G.2.2.2.2 v)), (1, .int x1), (2, .int x2)]) 2 hF dX3_readBehind_1 rfl rfl (by decide) (fun _ => rfl) (fun y5 => ?_)
  refine VR.pick [1, 2, 3, 0] rfl ?_
  exact v_X3_readBehind_L2 hF hT hv FU x1 x2 y5 M
abbrev rmX3_firstOtherwise : Room := { frames := 5, cells := 0, slots := 0, locals := 121 }
def m_X3_firstOtherwise_B2 (v : Nat) (w : Nat) (n2 : Int32 → Int32 → Mm → Option (Int32 × Mm)) (x2 : Int32) (x3 : Int32) (M : Mm) : Option (Int32 × Mm) := if (M w 1) ≤ x3 then (some ((-1 : Int32), M)) else (bd (m_X3_goesDown v x2 M) fun r2 M1 => lt1 (up M1 v 1 (((M1 v 1) + (1 : Int32)))) fun M3 => bd (m_X3_whereIs v x2 M3) fun r5 M4 => bd (m_X0_item w x3 M4) fun r7 M6 => if r5 = r7 then (lt1 (x3 + 1) fun y8 => n2 x2 y8 M6) else (some (x3, M6)))
def m_X3_firstOtherwise_L2 (v : Nat) (w : Nat) : Nat → Int32 → Int32 → Mm → Option (Int32 × Mm)
  | 0 => fun _ _ _ => none
  | n + 1 => m_X3_firstOtherwise_B2 v w (m_X3_firstOtherwise_L2 v w n)
def m_X3_firstOtherwise (v : Nat) (w : Nat) (x2 : Int32) (M : Mm) : Option (Int32 × Mm) := lt1 ((0 : Int32)) fun y9 => m_X3_firstOtherwise_L2 v w FU x2 y9 M
set_option maxRecDepth 100000 in
set_option maxHeartbeats 4000000 in
theorem v_X3_firstOtherwise_B2 {X : Cx} {G : Gx} {sh : List Sh} (hF : FX X G sh 4 cX3_firstOtherwise (yX3_firstOtherwise).cls (some .int) rmX3_firstOtherwise) {v : Nat} {w : Nat} (hT : TexAt sh) (hv : VilAt sh v) (hw : SheAt sh w) (n2 : Int32 → Int32 → Mm → Option (Int32 × Mm)) (h2 : ∀ (x2 : Int32) (x3 : Int32) (M : Mm), VR X G sh 4 rvI M 2 [(0, .ref (G.2.2.2.2 v)), (1, .ref (G.2.2.2.2 w)), (2, .int x2), (3, .int x3)] [] (n2 x2 x3 M)) : ∀ (x2 : Int32) (x3 : Int32) (M : Mm), VR X G sh 4 rvI M 2 [(0, .ref (G.2.2.2.2 v)), (1, .ref (G.2.2.2.2 w)), (2, .int x2), (3, .int x3)] [] (m_X3_firstOtherwise_B2 v w n2 x2 x3 M) := by
  intro x2 x3 M
  unfold m_X3_firstOtherwise_B2
  refine v_iload_n 3 3 hF dX3_firstOtherwise_2 rfl rfl rfl ?_
  refine v_aload_n 1 4 hF dX3_firstOtherwise_3 rfl rfl rfl ?_
  refine v_getI 7 hF dX3_firstOtherwise_4 rfl fl_X3_87 hw.1 rfl ?_
  refine v_icmp_ge 10 47 hF dX3_firstOtherwise_7 rfl (by decide) (fun _ => ?_) (fun _ => ?_)
  · refine v_iconst (-1) 48 hF dX3_firstOtherwise_47 rfl (by decide) ?_
    exact v_iret hF dX3_firstOtherwise_48
  · refine v_aload_n 0 11 hF dX3_firstOtherwise_10 rfl rfl rfl ?_
    refine v_iload_n 2 12 hF dX3_firstOtherwise_11 rfl rfl rfl ?_
    refine v_callI ([.int x2]) ([]) 15 hF dX3_firstOtherwise_12 rfl cw_X3_73 rfl (hv.1) (c_X3_goesDown (G := G) hT hv M x2) ⟨rfl, rfl, Nat.le_of_ble_eq_true rfl, Nat.le_of_ble_eq_true rfl⟩ rfl rfl (Nat.le_of_ble_eq_true rfl) (fun r2 M1 => ?_)
    refine v_popI 16 hF dX3_firstOtherwise_15 rfl ?_
    refine v_aload_n 0 17 hF dX3_firstOtherwise_16 rfl rfl rfl ?_
    refine v_dupR 18 hF dX3_firstOtherwise_17 rfl ?_
    refine v_getI 21 hF dX3_firstOtherwise_18 rfl fl_X3_44 hv.1 rfl ?_
    refine v_iconst (1) 22 hF dX3_firstOtherwise_21 rfl (by decide) ?_
    refine v_iadd 23 hF dX3_firstOtherwise_22 rfl ?_
    refine v_putI 26 hF dX3_firstOtherwise_23 rfl fl_X3_44 fp_X3_1 hv.1 rfl (fun M3 => ?_)
    refine v_aload_n 0 27 hF dX3_firstOtherwise_26 rfl rfl rfl ?_
    refine v_iload_n 2 28 hF dX3_firstOtherwise_27 rfl rfl rfl ?_
    refine v_callI ([.int x2]) ([]) 31 hF dX3_firstOtherwise_28 rfl cw_X3_92 rfl (hv.1) (c_X3_whereIs (G := G) hT hv M3 x2) ⟨rfl, rfl, Nat.le_of_ble_eq_true rfl, Nat.le_of_ble_eq_true rfl⟩ rfl rfl (Nat.le_of_ble_eq_true rfl) (fun r5 M4 => ?_)
    refine v_aload_n 1 32 hF dX3_firstOtherwise_31 rfl rfl rfl ?_
    refine v_iload_n 3 33 hF dX3_firstOtherwise_32 rfl rfl rfl ?_
    refine v_callI ([.int x3]) ([.int r5]) 36 hF dX3_firstOtherwise_33 rfl cw_X3_95 rfl (hw.1) (c_X0_item (G := G) hw M4 x3) ⟨rfl, rfl, Nat.le_of_ble_eq_true rfl, Nat.le_of_ble_eq_true rfl⟩ rfl rfl (Nat.le_of_ble_eq_true rfl) (fun r7 M6 => ?_)
    refine v_icmp_eq 39 41 hF dX3_firstOtherwise_36 rfl (by decide) (fun _ => ?_) (fun _ => ?_)
    · refine v_iinc (v := (x3 + 1)) (lo' := fun y8 => [(3, .int y8), (0, .ref (G.2.2.2.2 v)), (1, .ref (G.2.2.2.2 w)), (2, .int x2)]) 3 44 hF dX3_firstOtherwise_41 rfl rfl rfl (by decide) (fun _ => rfl) (fun y8 => ?_)
      refine v_goto 2 hF dX3_firstOtherwise_44 (by decide) ?_
      refine VR.pick [1, 2, 3, 0] rfl ?_
      exact h2 x2 y8 M6
    · refine v_iload_n 3 40 hF dX3_firstOtherwise_39 rfl rfl rfl ?_
      exact v_iret hF dX3_firstOtherwise_40
theorem v_X3_firstOtherwise_L2 {X : Cx} {G : Gx} {sh : List Sh} (hF : FX X G sh 4 cX3_firstOtherwise (yX3_firstOtherwise).cls (some .int) rmX3_firstOtherwise) {v : Nat} {w : Nat} (hT : TexAt sh) (hv : VilAt sh v) (hw : SheAt sh w) : ∀ (n : Nat), ∀ (x2 : Int32) (x3 : Int32) (M : Mm), VR X G sh 4 rvI M 2 [(0, .ref (G.2.2.2.2 v)), (1, .ref (G.2.2.2.2 w)), (2, .int x2), (3, .int x3)] [] (m_X3_firstOtherwise_L2 v w n x2 x3 M) := by
  intro n
  induction n with
  | zero => intro x2 x3 M; exact VR.none
  | succ n ih => exact v_X3_firstOtherwise_B2 hF hT hv hw _ ih
set_option maxRecDepth 100000 in
set_option maxHeartbeats 4000000 in
theorem c_X3_firstOtherwise {G : Gx} {sh : List Sh} {v : Nat} {w : Nat} (hT : TexAt sh) (hv : VilAt sh v) (hw : SheAt sh w) (M : Mm) (x2 : Int32) : CT yX3_firstOtherwise cX3_firstOtherwise 4 (some .int) rmX3_firstOtherwise G sh [.ref (G.2.2.2.2 v), .ref (G.2.2.2.2 w), .int x2] rvI M (m_X3_firstOtherwise v w x2 M) := by
  refine CT.of (by decide +kernel) (Nat.le_of_ble_eq_true rfl) (fun X hF => ?_)
  show VR X G sh 4 rvI M 0 [(0, .ref (G.2.2.2.2 v)), (1, .ref (G.2.2.2.2 w)), (2, .int x2)] [] _
  unfold m_X3_firstOtherwise
  refine v_iconst (0) 1 hF dX3_firstOtherwise_0 rfl (by decide) ?_
  refine v_istore_n (lo' := fun y9 => [(3, .int y9), (0, .ref (G.2.2.2.2 v)), (1, .ref (G.2.2.2.2 w)), (2, .int x2)]) 2 hF dX3_firstOtherwise_1 rfl rfl (by decide) (fun _ => rfl) (fun y9 => ?_)
  refine VR.pick [1, 2, 3, 0] rfl ?_
  exact v_X3_firstOtherwise_L2 hF hT hv hw FU x2 y9 M
abbrev rmX3_isUnder : Room := { frames := 0, cells := 0, slots := 0, locals := 0 }
def m_X3_isUnder_B4 (n4 : Int32 → Int32 → Int32 → Mm → Option (Int32 × Mm)) (x1 : Int32) (x2 : Int32) (x3 : Int32) (M : Mm) : Option (Int32 × Mm) := if (6 : Int32) ≤ x3 then (some ((0 : Int32), M)) else (if x2 < 0 then (some ((0 : Int32), M)) else (if (6 : Int32) ≤ x2 then (some ((0 : Int32), M)) else (if x2 = x1 then (some ((1 : Int32), M)) else (gd (inr x2 6) (lt1 ((abv x2.toNatClampNeg)) fun y1 => lt1 (x3 + 1) fun y2 => n4 x1 y1 y2 M)))))
def m_X3_isUnder_L4 : Nat → Int32 → Int32 → Int32 → Mm → Option (Int32 × Mm)
  | 0 => fun _ _ _ _ => none
  | n + 1 => m_X3_isUnder_B4  (m_X3_isUnder_L4  n)
def m_X3_isUnder (x0 : Int32) (x1 : Int32) (M : Mm) : Option (Int32 × Mm) := lt1 x0 fun y3 => lt1 ((0 : Int32)) fun y4 => m_X3_isUnder_L4 FU x1 y3 y4 M
set_option maxRecDepth 100000 in
set_option maxHeartbeats 4000000 in
theorem v_X3_isUnder_B4 {X : Cx} {G : Gx} {sh : List Sh} (hF : FX X G sh 4 cX3_isUnder (yX3_isUnder).cls (some .boolean) rmX3_isUnder) (n4 : Int32 → Int32 → Int32 → Mm → Option (Int32 × Mm)) (h4 : ∀ (x1 : Int32) (x2 : Int32) (x3 : Int32) (M : Mm), VR X G sh 4 rvI M 4 [(1, .int x1), (2, .int x2), (3, .int x3)] [] (n4 x1 x2 x3 M)) : ∀ (x1 : Int32) (x2 : Int32) (x3 : Int32) (M : Mm), VR X G sh 4 rvI M 4 [(1, .int x1), (2, .int x2), (3, .int x3)] [] (m_X3_isUnder_B4  n4 x1 x2 x3 M) := by
  intro x1 x2 x3 M
  unfold m_X3_isUnder_B4
  refine v_iload_n 2 5 hF dX3_isUnder_4 rfl rfl rfl ?_
  refine v_bipush (6) 7 hF dX3_isUnder_5 rfl (by decide) ?_
  refine v_icmp_ge 10 41 hF dX3_isUnder_7 rfl (by decide) (fun _ => ?_) (fun _ => ?_)
  · refine v_iconst (0) 42 hF dX3_isUnder_41 rfl (by decide) ?_
    exact v_zret0 hF dX3_isUnder_42 rfl
  · refine v_iload_n 1 11 hF dX3_isUnder_10 rfl rfl rfl ?_
    refine v_if_lt 14 41 hF dX3_isUnder_11 rfl (by decide) (fun _ => ?_) (fun _ => ?_)
    · refine v_iconst (0) 42 hF dX3_isUnder_41 rfl (by decide) ?_
      exact v_zret0 hF dX3_isUnder_42 rfl
    · refine v_iload_n 1 15 hF dX3_isUnder_14 rfl rfl rfl ?_
      refine v_abv 18 hF dX3_isUnder_15 rfl ls_X3_152 ?_
      refine v_abvlen 19 hF dX3_isUnder_18 rfl ?_
      refine v_icmp_ge 22 41 hF dX3_isUnder_19 rfl (by decide) (fun _ => ?_) (fun _ => ?_)
      · refine v_iconst (0) 42 hF dX3_isUnder_41 rfl (by decide) ?_
        exact v_zret0 hF dX3_isUnder_42 rfl
      · refine v_iload_n 1 23 hF dX3_isUnder_22 rfl rfl rfl ?_
        refine v_iload_n 0 24 hF dX3_isUnder_23 rfl rfl rfl ?_
        refine v_icmp_ne 27 29 hF dX3_isUnder_24 rfl (by decide) (fun _ => ?_) (fun _ => ?_)
        · refine v_abv 32 hF dX3_isUnder_29 rfl ls_X3_152 ?_
          refine v_iload_n 1 33 hF dX3_isUnder_32 rfl rfl rfl ?_
          refine v_abvld 34 hF dX3_isUnder_33 rfl ?_
          refine v_istore_n (lo' := fun y1 => [(2, .int y1), (1, .int x1), (3, .int x3)]) 35 hF dX3_isUnder_34 rfl rfl (by decide) (fun _ => rfl) (fun y1 => ?_)
          refine v_iinc (v := (x3 + 1)) (lo' := fun y2 => [(3, .int y2), (2, .int y1), (1, .int x1)]) 2 38 hF dX3_isUnder_35 rfl rfl rfl (by decide) (fun _ => rfl) (fun y2 => ?_)
          refine v_goto 4 hF dX3_isUnder_38 (by decide) ?_
          refine VR.pick [2, 1, 0] rfl ?_
          exact h4 x1 y1 y2 M
        · refine v_iconst (1) 28 hF dX3_isUnder_27 rfl (by decide) ?_
          exact v_zret0 hF dX3_isUnder_28 rfl
theorem v_X3_isUnder_L4 {X : Cx} {G : Gx} {sh : List Sh} (hF : FX X G sh 4 cX3_isUnder (yX3_isUnder).cls (some .boolean) rmX3_isUnder) : ∀ (n : Nat), ∀ (x1 : Int32) (x2 : Int32) (x3 : Int32) (M : Mm), VR X G sh 4 rvI M 4 [(1, .int x1), (2, .int x2), (3, .int x3)] [] (m_X3_isUnder_L4  n x1 x2 x3 M) := by
  intro n
  induction n with
  | zero => intro x1 x2 x3 M; exact VR.none
  | succ n ih => exact v_X3_isUnder_B4 hF  _ ih
set_option maxRecDepth 100000 in
set_option maxHeartbeats 4000000 in
theorem c_X3_isUnder {G : Gx} {sh : List Sh} (M : Mm) (x0 : Int32) (x1 : Int32) : CT yX3_isUnder cX3_isUnder 4 (some .boolean) rmX3_isUnder G sh [.int x0, .int x1] rvI M (m_X3_isUnder  x0 x1 M) := by
  refine CT.of (by decide +kernel) (Nat.le_of_ble_eq_true rfl) (fun X hF => ?_)
  show VR X G sh 4 rvI M 0 [(0, .int x0), (1, .int x1)] [] _
  unfold m_X3_isUnder
  refine v_iload_n 0 1 hF dX3_isUnder_0 rfl rfl rfl ?_
  refine v_istore_n (lo' := fun y3 => [(2, .int y3), (0, .int x0), (1, .int x1)]) 2 hF dX3_isUnder_1 rfl rfl (by decide) (fun _ => rfl) (fun y3 => ?_)
  refine v_iconst (0) 3 hF dX3_isUnder_2 rfl (by decide) ?_
  refine v_istore_n (lo' := fun y4 => [(3, .int y4), (2, .int y3), (0, .int x0), (1, .int x1)]) 4 hF dX3_isUnder_3 rfl rfl (by decide) (fun _ => rfl) (fun y4 => ?_)
  refine VR.pick [3, 1, 0] rfl ?_
  exact v_X3_isUnder_L4 hF FU x1 y3 y4 M
abbrev rmX4_greatest : Room := { frames := 0, cells := 0, slots := 0, locals := 0 }
def m_X4_greatest (x0 : Int32) (M : Mm) : Option (Int32 × Mm) := if x0 = (0) then (some ((999 : Int32), M)) else (if x0 = (1) then (some ((7 : Int32), M)) else (if x0 = (2) then (some ((9 : Int32), M)) else (some ((99 : Int32), M))))
set_option maxRecDepth 100000 in
set_option maxHeartbeats 4000000 in
theorem c_X4_greatest {G : Gx} {sh : List Sh} (M : Mm) (x0 : Int32) : CT yX4_greatest cX4_greatest 1 (some .int) rmX4_greatest G sh [.int x0] rvI M (m_X4_greatest  x0 M) := by
  refine CT.of (by decide +kernel) (Nat.le_of_ble_eq_true rfl) (fun X hF => ?_)
  show VR X G sh 1 rvI M 0 [(0, .int x0)] [] _
  unfold m_X4_greatest
  refine v_iload_n 0 1 hF dX4_greatest_0 rfl rfl rfl ?_
  refine v_ite (fun e1 => ?_) (fun n0 => ?_)
  · refine v_tsIn (0) (27) 28 hF dX4_greatest_1 e1 (by decide) rfl (by decide) ?_
    refine v_sipush (999) 31 hF dX4_greatest_28 rfl (by decide) ?_
    exact v_iret hF dX4_greatest_31
  · refine v_ite (fun e1 => ?_) (fun n1 => ?_)
    · refine v_tsIn (1) (31) 32 hF dX4_greatest_1 e1 (by decide) rfl (by decide) ?_
      refine v_bipush (7) 34 hF dX4_greatest_32 rfl (by decide) ?_
      exact v_iret hF dX4_greatest_34
    · refine v_ite (fun e1 => ?_) (fun n2 => ?_)
      · refine v_tsIn (2) (34) 35 hF dX4_greatest_1 e1 (by decide) rfl (by decide) ?_
        refine v_bipush (9) 37 hF dX4_greatest_35 rfl (by decide) ?_
        exact v_iret hF dX4_greatest_37
      · refine v_tsOut 38 hF dX4_greatest_1 (by have a0 := lv_neT n0 (a := (0)) (by decide); have a1 := lv_neT n1 (a := (1)) (by decide); have a2 := lv_neT n2 (a := (2)) (by decide); omega) (by decide) ?_
        refine v_bipush (99) 40 hF dX4_greatest_38 rfl (by decide) ?_
        exact v_iret hF dX4_greatest_40
abbrev rmX4_toldOfLetter : Room := { frames := 2, cells := 0, slots := 0, locals := 42 }
def m_X4_toldOfLetter (x1 : Int32) (x2 : Int32) (M : Mm) : Option (Int32 × Mm) := if x2 = (3) then (bd (m_X3_toneOf 7 x1 M) fun r2 M1 => some (r2, M1)) else (if x2 = (4) then (some ((-1000 : Int32), M)) else (if x2 = (5) then (some ((-1000 : Int32), M)) else (if x2 = (6) then (some ((-1000 : Int32), M)) else (if x2 = (7) then (bd (m_X3_fromWhom 7 x1 M) fun r4 M3 => some (r4, M3)) else (if x2 = (8) then (bd (m_X3_toWhom 7 x1 M) fun r6 M5 => some (r6, M5)) else (if x2 = (9) then (bd (m_X3_whereIs 7 x1 M) fun r8 M7 => some (r8, M7)) else (if x2 = (10) then (bd (m_X3_readBy 7 x1 M) fun r10 M9 => some (r10, M9)) else (some ((-1000 : Int32), M)))))))))
set_option maxRecDepth 100000 in
set_option maxHeartbeats 4000000 in
theorem c_X4_toldOfLetter {G : Gx} {sh : List Sh} (hs : TopAt sh) (M : Mm) (x1 : Int32) (x2 : Int32) : CT yX4_toldOfLetter cX4_toldOfLetter 3 (some .int) rmX4_toldOfLetter G sh [.ref (G.2.2.2.2 0), .int x1, .int x2] rvI M (m_X4_toldOfLetter  x1 x2 M) := by
  refine CT.of (by decide +kernel) (Nat.le_of_ble_eq_true rfl) (fun X hF => ?_)
  show VR X G sh 3 rvI M 0 [(0, .ref (G.2.2.2.2 0)), (1, .int x1), (2, .int x2)] [] _
  unfold m_X4_toldOfLetter
  refine v_iload_n 2 1 hF dX4_toldOfLetter_0 rfl rfl rfl ?_
  refine v_ite (fun e1 => ?_) (fun n0 => ?_)
  · refine v_tsIn (3) (47) 48 hF dX4_toldOfLetter_1 e1 (by decide) rfl (by decide) ?_
    refine v_aload_n 0 49 hF dX4_toldOfLetter_48 rfl rfl rfl ?_
    refine v_getR (b := 7) 52 hF dX4_toldOfLetter_49 rfl fl_X4_38 hs.1 rfl ?_
    refine v_iload_n 1 53 hF dX4_toldOfLetter_52 rfl rfl rfl ?_
    refine v_callI ([.int x1]) ([]) 56 hF dX4_toldOfLetter_53 rfl cw_X4_129 rfl (hs.2.2.2.1.1) (c_X3_toneOf (G := G) (hs.2.1) (hs.2.2.2.1) M x1) ⟨rfl, rfl, Nat.le_of_ble_eq_true rfl, Nat.le_of_ble_eq_true rfl⟩ rfl rfl (Nat.le_of_ble_eq_true rfl) (fun r2 M1 => ?_)
    exact v_iret hF dX4_toldOfLetter_56
  · refine v_ite (fun e1 => ?_) (fun n1 => ?_)
    · refine v_tsIn (4) (92) 93 hF dX4_toldOfLetter_1 e1 (by decide) rfl (by decide) ?_
      refine v_sipush (-1000) 96 hF dX4_toldOfLetter_93 rfl (by decide) ?_
      exact v_iret hF dX4_toldOfLetter_96
    · refine v_ite (fun e1 => ?_) (fun n2 => ?_)
      · refine v_tsIn (5) (92) 93 hF dX4_toldOfLetter_1 e1 (by decide) rfl (by decide) ?_
        refine v_sipush (-1000) 96 hF dX4_toldOfLetter_93 rfl (by decide) ?_
        exact v_iret hF dX4_toldOfLetter_96
      · refine v_ite (fun e1 => ?_) (fun n3 => ?_)
        · refine v_tsIn (6) (92) 93 hF dX4_toldOfLetter_1 e1 (by decide) rfl (by decide) ?_
          refine v_sipush (-1000) 96 hF dX4_toldOfLetter_93 rfl (by decide) ?_
          exact v_iret hF dX4_toldOfLetter_96
        · refine v_ite (fun e1 => ?_) (fun n4 => ?_)
          · refine v_tsIn (7) (56) 57 hF dX4_toldOfLetter_1 e1 (by decide) rfl (by decide) ?_
            refine v_aload_n 0 58 hF dX4_toldOfLetter_57 rfl rfl rfl ?_
            refine v_getR (b := 7) 61 hF dX4_toldOfLetter_58 rfl fl_X4_38 hs.1 rfl ?_
            refine v_iload_n 1 62 hF dX4_toldOfLetter_61 rfl rfl rfl ?_
            refine v_callI ([.int x1]) ([]) 65 hF dX4_toldOfLetter_62 rfl cw_X4_132 rfl (hs.2.2.2.1.1) (c_X3_fromWhom (G := G) (hs.2.1) (hs.2.2.2.1) M x1) ⟨rfl, rfl, Nat.le_of_ble_eq_true rfl, Nat.le_of_ble_eq_true rfl⟩ rfl rfl (Nat.le_of_ble_eq_true rfl) (fun r4 M3 => ?_)
            exact v_iret hF dX4_toldOfLetter_65
          · refine v_ite (fun e1 => ?_) (fun n5 => ?_)
            · refine v_tsIn (8) (65) 66 hF dX4_toldOfLetter_1 e1 (by decide) rfl (by decide) ?_
              refine v_aload_n 0 67 hF dX4_toldOfLetter_66 rfl rfl rfl ?_
              refine v_getR (b := 7) 70 hF dX4_toldOfLetter_67 rfl fl_X4_38 hs.1 rfl ?_
              refine v_iload_n 1 71 hF dX4_toldOfLetter_70 rfl rfl rfl ?_
              refine v_callI ([.int x1]) ([]) 74 hF dX4_toldOfLetter_71 rfl cw_X4_135 rfl (hs.2.2.2.1.1) (c_X3_toWhom (G := G) (hs.2.1) (hs.2.2.2.1) M x1) ⟨rfl, rfl, Nat.le_of_ble_eq_true rfl, Nat.le_of_ble_eq_true rfl⟩ rfl rfl (Nat.le_of_ble_eq_true rfl) (fun r6 M5 => ?_)
              exact v_iret hF dX4_toldOfLetter_74
            · refine v_ite (fun e1 => ?_) (fun n6 => ?_)
              · refine v_tsIn (9) (74) 75 hF dX4_toldOfLetter_1 e1 (by decide) rfl (by decide) ?_
                refine v_aload_n 0 76 hF dX4_toldOfLetter_75 rfl rfl rfl ?_
                refine v_getR (b := 7) 79 hF dX4_toldOfLetter_76 rfl fl_X4_38 hs.1 rfl ?_
                refine v_iload_n 1 80 hF dX4_toldOfLetter_79 rfl rfl rfl ?_
                refine v_callI ([.int x1]) ([]) 83 hF dX4_toldOfLetter_80 rfl cw_X4_138 rfl (hs.2.2.2.1.1) (c_X3_whereIs (G := G) (hs.2.1) (hs.2.2.2.1) M x1) ⟨rfl, rfl, Nat.le_of_ble_eq_true rfl, Nat.le_of_ble_eq_true rfl⟩ rfl rfl (Nat.le_of_ble_eq_true rfl) (fun r8 M7 => ?_)
                exact v_iret hF dX4_toldOfLetter_83
              · refine v_ite (fun e1 => ?_) (fun n7 => ?_)
                · refine v_tsIn (10) (83) 84 hF dX4_toldOfLetter_1 e1 (by decide) rfl (by decide) ?_
                  refine v_aload_n 0 85 hF dX4_toldOfLetter_84 rfl rfl rfl ?_
                  refine v_getR (b := 7) 88 hF dX4_toldOfLetter_85 rfl fl_X4_38 hs.1 rfl ?_
                  refine v_iload_n 1 89 hF dX4_toldOfLetter_88 rfl rfl rfl ?_
                  refine v_callI ([.int x1]) ([]) 92 hF dX4_toldOfLetter_89 rfl cw_X4_141 rfl (hs.2.2.2.1.1) (c_X3_readBy (G := G) (hs.2.1) (hs.2.2.2.1) M x1) ⟨rfl, rfl, Nat.le_of_ble_eq_true rfl, Nat.le_of_ble_eq_true rfl⟩ rfl rfl (Nat.le_of_ble_eq_true rfl) (fun r10 M9 => ?_)
                  exact v_iret hF dX4_toldOfLetter_92
                · refine v_tsOut 93 hF dX4_toldOfLetter_1 (by have a0 := lv_neT n0 (a := (3)) (by decide); have a1 := lv_neT n1 (a := (4)) (by decide); have a2 := lv_neT n2 (a := (5)) (by decide); have a3 := lv_neT n3 (a := (6)) (by decide); have a4 := lv_neT n4 (a := (7)) (by decide); have a5 := lv_neT n5 (a := (8)) (by decide); have a6 := lv_neT n6 (a := (9)) (by decide); have a7 := lv_neT n7 (a := (10)) (by decide); omega) (by decide) ?_
                  refine v_sipush (-1000) 96 hF dX4_toldOfLetter_93 rfl (by decide) ?_
                  exact v_iret hF dX4_toldOfLetter_96
abbrev rmX4_toldOfOne : Room := { frames := 2, cells := 0, slots := 0, locals := 42 }
def m_X4_toldOfOne (x1 : Int32) (x2 : Int32) (M : Mm) : Option (Int32 × Mm) := if x2 = (2) then (bd (m_X3_numberOf 7 x1 M) fun r2 M1 => some (r2, M1)) else (if x2 = (3) then (some ((-1000 : Int32), M)) else (if x2 = (4) then (bd (m_X3_kindOf 7 x1 M) fun r4 M3 => some (r4, M3)) else (if x2 = (5) then (bd (m_X3_houseOf 7 x1 M) fun r6 M5 => some (r6, M5)) else (if x2 = (6) then (bd (m_X3_known 7 x1 M) fun r8 M7 => some (r8, M7)) else (some ((-1000 : Int32), M))))))
set_option maxRecDepth 100000 in
set_option maxHeartbeats 4000000 in
theorem c_X4_toldOfOne {G : Gx} {sh : List Sh} (hs : TopAt sh) (M : Mm) (x1 : Int32) (x2 : Int32) : CT yX4_toldOfOne cX4_toldOfOne 3 (some .int) rmX4_toldOfOne G sh [.ref (G.2.2.2.2 0), .int x1, .int x2] rvI M (m_X4_toldOfOne  x1 x2 M) := by
  refine CT.of (by decide +kernel) (Nat.le_of_ble_eq_true rfl) (fun X hF => ?_)
  show VR X G sh 3 rvI M 0 [(0, .ref (G.2.2.2.2 0)), (1, .int x1), (2, .int x2)] [] _
  unfold m_X4_toldOfOne
  refine v_iload_n 2 1 hF dX4_toldOfOne_0 rfl rfl rfl ?_
  refine v_ite (fun e1 => ?_) (fun n0 => ?_)
  · refine v_tsIn (2) (35) 36 hF dX4_toldOfOne_1 e1 (by decide) rfl (by decide) ?_
    refine v_aload_n 0 37 hF dX4_toldOfOne_36 rfl rfl rfl ?_
    refine v_getR (b := 7) 40 hF dX4_toldOfOne_37 rfl fl_X4_38 hs.1 rfl ?_
    refine v_iload_n 1 41 hF dX4_toldOfOne_40 rfl rfl rfl ?_
    refine v_callI ([.int x1]) ([]) 44 hF dX4_toldOfOne_41 rfl cw_X4_120 rfl (hs.2.2.2.1.1) (c_X3_numberOf (G := G) (hs.2.1) (hs.2.2.2.1) M x1) ⟨rfl, rfl, Nat.le_of_ble_eq_true rfl, Nat.le_of_ble_eq_true rfl⟩ rfl rfl (Nat.le_of_ble_eq_true rfl) (fun r2 M1 => ?_)
    exact v_iret hF dX4_toldOfOne_44
  · refine v_ite (fun e1 => ?_) (fun n1 => ?_)
    · refine v_tsIn (3) (71) 72 hF dX4_toldOfOne_1 e1 (by decide) rfl (by decide) ?_
      refine v_sipush (-1000) 75 hF dX4_toldOfOne_72 rfl (by decide) ?_
      exact v_iret hF dX4_toldOfOne_75
    · refine v_ite (fun e1 => ?_) (fun n2 => ?_)
      · refine v_tsIn (4) (44) 45 hF dX4_toldOfOne_1 e1 (by decide) rfl (by decide) ?_
        refine v_aload_n 0 46 hF dX4_toldOfOne_45 rfl rfl rfl ?_
        refine v_getR (b := 7) 49 hF dX4_toldOfOne_46 rfl fl_X4_38 hs.1 rfl ?_
        refine v_iload_n 1 50 hF dX4_toldOfOne_49 rfl rfl rfl ?_
        refine v_callI ([.int x1]) ([]) 53 hF dX4_toldOfOne_50 rfl cw_X4_123 rfl (hs.2.2.2.1.1) (c_X3_kindOf (G := G) (hs.2.1) (hs.2.2.2.1) M x1) ⟨rfl, rfl, Nat.le_of_ble_eq_true rfl, Nat.le_of_ble_eq_true rfl⟩ rfl rfl (Nat.le_of_ble_eq_true rfl) (fun r4 M3 => ?_)
        exact v_iret hF dX4_toldOfOne_53
      · refine v_ite (fun e1 => ?_) (fun n3 => ?_)
        · refine v_tsIn (5) (53) 54 hF dX4_toldOfOne_1 e1 (by decide) rfl (by decide) ?_
          refine v_aload_n 0 55 hF dX4_toldOfOne_54 rfl rfl rfl ?_
          refine v_getR (b := 7) 58 hF dX4_toldOfOne_55 rfl fl_X4_38 hs.1 rfl ?_
          refine v_iload_n 1 59 hF dX4_toldOfOne_58 rfl rfl rfl ?_
          refine v_callI ([.int x1]) ([]) 62 hF dX4_toldOfOne_59 rfl cw_X4_92 rfl (hs.2.2.2.1.1) (c_X3_houseOf (G := G) (hs.2.1) (hs.2.2.2.1) M x1) ⟨rfl, rfl, Nat.le_of_ble_eq_true rfl, Nat.le_of_ble_eq_true rfl⟩ rfl rfl (Nat.le_of_ble_eq_true rfl) (fun r6 M5 => ?_)
          exact v_iret hF dX4_toldOfOne_62
        · refine v_ite (fun e1 => ?_) (fun n4 => ?_)
          · refine v_tsIn (6) (62) 63 hF dX4_toldOfOne_1 e1 (by decide) rfl (by decide) ?_
            refine v_aload_n 0 64 hF dX4_toldOfOne_63 rfl rfl rfl ?_
            refine v_getR (b := 7) 67 hF dX4_toldOfOne_64 rfl fl_X4_38 hs.1 rfl ?_
            refine v_iload_n 1 68 hF dX4_toldOfOne_67 rfl rfl rfl ?_
            refine v_callI ([.int x1]) ([]) 71 hF dX4_toldOfOne_68 rfl cw_X4_126 rfl (hs.2.2.2.1.1) (c_X3_known (G := G) (hs.2.1) (hs.2.2.2.1) M x1) ⟨rfl, rfl, Nat.le_of_ble_eq_true rfl, Nat.le_of_ble_eq_true rfl⟩ rfl rfl (Nat.le_of_ble_eq_true rfl) (fun r8 M7 => ?_)
            exact v_iret hF dX4_toldOfOne_71
          · refine v_tsOut 72 hF dX4_toldOfOne_1 (by have a0 := lv_neT n0 (a := (2)) (by decide); have a1 := lv_neT n1 (a := (3)) (by decide); have a2 := lv_neT n2 (a := (4)) (by decide); have a3 := lv_neT n3 (a := (5)) (by decide); have a4 := lv_neT n4 (a := (6)) (by decide); omega) (by decide) ?_
            refine v_sipush (-1000) 75 hF dX4_toldOfOne_72 rfl (by decide) ?_
            exact v_iret hF dX4_toldOfOne_75
abbrev rmX4_told : Room := { frames := 3, cells := 0, slots := 0, locals := 64 }
def m_X4_told_J36 (x1 : Int32) (x2 : Int32) (M : Mm) : Option (Int32 × Mm) := bd (m_X3_isLetter 7 x1 M) fun r2 M1 => if r2 = 0 then (some ((-1000 : Int32), M1)) else (bd (m_X4_toldOfLetter x1 x2 M1) fun r4 M3 => some (r4, M3))
def m_X4_told (x1 : Int32) (x2 : Int32) (M : Mm) : Option (Int32 × Mm) := if x2 = 0 then (some ((M 7 1), M)) else (if x2 = (1 : Int32) then (some ((M 7 2), M)) else (if x2 = (3 : Int32) then (m_X4_told_J36 x1 x2 M) else (if x2 < (7 : Int32) then (bd (m_X3_isOne 7 x1 M) fun r6 M5 => if r6 = 0 then (some ((-1000 : Int32), M5)) else (bd (m_X4_toldOfOne x1 x2 M5) fun r8 M7 => some (r8, M7))) else (m_X4_told_J36 x1 x2 M))))
set_option maxRecDepth 100000 in
set_option maxHeartbeats 4000000 in
theorem v_X4_told_J36 {X : Cx} {G : Gx} {sh : List Sh} (hF : FX X G sh 3 cX4_told (yX4_told).cls (some .int) rmX4_told) (hs : TopAt sh) : ∀ (x1 : Int32) (x2 : Int32) (M : Mm), VR X G sh 3 rvI M 36 [(0, .ref (G.2.2.2.2 0)), (1, .int x1), (2, .int x2)] [] (m_X4_told_J36  x1 x2 M) := by
  intro x1 x2 M
  unfold m_X4_told_J36
  refine v_aload_n 0 37 hF dX4_told_36 rfl rfl rfl ?_
  refine v_getR (b := 7) 40 hF dX4_told_37 rfl fl_X4_38 hs.1 rfl ?_
  refine v_iload_n 1 41 hF dX4_told_40 rfl rfl rfl ?_
  refine v_callI ([.int x1]) ([]) 44 hF dX4_told_41 rfl cw_X4_98 rfl (hs.2.2.2.1.1) (c_X3_isLetter (G := G) (hs.2.1) (hs.2.2.2.1) M x1) ⟨rfl, rfl, Nat.le_of_ble_eq_true rfl, Nat.le_of_ble_eq_true rfl⟩ rfl rfl (Nat.le_of_ble_eq_true rfl) (fun r2 M1 => ?_)
  refine v_if_eq 47 56 hF dX4_told_44 rfl (by decide) (fun _ => ?_) (fun _ => ?_)
  · refine v_sipush (-1000) 59 hF dX4_told_56 rfl (by decide) ?_
    exact v_iret hF dX4_told_59
  · refine v_aload_n 0 48 hF dX4_told_47 rfl rfl rfl ?_
    refine v_iload_n 1 49 hF dX4_told_48 rfl rfl rfl ?_
    refine v_iload_n 2 50 hF dX4_told_49 rfl rfl rfl ?_
    refine v_callI ([.int x1, .int x2]) ([]) 53 hF dX4_told_50 rfl cw_X4_102 rfl (hs.1) (c_X4_toldOfLetter (G := G) hs M1 x1 x2) ⟨rfl, rfl, Nat.le_of_ble_eq_true rfl, Nat.le_of_ble_eq_true rfl⟩ rfl rfl (Nat.le_of_ble_eq_true rfl) (fun r4 M3 => ?_)
    refine v_goto 59 hF dX4_told_53 (by decide) ?_
    exact v_iret hF dX4_told_59
set_option maxRecDepth 100000 in
set_option maxHeartbeats 4000000 in
theorem c_X4_told {G : Gx} {sh : List Sh} (hs : TopAt sh) (M : Mm) (x1 : Int32) (x2 : Int32) : CT yX4_told cX4_told 3 (some .int) rmX4_told G sh [.ref (G.2.2.2.2 0), .int x1, .int x2] rvI M (m_X4_told  x1 x2 M) := by
  refine CT.of (by decide +kernel) (Nat.le_of_ble_eq_true rfl) (fun X hF => ?_)
  show VR X G sh 3 rvI M 0 [(0, .ref (G.2.2.2.2 0)), (1, .int x1), (2, .int x2)] [] _
  unfold m_X4_told
  refine v_iload_n 2 1 hF dX4_told_0 rfl rfl rfl ?_
  refine v_if_ne 4 12 hF dX4_told_1 rfl (by decide) (fun _ => ?_) (fun _ => ?_)
  · refine v_iload_n 2 13 hF dX4_told_12 rfl rfl rfl ?_
    refine v_iconst (1) 14 hF dX4_told_13 rfl (by decide) ?_
    refine v_icmp_ne 17 25 hF dX4_told_14 rfl (by decide) (fun _ => ?_) (fun _ => ?_)
    · refine v_iload_n 2 26 hF dX4_told_25 rfl rfl rfl ?_
      refine v_iconst (3) 27 hF dX4_told_26 rfl (by decide) ?_
      refine v_icmp_eq 30 36 hF dX4_told_27 rfl (by decide) (fun _ => ?_) (fun _ => ?_)
      · refine VR.pick [0, 1, 2] rfl ?_
        exact v_X4_told_J36 hF hs x1 x2 M
      · refine v_iload_n 2 31 hF dX4_told_30 rfl rfl rfl ?_
        refine v_bipush (7) 33 hF dX4_told_31 rfl (by decide) ?_
        refine v_icmp_lt 36 60 hF dX4_told_33 rfl (by decide) (fun _ => ?_) (fun _ => ?_)
        · refine v_aload_n 0 61 hF dX4_told_60 rfl rfl rfl ?_
          refine v_getR (b := 7) 64 hF dX4_told_61 rfl fl_X4_38 hs.1 rfl ?_
          refine v_iload_n 1 65 hF dX4_told_64 rfl rfl rfl ?_
          refine v_callI ([.int x1]) ([]) 68 hF dX4_told_65 rfl cw_X4_105 rfl (hs.2.2.2.1.1) (c_X3_isOne (G := G) (hs.2.1) (hs.2.2.2.1) M x1) ⟨rfl, rfl, Nat.le_of_ble_eq_true rfl, Nat.le_of_ble_eq_true rfl⟩ rfl rfl (Nat.le_of_ble_eq_true rfl) (fun r6 M5 => ?_)
          refine v_if_eq 71 80 hF dX4_told_68 rfl (by decide) (fun _ => ?_) (fun _ => ?_)
          · refine v_sipush (-1000) 83 hF dX4_told_80 rfl (by decide) ?_
            exact v_iret hF dX4_told_83
          · refine v_aload_n 0 72 hF dX4_told_71 rfl rfl rfl ?_
            refine v_iload_n 1 73 hF dX4_told_72 rfl rfl rfl ?_
            refine v_iload_n 2 74 hF dX4_told_73 rfl rfl rfl ?_
            refine v_callI ([.int x1, .int x2]) ([]) 77 hF dX4_told_74 rfl cw_X4_108 rfl (hs.1) (c_X4_toldOfOne (G := G) hs M5 x1 x2) ⟨rfl, rfl, Nat.le_of_ble_eq_true rfl, Nat.le_of_ble_eq_true rfl⟩ rfl rfl (Nat.le_of_ble_eq_true rfl) (fun r8 M7 => ?_)
            refine v_goto 83 hF dX4_told_77 (by decide) ?_
            exact v_iret hF dX4_told_83
        · refine VR.pick [0, 1, 2] rfl ?_
          exact v_X4_told_J36 hF hs x1 x2 M
    · refine v_aload_n 0 18 hF dX4_told_17 rfl rfl rfl ?_
      refine v_getR (b := 7) 21 hF dX4_told_18 rfl fl_X4_38 hs.1 rfl ?_
      refine v_getI 24 hF dX4_told_21 rfl fl_X4_71 hs.2.2.2.1.1 rfl ?_
      exact v_iret hF dX4_told_24
  · refine v_aload_n 0 5 hF dX4_told_4 rfl rfl rfl ?_
    refine v_getR (b := 7) 8 hF dX4_told_5 rfl fl_X4_38 hs.1 rfl ?_
    refine v_getI 11 hF dX4_told_8 rfl fl_X4_67 hs.2.2.2.1.1 rfl ?_
    exact v_iret hF dX4_told_11
abbrev rmX4_set : Room := { frames := 4, cells := 0, slots := 0, locals := 86 }
def m_X4_set (x1 : Int32) (x2 : Int32) (x3 : Int32) (M : Mm) : Option (Int32 × Mm) := bd (m_X4_told x2 x1 M) fun r2 M1 => lt1 r2 fun y3 => if x1 < 0 then (some ((-2 : Int32), M1)) else (if (3 : Int32) < x1 then (some ((-2 : Int32), M1)) else (if y3 = (-1000 : Int32) then (some ((-2 : Int32), M1)) else (if x3 < 0 then (some ((-2 : Int32), M1)) else (bd (m_X4_greatest x1 M1) fun r5 M4 => if x3 ≤ r5 then (if x1 = (0) then (lt1 (up M4 7 1 x3) fun M6 => some (y3, M6)) else (if x1 = (1) then (lt1 (up M4 7 2 x3) fun M7 => some (y3, M7)) else (if x1 = (2) then (bd (m_X3_changeNumber 7 x2 x3 M4) fun _ M8 => some (y3, M8)) else (bd (m_X3_changeTone 7 x2 x3 M4) fun _ M9 => some (y3, M9))))) else (some ((-2 : Int32), M4))))))
set_option maxRecDepth 100000 in
set_option maxHeartbeats 4000000 in
theorem c_X4_set {G : Gx} {sh : List Sh} (hs : TopAt sh) (M : Mm) (x1 : Int32) (x2 : Int32) (x3 : Int32) : CT yX4_set cX4_set 5 (some .int) rmX4_set G sh [.ref (G.2.2.2.2 0), .int x1, .int x2, .int x3] rvI M (m_X4_set  x1 x2 x3 M) := by
  refine CT.of (by decide +kernel) (Nat.le_of_ble_eq_true rfl) (fun X hF => ?_)
  show VR X G sh 5 rvI M 0 [(0, .ref (G.2.2.2.2 0)), (1, .int x1), (2, .int x2), (3, .int x3)] [] _
  unfold m_X4_set
  refine v_aload_n 0 1 hF dX4_set_0 rfl rfl rfl ?_
  refine v_iload_n 2 2 hF dX4_set_1 rfl rfl rfl ?_
  refine v_iload_n 1 3 hF dX4_set_2 rfl rfl rfl ?_
  refine v_callI ([.int x2, .int x1]) ([]) 6 hF dX4_set_3 rfl cw_X4_59 rfl (hs.1) (c_X4_told (G := G) hs M x2 x1) ⟨rfl, rfl, Nat.le_of_ble_eq_true rfl, Nat.le_of_ble_eq_true rfl⟩ rfl rfl (Nat.le_of_ble_eq_true rfl) (fun r2 M1 => ?_)
  refine v_istore (lo' := fun y3 => [(4, .int y3), (0, .ref (G.2.2.2.2 0)), (1, .int x1), (2, .int x2), (3, .int x3)]) 8 hF dX4_set_6 rfl (by decide) (fun _ => rfl) (fun y3 => ?_)
  refine v_iload_n 2 9 hF dX4_set_8 rfl rfl rfl ?_
  refine v_if_lt 12 37 hF dX4_set_9 rfl (by decide) (fun _ => ?_) (fun _ => ?_)
  · refine v_bipush (-2) 39 hF dX4_set_37 rfl (by decide) ?_
    exact v_iret hF dX4_set_39
  · refine v_iload_n 2 13 hF dX4_set_12 rfl rfl rfl ?_
    refine v_iconst (3) 14 hF dX4_set_13 rfl (by decide) ?_
    refine v_icmp_gt 17 37 hF dX4_set_14 rfl (by decide) (fun _ => ?_) (fun _ => ?_)
    · refine v_bipush (-2) 39 hF dX4_set_37 rfl (by decide) ?_
      exact v_iret hF dX4_set_39
    · refine v_iload 0 19 hF dX4_set_17 rfl rfl ?_
      refine v_sipush (-1000) 22 hF dX4_set_19 rfl (by decide) ?_
      refine v_icmp_eq 25 37 hF dX4_set_22 rfl (by decide) (fun _ => ?_) (fun _ => ?_)
      · refine v_bipush (-2) 39 hF dX4_set_37 rfl (by decide) ?_
        exact v_iret hF dX4_set_39
      · refine v_iload_n 4 26 hF dX4_set_25 rfl rfl rfl ?_
        refine v_if_lt 29 37 hF dX4_set_26 rfl (by decide) (fun _ => ?_) (fun _ => ?_)
        · refine v_bipush (-2) 39 hF dX4_set_37 rfl (by decide) ?_
          exact v_iret hF dX4_set_39
        · refine v_iload_n 4 30 hF dX4_set_29 rfl rfl rfl ?_
          refine v_iload_n 2 31 hF dX4_set_30 rfl rfl rfl ?_
          refine v_staI ([.int x1]) ([.int x3]) 34 hF dX4_set_31 rfl cw_X4_63 (c_X4_greatest (G := G) (sh := sh) M1 x1) ⟨rfl, rfl, Nat.le_of_ble_eq_true rfl, Nat.le_of_ble_eq_true rfl⟩ rfl rfl (Nat.le_of_ble_eq_true rfl) (fun r5 M4 => ?_)
          refine v_icmp_le 37 40 hF dX4_set_34 rfl (by decide) (fun _ => ?_) (fun _ => ?_)
          · refine v_iload_n 2 41 hF dX4_set_40 rfl rfl rfl ?_
            refine v_ite (fun e1 => ?_) (fun n0 => ?_)
            · refine v_tsIn (0) (27) 68 hF dX4_set_41 e1 (by decide) rfl (by decide) ?_
              refine v_aload_n 1 69 hF dX4_set_68 rfl rfl rfl ?_
              refine v_getR (b := 7) 72 hF dX4_set_69 rfl fl_X4_38 hs.1 rfl ?_
              refine v_iload_n 4 73 hF dX4_set_72 rfl rfl rfl ?_
              refine v_putI 76 hF dX4_set_73 rfl fl_X4_67 fp_X3_1 hs.2.2.2.1.1 rfl (fun M6 => ?_)
              refine v_goto 111 hF dX4_set_76 (by decide) ?_
              refine v_iload 0 113 hF dX4_set_111 rfl rfl ?_
              exact v_iret hF dX4_set_113
            · refine v_ite (fun e1 => ?_) (fun n1 => ?_)
              · refine v_tsIn (1) (38) 79 hF dX4_set_41 e1 (by decide) rfl (by decide) ?_
                refine v_aload_n 1 80 hF dX4_set_79 rfl rfl rfl ?_
                refine v_getR (b := 7) 83 hF dX4_set_80 rfl fl_X4_38 hs.1 rfl ?_
                refine v_iload_n 4 84 hF dX4_set_83 rfl rfl rfl ?_
                refine v_putI 87 hF dX4_set_84 rfl fl_X4_71 fp_X3_2 hs.2.2.2.1.1 rfl (fun M7 => ?_)
                refine v_goto 111 hF dX4_set_87 (by decide) ?_
                refine v_iload 0 113 hF dX4_set_111 rfl rfl ?_
                exact v_iret hF dX4_set_113
              · refine v_ite (fun e1 => ?_) (fun n2 => ?_)
                · refine v_tsIn (2) (49) 90 hF dX4_set_41 e1 (by decide) rfl (by decide) ?_
                  refine v_aload_n 1 91 hF dX4_set_90 rfl rfl rfl ?_
                  refine v_getR (b := 7) 94 hF dX4_set_91 rfl fl_X4_38 hs.1 rfl ?_
                  refine v_iload_n 3 95 hF dX4_set_94 rfl rfl rfl ?_
                  refine v_iload_n 4 96 hF dX4_set_95 rfl rfl rfl ?_
                  refine v_callV ([.int x2, .int x3]) ([]) 99 hF dX4_set_96 rfl cw_X4_74 rfl (hs.2.2.2.1.1) (c_X3_changeNumber (G := G) (hs.2.1) (hs.2.2.2.1) M4 x2 x3) ⟨rfl, rfl, Nat.le_of_ble_eq_true rfl, Nat.le_of_ble_eq_true rfl⟩ rfl rfl (Nat.le_of_ble_eq_true rfl) (fun _ M8 => ?_)
                  refine v_goto 111 hF dX4_set_99 (by decide) ?_
                  refine v_iload 0 113 hF dX4_set_111 rfl rfl ?_
                  exact v_iret hF dX4_set_113
                · refine v_tsOut 102 hF dX4_set_41 (by have a0 := lv_neT n0 (a := (0)) (by decide); have a1 := lv_neT n1 (a := (1)) (by decide); have a2 := lv_neT n2 (a := (2)) (by decide); omega) (by decide) ?_
                  refine v_aload_n 1 103 hF dX4_set_102 rfl rfl rfl ?_
                  refine v_getR (b := 7) 106 hF dX4_set_103 rfl fl_X4_38 hs.1 rfl ?_
                  refine v_iload_n 3 107 hF dX4_set_106 rfl rfl rfl ?_
                  refine v_iload_n 4 108 hF dX4_set_107 rfl rfl rfl ?_
                  refine v_callV ([.int x2, .int x3]) ([]) 111 hF dX4_set_108 rfl cw_X4_78 rfl (hs.2.2.2.1.1) (c_X3_changeTone (G := G) (hs.2.1) (hs.2.2.2.1) M4 x2 x3) ⟨rfl, rfl, Nat.le_of_ble_eq_true rfl, Nat.le_of_ble_eq_true rfl⟩ rfl rfl (Nat.le_of_ble_eq_true rfl) (fun _ M9 => ?_)
                  refine v_iload 0 113 hF dX4_set_111 rfl rfl ?_
                  exact v_iret hF dX4_set_113
          · refine v_bipush (-2) 39 hF dX4_set_37 rfl (by decide) ?_
            exact v_iret hF dX4_set_39
abbrev rmX4_person : Room := { frames := 1, cells := 0, slots := 0, locals := 24 }
def m_X4_person (x1 : Int32) (x2 : Int32) (x3 : Int32) (M : Mm) : Option (Int32 × Mm) := if x1 < 0 then (some ((-2 : Int32), M)) else (if (5 : Int32) < x1 then (some ((-2 : Int32), M)) else (if x2 < 0 then (some ((-2 : Int32), M)) else (if x2 ≤ (9 : Int32) then (if x3 < 0 then (some ((-2 : Int32), M)) else (if (8 : Int32) ≤ x3 then (some ((-2 : Int32), M)) else (bd (m_X3_livesIn 7 x3 M) fun r2 M1 => if r2 = (-1 : Int32) then (bd (m_X3_comesToLive 7 x1 x2 x3 M1) fun r4 M3 => some (r4, M3)) else (some ((-2 : Int32), M1))))) else (some ((-2 : Int32), M)))))
set_option maxRecDepth 100000 in
set_option maxHeartbeats 4000000 in
theorem c_X4_person {G : Gx} {sh : List Sh} (hs : TopAt sh) (M : Mm) (x1 : Int32) (x2 : Int32) (x3 : Int32) : CT yX4_person cX4_person 4 (some .int) rmX4_person G sh [.ref (G.2.2.2.2 0), .int x1, .int x2, .int x3] rvI M (m_X4_person  x1 x2 x3 M) := by
  refine CT.of (by decide +kernel) (Nat.le_of_ble_eq_true rfl) (fun X hF => ?_)
  show VR X G sh 4 rvI M 0 [(0, .ref (G.2.2.2.2 0)), (1, .int x1), (2, .int x2), (3, .int x3)] [] _
  unfold m_X4_person
  refine v_iload_n 1 1 hF dX4_person_0 rfl rfl rfl ?_
  refine v_if_lt 4 19 hF dX4_person_1 rfl (by decide) (fun _ => ?_) (fun _ => ?_)
  · refine v_bipush (-2) 21 hF dX4_person_19 rfl (by decide) ?_
    exact v_iret hF dX4_person_21
  · refine v_iload_n 1 5 hF dX4_person_4 rfl rfl rfl ?_
    refine v_iconst (5) 6 hF dX4_person_5 rfl (by decide) ?_
    refine v_icmp_gt 9 19 hF dX4_person_6 rfl (by decide) (fun _ => ?_) (fun _ => ?_)
    · refine v_bipush (-2) 21 hF dX4_person_19 rfl (by decide) ?_
      exact v_iret hF dX4_person_21
    · refine v_iload_n 2 10 hF dX4_person_9 rfl rfl rfl ?_
      refine v_if_lt 13 19 hF dX4_person_10 rfl (by decide) (fun _ => ?_) (fun _ => ?_)
      · refine v_bipush (-2) 21 hF dX4_person_19 rfl (by decide) ?_
        exact v_iret hF dX4_person_21
      · refine v_iload_n 2 14 hF dX4_person_13 rfl rfl rfl ?_
        refine v_bipush (9) 16 hF dX4_person_14 rfl (by decide) ?_
        refine v_icmp_le 19 22 hF dX4_person_16 rfl (by decide) (fun _ => ?_) (fun _ => ?_)
        · refine v_iload_n 3 23 hF dX4_person_22 rfl rfl rfl ?_
          refine v_if_lt 26 44 hF dX4_person_23 rfl (by decide) (fun _ => ?_) (fun _ => ?_)
          · refine v_bipush (-2) 46 hF dX4_person_44 rfl (by decide) ?_
            exact v_iret hF dX4_person_46
          · refine v_iload_n 3 27 hF dX4_person_26 rfl rfl rfl ?_
            refine v_bipush (8) 29 hF dX4_person_27 rfl (by decide) ?_
            refine v_icmp_ge 32 44 hF dX4_person_29 rfl (by decide) (fun _ => ?_) (fun _ => ?_)
            · refine v_bipush (-2) 46 hF dX4_person_44 rfl (by decide) ?_
              exact v_iret hF dX4_person_46
            · refine v_aload_n 0 33 hF dX4_person_32 rfl rfl rfl ?_
              refine v_getR (b := 7) 36 hF dX4_person_33 rfl fl_X4_38 hs.1 rfl ?_
              refine v_iload_n 3 37 hF dX4_person_36 rfl rfl rfl ?_
              refine v_callI ([.int x3]) ([]) 40 hF dX4_person_37 rfl cw_X4_81 rfl (hs.2.2.2.1.1) (c_X3_livesIn (G := G) (hs.2.1) (hs.2.2.2.1) M x3) ⟨rfl, rfl, Nat.le_of_ble_eq_true rfl, Nat.le_of_ble_eq_true rfl⟩ rfl rfl (Nat.le_of_ble_eq_true rfl) (fun r2 M1 => ?_)
              refine v_iconst (-1) 41 hF dX4_person_40 rfl (by decide) ?_
              refine v_icmp_eq 44 47 hF dX4_person_41 rfl (by decide) (fun _ => ?_) (fun _ => ?_)
              · refine v_aload_n 0 48 hF dX4_person_47 rfl rfl rfl ?_
                refine v_getR (b := 7) 51 hF dX4_person_48 rfl fl_X4_38 hs.1 rfl ?_
                refine v_iload_n 1 52 hF dX4_person_51 rfl rfl rfl ?_
                refine v_iload_n 2 53 hF dX4_person_52 rfl rfl rfl ?_
                refine v_iload_n 3 54 hF dX4_person_53 rfl rfl rfl ?_
                refine v_callI ([.int x1, .int x2, .int x3]) ([]) 57 hF dX4_person_54 rfl cw_X4_84 rfl (hs.2.2.2.1.1) (c_X3_comesToLive (G := G) (hs.2.1) (hs.2.2.2.1) M1 x1 x2 x3) ⟨rfl, rfl, Nat.le_of_ble_eq_true rfl, Nat.le_of_ble_eq_true rfl⟩ rfl rfl (Nat.le_of_ble_eq_true rfl) (fun r4 M3 => ?_)
                exact v_iret hF dX4_person_57
              · refine v_bipush (-2) 46 hF dX4_person_44 rfl (by decide) ?_
                exact v_iret hF dX4_person_46
        · refine v_bipush (-2) 21 hF dX4_person_19 rfl (by decide) ?_
          exact v_iret hF dX4_person_21
abbrev rmX4_swap : Room := { frames := 2, cells := 0, slots := 0, locals := 43 }
def m_X4_swap (x1 : Int32) (x2 : Int32) (M : Mm) : Option (Int32 × Mm) := bd (m_X3_areTwo 7 x1 x2 M) fun r2 M1 => if r2 = 0 then (some ((-2 : Int32), M1)) else (bd (m_X3_houseOf 7 x2 M1) fun r4 M3 => lt1 r4 fun y5 => bd (m_X3_houseOf 7 x1 M3) fun r7 M6 => bd (m_X3_moveTo 7 x2 r7 M6) fun _ M8 => bd (m_X3_moveTo 7 x1 y5 M8) fun _ M9 => some (y5, M9))
set_option maxRecDepth 100000 in
set_option maxHeartbeats 4000000 in
theorem c_X4_swap {G : Gx} {sh : List Sh} (hs : TopAt sh) (M : Mm) (x1 : Int32) (x2 : Int32) : CT yX4_swap cX4_swap 4 (some .int) rmX4_swap G sh [.ref (G.2.2.2.2 0), .int x1, .int x2] rvI M (m_X4_swap  x1 x2 M) := by
  refine CT.of (by decide +kernel) (Nat.le_of_ble_eq_true rfl) (fun X hF => ?_)
  show VR X G sh 4 rvI M 0 [(0, .ref (G.2.2.2.2 0)), (1, .int x1), (2, .int x2)] [] _
  unfold m_X4_swap
  refine v_aload_n 0 1 hF dX4_swap_0 rfl rfl rfl ?_
  refine v_getR (b := 7) 4 hF dX4_swap_1 rfl fl_X4_38 hs.1 rfl ?_
  refine v_iload_n 1 5 hF dX4_swap_4 rfl rfl rfl ?_
  refine v_iload_n 2 6 hF dX4_swap_5 rfl rfl rfl ?_
  refine v_callI ([.int x1, .int x2]) ([]) 9 hF dX4_swap_6 rfl cw_X4_88 rfl (hs.2.2.2.1.1) (c_X3_areTwo (G := G) (hs.2.1) (hs.2.2.2.1) M x1 x2) ⟨rfl, rfl, Nat.le_of_ble_eq_true rfl, Nat.le_of_ble_eq_true rfl⟩ rfl rfl (Nat.le_of_ble_eq_true rfl) (fun r2 M1 => ?_)
  refine v_if_ne 12 15 hF dX4_swap_9 rfl (by decide) (fun _ => ?_) (fun _ => ?_)
  · refine v_aload_n 0 16 hF dX4_swap_15 rfl rfl rfl ?_
    refine v_getR (b := 7) 19 hF dX4_swap_16 rfl fl_X4_38 hs.1 rfl ?_
    refine v_iload_n 2 20 hF dX4_swap_19 rfl rfl rfl ?_
    refine v_callI ([.int x2]) ([]) 23 hF dX4_swap_20 rfl cw_X4_92 rfl (hs.2.2.2.1.1) (c_X3_houseOf (G := G) (hs.2.1) (hs.2.2.2.1) M1 x2) ⟨rfl, rfl, Nat.le_of_ble_eq_true rfl, Nat.le_of_ble_eq_true rfl⟩ rfl rfl (Nat.le_of_ble_eq_true rfl) (fun r4 M3 => ?_)
    refine v_istore_n (lo' := fun y5 => [(3, .int y5), (0, .ref (G.2.2.2.2 0)), (1, .int x1), (2, .int x2)]) 24 hF dX4_swap_23 rfl rfl (by decide) (fun _ => rfl) (fun y5 => ?_)
    refine v_aload_n 1 25 hF dX4_swap_24 rfl rfl rfl ?_
    refine v_getR (b := 7) 28 hF dX4_swap_25 rfl fl_X4_38 hs.1 rfl ?_
    refine v_iload_n 3 29 hF dX4_swap_28 rfl rfl rfl ?_
    refine v_aload_n 1 30 hF dX4_swap_29 rfl rfl rfl ?_
    refine v_getR (b := 7) 33 hF dX4_swap_30 rfl fl_X4_38 hs.1 rfl ?_
    refine v_iload_n 2 34 hF dX4_swap_33 rfl rfl rfl ?_
    refine v_callI ([.int x1]) ([.int x2, .ref (G.2.2.2.2 7)]) 37 hF dX4_swap_34 rfl cw_X4_92 rfl (hs.2.2.2.1.1) (c_X3_houseOf (G := G) (hs.2.1) (hs.2.2.2.1) M3 x1) ⟨rfl, rfl, Nat.le_of_ble_eq_true rfl, Nat.le_of_ble_eq_true rfl⟩ rfl rfl (Nat.le_of_ble_eq_true rfl) (fun r7 M6 => ?_)
    refine v_callV ([.int x2, .int r7]) ([]) 40 hF dX4_swap_37 rfl cw_X4_95 rfl (hs.2.2.2.1.1) (c_X3_moveTo (G := G) (hs.2.1) (hs.2.2.2.1) M6 x2 r7) ⟨rfl, rfl, Nat.le_of_ble_eq_true rfl, Nat.le_of_ble_eq_true rfl⟩ rfl rfl (Nat.le_of_ble_eq_true rfl) (fun _ M8 => ?_)
    refine v_aload_n 1 41 hF dX4_swap_40 rfl rfl rfl ?_
    refine v_getR (b := 7) 44 hF dX4_swap_41 rfl fl_X4_38 hs.1 rfl ?_
    refine v_iload_n 2 45 hF dX4_swap_44 rfl rfl rfl ?_
    refine v_iload_n 0 46 hF dX4_swap_45 rfl rfl rfl ?_
    refine v_callV ([.int x1, .int y5]) ([]) 49 hF dX4_swap_46 rfl cw_X4_95 rfl (hs.2.2.2.1.1) (c_X3_moveTo (G := G) (hs.2.1) (hs.2.2.2.1) M8 x1 y5) ⟨rfl, rfl, Nat.le_of_ble_eq_true rfl, Nat.le_of_ble_eq_true rfl⟩ rfl rfl (Nat.le_of_ble_eq_true rfl) (fun _ M9 => ?_)
    refine v_iload_n 0 50 hF dX4_swap_49 rfl rfl rfl ?_
    exact v_iret hF dX4_swap_50
  · refine v_bipush (-2) 14 hF dX4_swap_12 rfl (by decide) ?_
    exact v_iret hF dX4_swap_14
abbrev rmX4_asks : Room := { frames := 4, cells := 0, slots := 0, locals := 99 }
def m_X4_asks (x1 : Int32) (x2 : Int32) (x3 : Int32) (M : Mm) : Option (Int32 × Mm) := bd (m_X3_isOne 7 x1 M) fun r2 M1 => if r2 = 0 then (some ((-1000 : Int32), M1)) else (bd (m_X3_isLetter 7 x2 M1) fun r4 M3 => if r4 = 0 then (some ((-1000 : Int32), M3)) else (if x3 < 0 then (some ((-1000 : Int32), M3)) else (if x3 ≤ (1 : Int32) then (if x3 = (1 : Int32) then (bd (m_X3_softens 7 x1 x2 M3) fun r8 M7 => some (r8, M7)) else (bd (m_X3_carries 7 x1 x2 M3) fun r6 M5 => if r6 = 0 then (some ((0 : Int32), M5)) else (some ((1 : Int32), M5)))) else (some ((-1000 : Int32), M3)))))
set_option maxRecDepth 100000 in
set_option maxHeartbeats 4000000 in
theorem c_X4_asks {G : Gx} {sh : List Sh} (hs : TopAt sh) (M : Mm) (x1 : Int32) (x2 : Int32) (x3 : Int32) : CT yX4_asks cX4_asks 4 (some .int) rmX4_asks G sh [.ref (G.2.2.2.2 0), .int x1, .int x2, .int x3] rvI M (m_X4_asks  x1 x2 x3 M) := by
  refine CT.of (by decide +kernel) (Nat.le_of_ble_eq_true rfl) (fun X hF => ?_)
  show VR X G sh 4 rvI M 0 [(0, .ref (G.2.2.2.2 0)), (1, .int x1), (2, .int x2), (3, .int x3)] [] _
  unfold m_X4_asks
  refine v_aload_n 0 1 hF dX4_asks_0 rfl rfl rfl ?_
  refine v_getR (b := 7) 4 hF dX4_asks_1 rfl fl_X4_38 hs.1 rfl ?_
  refine v_iload_n 1 5 hF dX4_asks_4 rfl rfl rfl ?_
  refine v_callI ([.int x1]) ([]) 8 hF dX4_asks_5 rfl cw_X4_105 rfl (hs.2.2.2.1.1) (c_X3_isOne (G := G) (hs.2.1) (hs.2.2.2.1) M x1) ⟨rfl, rfl, Nat.le_of_ble_eq_true rfl, Nat.le_of_ble_eq_true rfl⟩ rfl rfl (Nat.le_of_ble_eq_true rfl) (fun r2 M1 => ?_)
  refine v_if_eq 11 31 hF dX4_asks_8 rfl (by decide) (fun _ => ?_) (fun _ => ?_)
  · refine v_sipush (-1000) 34 hF dX4_asks_31 rfl (by decide) ?_
    exact v_iret hF dX4_asks_34
  · refine v_aload_n 0 12 hF dX4_asks_11 rfl rfl rfl ?_
    refine v_getR (b := 7) 15 hF dX4_asks_12 rfl fl_X4_38 hs.1 rfl ?_
    refine v_iload_n 2 16 hF dX4_asks_15 rfl rfl rfl ?_
    refine v_callI ([.int x2]) ([]) 19 hF dX4_asks_16 rfl cw_X4_98 rfl (hs.2.2.2.1.1) (c_X3_isLetter (G := G) (hs.2.1) (hs.2.2.2.1) M1 x2) ⟨rfl, rfl, Nat.le_of_ble_eq_true rfl, Nat.le_of_ble_eq_true rfl⟩ rfl rfl (Nat.le_of_ble_eq_true rfl) (fun r4 M3 => ?_)
    refine v_if_eq 22 31 hF dX4_asks_19 rfl (by decide) (fun _ => ?_) (fun _ => ?_)
    · refine v_sipush (-1000) 34 hF dX4_asks_31 rfl (by decide) ?_
      exact v_iret hF dX4_asks_34
    · refine v_iload_n 3 23 hF dX4_asks_22 rfl rfl rfl ?_
      refine v_if_lt 26 31 hF dX4_asks_23 rfl (by decide) (fun _ => ?_) (fun _ => ?_)
      · refine v_sipush (-1000) 34 hF dX4_asks_31 rfl (by decide) ?_
        exact v_iret hF dX4_asks_34
      · refine v_iload_n 3 27 hF dX4_asks_26 rfl rfl rfl ?_
        refine v_iconst (1) 28 hF dX4_asks_27 rfl (by decide) ?_
        refine v_icmp_le 31 35 hF dX4_asks_28 rfl (by decide) (fun _ => ?_) (fun _ => ?_)
        · refine v_iload_n 3 36 hF dX4_asks_35 rfl rfl rfl ?_
          refine v_iconst (1) 37 hF dX4_asks_36 rfl (by decide) ?_
          refine v_icmp_ne 40 50 hF dX4_asks_37 rfl (by decide) (fun _ => ?_) (fun _ => ?_)
          · refine v_aload_n 0 51 hF dX4_asks_50 rfl rfl rfl ?_
            refine v_getR (b := 7) 54 hF dX4_asks_51 rfl fl_X4_38 hs.1 rfl ?_
            refine v_iload_n 1 55 hF dX4_asks_54 rfl rfl rfl ?_
            refine v_iload_n 2 56 hF dX4_asks_55 rfl rfl rfl ?_
            refine v_callI ([.int x1, .int x2]) ([]) 59 hF dX4_asks_56 rfl cw_X4_114 rfl (hs.2.2.2.1.1) (c_X3_carries (G := G) (hs.2.1) (hs.2.2.2.1) M3 x1 x2) ⟨rfl, rfl, Nat.le_of_ble_eq_true rfl, Nat.le_of_ble_eq_true rfl⟩ rfl rfl (Nat.le_of_ble_eq_true rfl) (fun r6 M5 => ?_)
            refine v_if_eq 62 66 hF dX4_asks_59 rfl (by decide) (fun _ => ?_) (fun _ => ?_)
            · refine v_iconst (0) 67 hF dX4_asks_66 rfl (by decide) ?_
              exact v_iret hF dX4_asks_67
            · refine v_iconst (1) 63 hF dX4_asks_62 rfl (by decide) ?_
              refine v_goto 67 hF dX4_asks_63 (by decide) ?_
              exact v_iret hF dX4_asks_67
          · refine v_aload_n 0 41 hF dX4_asks_40 rfl rfl rfl ?_
            refine v_getR (b := 7) 44 hF dX4_asks_41 rfl fl_X4_38 hs.1 rfl ?_
            refine v_iload_n 1 45 hF dX4_asks_44 rfl rfl rfl ?_
            refine v_iload_n 2 46 hF dX4_asks_45 rfl rfl rfl ?_
            refine v_callI ([.int x1, .int x2]) ([]) 49 hF dX4_asks_46 rfl cw_X4_111 rfl (hs.2.2.2.1.1) (c_X3_softens (G := G) (hs.2.1) (hs.2.2.2.1) M3 x1 x2) ⟨rfl, rfl, Nat.le_of_ble_eq_true rfl, Nat.le_of_ble_eq_true rfl⟩ rfl rfl (Nat.le_of_ble_eq_true rfl) (fun r8 M7 => ?_)
            exact v_iret hF dX4_asks_49
        · refine v_sipush (-1000) 34 hF dX4_asks_31 rfl (by decide) ?_
          exact v_iret hF dX4_asks_34
abbrev rmX4_writes : Room := { frames := 4, cells := 0, slots := 0, locals := 96 }
def m_X4_writes (x1 : Int32) (M : Mm) : Option (Int32 × Mm) := bd (m_X3_isOne 7 x1 M) fun r2 M1 => if r2 = 0 then (some ((-2 : Int32), M1)) else (bd (m_X3_toneWritten 7 x1 M1) fun r4 M3 => some (r4, M3))
set_option maxRecDepth 100000 in
set_option maxHeartbeats 4000000 in
theorem c_X4_writes {G : Gx} {sh : List Sh} (hs : TopAt sh) (M : Mm) (x1 : Int32) : CT yX4_writes cX4_writes 2 (some .int) rmX4_writes G sh [.ref (G.2.2.2.2 0), .int x1] rvI M (m_X4_writes  x1 M) := by
  refine CT.of (by decide +kernel) (Nat.le_of_ble_eq_true rfl) (fun X hF => ?_)
  show VR X G sh 2 rvI M 0 [(0, .ref (G.2.2.2.2 0)), (1, .int x1)] [] _
  unfold m_X4_writes
  refine v_aload_n 0 1 hF dX4_writes_0 rfl rfl rfl ?_
  refine v_getR (b := 7) 4 hF dX4_writes_1 rfl fl_X4_38 hs.1 rfl ?_
  refine v_iload_n 1 5 hF dX4_writes_4 rfl rfl rfl ?_
  refine v_callI ([.int x1]) ([]) 8 hF dX4_writes_5 rfl cw_X4_105 rfl (hs.2.2.2.1.1) (c_X3_isOne (G := G) (hs.2.1) (hs.2.2.2.1) M x1) ⟨rfl, rfl, Nat.le_of_ble_eq_true rfl, Nat.le_of_ble_eq_true rfl⟩ rfl rfl (Nat.le_of_ble_eq_true rfl) (fun r2 M1 => ?_)
  refine v_if_eq 11 22 hF dX4_writes_8 rfl (by decide) (fun _ => ?_) (fun _ => ?_)
  · refine v_bipush (-2) 24 hF dX4_writes_22 rfl (by decide) ?_
    exact v_iret hF dX4_writes_24
  · refine v_aload_n 0 12 hF dX4_writes_11 rfl rfl rfl ?_
    refine v_getR (b := 7) 15 hF dX4_writes_12 rfl fl_X4_38 hs.1 rfl ?_
    refine v_iload_n 1 16 hF dX4_writes_15 rfl rfl rfl ?_
    refine v_callI ([.int x1]) ([]) 19 hF dX4_writes_16 rfl cw_X4_117 rfl (hs.2.2.2.1.1) (c_X3_toneWritten (G := G) (hs.2.1) (hs.2.2.2.1) M1 x1) ⟨rfl, rfl, Nat.le_of_ble_eq_true rfl, Nat.le_of_ble_eq_true rfl⟩ rfl rfl (Nat.le_of_ble_eq_true rfl) (fun r4 M3 => ?_)
    refine v_goto 24 hF dX4_writes_19 (by decide) ?_
    exact v_iret hF dX4_writes_24
abbrev rmX4_feed : Room := { frames := 1, cells := 0, slots := 0, locals := 21 }
def m_X4_feed (x1 : Int32) (M : Mm) : Option (Int32 × Mm) := if x1 < 0 then (some ((-2 : Int32), M)) else (if x1 ≤ (255 : Int32) then (bd (m_X1_add x1 M) fun r2 M1 => if r2 = 0 then (some ((-4 : Int32), M1)) else (some ((M1 5 0), M1))) else (some ((-2 : Int32), M)))
set_option maxRecDepth 100000 in
set_option maxHeartbeats 4000000 in
theorem c_X4_feed {G : Gx} {sh : List Sh} (hs : TopAt sh) (M : Mm) (x1 : Int32) : CT yX4_feed cX4_feed 2 (some .int) rmX4_feed G sh [.ref (G.2.2.2.2 0), .int x1] rvI M (m_X4_feed  x1 M) := by
  refine CT.of (by decide +kernel) (Nat.le_of_ble_eq_true rfl) (fun X hF => ?_)
  show VR X G sh 2 rvI M 0 [(0, .ref (G.2.2.2.2 0)), (1, .int x1)] [] _
  unfold m_X4_feed
  refine v_iload_n 1 1 hF dX4_feed_0 rfl rfl rfl ?_
  refine v_if_lt 4 11 hF dX4_feed_1 rfl (by decide) (fun _ => ?_) (fun _ => ?_)
  · refine v_bipush (-2) 13 hF dX4_feed_11 rfl (by decide) ?_
    exact v_iret hF dX4_feed_13
  · refine v_iload_n 1 5 hF dX4_feed_4 rfl rfl rfl ?_
    refine v_sipush (255) 8 hF dX4_feed_5 rfl (by decide) ?_
    refine v_icmp_le 11 14 hF dX4_feed_8 rfl (by decide) (fun _ => ?_) (fun _ => ?_)
    · refine v_aload_n 0 15 hF dX4_feed_14 rfl rfl rfl ?_
      refine v_getR (b := 5) 18 hF dX4_feed_15 rfl fl_X4_21 hs.1 rfl ?_
      refine v_iload_n 1 19 hF dX4_feed_18 rfl rfl rfl ?_
      refine v_callI ([.int x1]) ([]) 22 hF dX4_feed_19 rfl cw_X4_144 rfl (hs.2.2.1.1) (c_X1_add (G := G) (hs.2.1) (hs.2.2.1) M x1) ⟨rfl, rfl, Nat.le_of_ble_eq_true rfl, Nat.le_of_ble_eq_true rfl⟩ rfl rfl (Nat.le_of_ble_eq_true rfl) (fun r2 M1 => ?_)
      refine v_if_eq 25 35 hF dX4_feed_22 rfl (by decide) (fun _ => ?_) (fun _ => ?_)
      · refine v_bipush (-4) 37 hF dX4_feed_35 rfl (by decide) ?_
        exact v_iret hF dX4_feed_37
      · refine v_aload_n 0 26 hF dX4_feed_25 rfl rfl rfl ?_
        refine v_getR (b := 5) 29 hF dX4_feed_26 rfl fl_X4_21 hs.1 rfl ?_
        refine v_getI 32 hF dX4_feed_29 rfl fl_X4_147 hs.2.2.1.1 rfl ?_
        refine v_goto 37 hF dX4_feed_32 (by decide) ?_
        exact v_iret hF dX4_feed_37
    · refine v_bipush (-2) 13 hF dX4_feed_11 rfl (by decide) ?_
      exact v_iret hF dX4_feed_13
abbrev rmX4_text : Room := { frames := 69, cells := 0, slots := 0, locals := 3074 }
def m_X4_text  (M : Mm) : Option (Int32 × Mm) := bd (m_X2_hasRoom M) fun r2 M1 => if r2 = 0 then (some ((-4 : Int32), M1)) else (bd (m_X1_read M1) fun r4 M3 => lt1 r4 fun y5 => if y5 = (-1 : Int32) then (some (((M3 1 0) - (1 : Int32)), M3)) else (some (((-100 : Int32) - y5), M3)))
set_option maxRecDepth 100000 in
set_option maxHeartbeats 4000000 in
theorem c_X4_text {G : Gx} {sh : List Sh} (hs : TopAt sh) (M : Mm)  : CT yX4_text cX4_text 2 (some .int) rmX4_text G sh [.ref (G.2.2.2.2 0)] rvI M (m_X4_text   M) := by
  refine CT.of (by decide +kernel) (Nat.le_of_ble_eq_true rfl) (fun X hF => ?_)
  show VR X G sh 2 rvI M 0 [(0, .ref (G.2.2.2.2 0))] [] _
  unfold m_X4_text
  refine v_aload_n 0 1 hF dX4_text_0 rfl rfl rfl ?_
  refine v_getR (b := 1) 4 hF dX4_text_1 rfl fl_X4_10 hs.1 rfl ?_
  refine v_callI ([]) ([]) 7 hF dX4_text_4 rfl cw_X4_150 rfl (hs.2.1.1) (c_X2_hasRoom (G := G) (hs.2.1) M) ⟨rfl, rfl, Nat.le_of_ble_eq_true rfl, Nat.le_of_ble_eq_true rfl⟩ rfl rfl (Nat.le_of_ble_eq_true rfl) (fun r2 M1 => ?_)
  refine v_if_ne 10 13 hF dX4_text_7 rfl (by decide) (fun _ => ?_) (fun _ => ?_)
  · refine v_aload_n 0 14 hF dX4_text_13 rfl rfl rfl ?_
    refine v_getR (b := 5) 17 hF dX4_text_14 rfl fl_X4_21 hs.1 rfl ?_
    refine v_callI ([]) ([]) 20 hF dX4_text_17 rfl cw_X4_31 rfl (hs.2.2.1.1) (c_X1_read (G := G) (hs.2.1) (hs.2.2.1) M1) ⟨rfl, rfl, Nat.le_of_ble_eq_true rfl, Nat.le_of_ble_eq_true rfl⟩ rfl rfl (Nat.le_of_ble_eq_true rfl) (fun r4 M3 => ?_)
    refine v_istore_n (lo' := fun y5 => [(1, .int y5), (0, .ref (G.2.2.2.2 0))]) 21 hF dX4_text_20 rfl rfl (by decide) (fun _ => rfl) (fun y5 => ?_)
    refine v_iload_n 0 22 hF dX4_text_21 rfl rfl rfl ?_
    refine v_iconst (-1) 23 hF dX4_text_22 rfl (by decide) ?_
    refine v_icmp_ne 26 38 hF dX4_text_23 rfl (by decide) (fun _ => ?_) (fun _ => ?_)
    · refine v_bipush (-100) 40 hF dX4_text_38 rfl (by decide) ?_
      refine v_iload_n 0 41 hF dX4_text_40 rfl rfl rfl ?_
      refine v_isub 42 hF dX4_text_41 rfl ?_
      exact v_iret hF dX4_text_42
    · refine v_aload_n 1 27 hF dX4_text_26 rfl rfl rfl ?_
      refine v_getR (b := 1) 30 hF dX4_text_27 rfl fl_X4_10 hs.1 rfl ?_
      refine v_getI 33 hF dX4_text_30 rfl fl_X4_154 hs.2.1.1 rfl ?_
      refine v_iconst (1) 34 hF dX4_text_33 rfl (by decide) ?_
      refine v_isub 35 hF dX4_text_34 rfl ?_
      refine v_goto 42 hF dX4_text_35 (by decide) ?_
      exact v_iret hF dX4_text_42
  · refine v_bipush (-4) 12 hF dX4_text_10 rfl (by decide) ?_
    exact v_iret hF dX4_text_12
