abbrev rmX4_hide : Room := { frames := 7, cells := 0, slots := 0, locals := 165 }
def m_X4_hide_J145 (x5 : Int32) (M : Mm) : Option (Int32 × Mm) := some (x5, M)
def m_X4_hide_J128 (n52 : Int32 → Int32 → Int32 → Int32 → Int32 → Int32 → Mm → Option (Int32 × Mm)) (x1 : Int32) (x2 : Int32) (x3 : Int32) (x4 : Int32) (x5 : Int32) (x6 : Int32) (M : Mm) : Option (Int32 × Mm) := lt1 (x6 + 1) fun y1 => n52 x1 x2 x3 x4 x5 y1 M
def m_X4_hide_J88 (n52 : Int32 → Int32 → Int32 → Int32 → Int32 → Int32 → Mm → Option (Int32 × Mm)) (x1 : Int32) (x2 : Int32) (x3 : Int32) (x4 : Int32) (x5 : Int32) (x6 : Int32) (M : Mm) : Option (Int32 × Mm) := bd (m_X3_takeOver 16 7 M) fun _ M2 => lt1 (up M2 16 6 x6) fun M3 => bd (m_X3_readBehind 16 x1 x3 M3) fun r5 M4 => if ((shr r5 x2) &&& (1 : Int32)) = 0 then (lt1 x6 fun y6 => m_X4_hide_J128 n52 x1 x2 x3 x4 y6 x6 M4) else (m_X4_hide_J128 n52 x1 x2 x3 x4 x5 x6 M4)
def m_X4_hide_B52 (n52 : Int32 → Int32 → Int32 → Int32 → Int32 → Int32 → Mm → Option (Int32 × Mm)) (x1 : Int32) (x2 : Int32) (x3 : Int32) (x4 : Int32) (x5 : Int32) (x6 : Int32) (M : Mm) : Option (Int32 × Mm) := if (shl ((1 : Int32)) ((M 7 4))) ≤ x6 then (if x5 = (-1 : Int32) then (m_X4_hide_J145 x5 M) else (if x4 = 0 then (m_X4_hide_J145 x5 M) else (bd (m_J6_bitCount_0f7a4 x5 M) fun r8 M7 => some (r8, M7)))) else (if x5 = (-1 : Int32) then (m_X4_hide_J88 n52 x1 x2 x3 x4 x5 x6 M) else (bd (m_J6_bitCount_0f7a4 x6 M) fun r10 M9 => bd (m_J6_bitCount_0f7a4 x5 M9) fun r12 M11 => if r10 < r12 then (m_X4_hide_J88 n52 x1 x2 x3 x4 x5 x6 M11) else (m_X4_hide_J128 n52 x1 x2 x3 x4 x5 x6 M11)))
def m_X4_hide_L52 : Nat → Int32 → Int32 → Int32 → Int32 → Int32 → Int32 → Mm → Option (Int32 × Mm)
  | 0 => fun _ _ _ _ _ _ _ => none
  | n + 1 => m_X4_hide_B52  (m_X4_hide_L52  n)
def m_X4_hide (x1 : Int32) (x2 : Int32) (x3 : Int32) (x4 : Int32) (M : Mm) : Option (Int32 × Mm) := bd (m_X3_isLetter 7 x1 M) fun r14 M13 => if r14 = 0 then (some ((-2 : Int32), M13)) else (bd (m_X3_isOne 7 x2 M13) fun r16 M15 => if r16 = 0 then (some ((-2 : Int32), M15)) else (if x3 < 0 then (some ((-2 : Int32), M15)) else (if (40 : Int32) < x3 then (some ((-2 : Int32), M15)) else (if x4 < 0 then (some ((-2 : Int32), M15)) else (if x4 ≤ (1 : Int32) then (lt1 ((-1 : Int32)) fun y17 => lt1 ((0 : Int32)) fun y18 => m_X4_hide_L52 FU x1 x2 x3 x4 y17 y18 M15) else (some ((-2 : Int32), M15)))))))
set_option maxRecDepth 100000 in
set_option maxHeartbeats 4000000 in
theorem v_X4_hide_J145 {X : Cx} {G : Gx} {sh : List Sh} (hF : FX X G sh 7 cX4_hide (yX4_hide).cls (some .int) rmX4_hide) (hs : TopAt sh) : ∀ (x5 : Int32) (M : Mm), VR X G sh 7 rvI M 145 [(0, .ref (G.2.2.2.2 0)), (5, .int x5)] [] (m_X4_hide_J145  x5 M) := by
  intro x5 M
  unfold m_X4_hide_J145
  refine v_iload 1 147 hF dX4_hide_145 rfl rfl ?_
  refine v_goto 155 hF dX4_hide_147 (by decide) ?_
  exact v_iret hF dX4_hide_155
set_option maxRecDepth 100000 in
set_option maxHeartbeats 4000000 in
theorem v_X4_hide_J128 {X : Cx} {G : Gx} {sh : List Sh} (hF : FX X G sh 7 cX4_hide (yX4_hide).cls (some .int) rmX4_hide) (hs : TopAt sh) (n52 : Int32 → Int32 → Int32 → Int32 → Int32 → Int32 → Mm → Option (Int32 × Mm)) (h52 : ∀ (x1 : Int32) (x2 : Int32) (x3 : Int32) (x4 : Int32) (x5 : Int32) (x6 : Int32) (M : Mm), VR X G sh 7 rvI M 52 [(0, .ref (G.2.2.2.2 0)), (1, .int x1), (2, .int x2), (3, .int x3), (4, .int x4), (5, .int x5), (6, .int x6)] [] (n52 x1 x2 x3 x4 x5 x6 M)) : ∀ (x1 : Int32) (x2 : Int32) (x3 : Int32) (x4 : Int32) (x5 : Int32) (x6 : Int32) (M : Mm), VR X G sh 7 rvI M 128 [(0, .ref (G.2.2.2.2 0)), (1, .int x1), (2, .int x2), (3, .int x3), (4, .int x4), (5, .int x5), (6, .int x6)] [] (m_X4_hide_J128  n52 x1 x2 x3 x4 x5 x6 M) := by
  intro x1 x2 x3 x4 x5 x6 M
  unfold m_X4_hide_J128
  refine v_iinc (v := (x6 + 1)) (lo' := fun y1 => [(6, .int y1), (0, .ref (G.2.2.2.2 0)), (1, .int x1), (2, .int x2), (3, .int x3), (4, .int x4), (5, .int x5)]) 6 131 hF dX4_hide_128 rfl rfl rfl (by decide) (fun _ => rfl) (fun y1 => ?_)
  refine v_goto 52 hF dX4_hide_131 (by decide) ?_
  refine VR.pick [1, 2, 3, 4, 5, 6, 0] rfl ?_
  exact h52 x1 x2 x3 x4 x5 y1 M
set_option maxRecDepth 100000 in
set_option maxHeartbeats 4000000 in
theorem v_X4_hide_J88 {X : Cx} {G : Gx} {sh : List Sh} (hF : FX X G sh 7 cX4_hide (yX4_hide).cls (some .int) rmX4_hide) (hs : TopAt sh) (n52 : Int32 → Int32 → Int32 → Int32 → Int32 → Int32 → Mm → Option (Int32 × Mm)) (h52 : ∀ (x1 : Int32) (x2 : Int32) (x3 : Int32) (x4 : Int32) (x5 : Int32) (x6 : Int32) (M : Mm), VR X G sh 7 rvI M 52 [(0, .ref (G.2.2.2.2 0)), (1, .int x1), (2, .int x2), (3, .int x3), (4, .int x4), (5, .int x5), (6, .int x6)] [] (n52 x1 x2 x3 x4 x5 x6 M)) : ∀ (x1 : Int32) (x2 : Int32) (x3 : Int32) (x4 : Int32) (x5 : Int32) (x6 : Int32) (M : Mm), VR X G sh 7 rvI M 88 [(0, .ref (G.2.2.2.2 0)), (1, .int x1), (2, .int x2), (3, .int x3), (4, .int x4), (5, .int x5), (6, .int x6)] [] (m_X4_hide_J88  n52 x1 x2 x3 x4 x5 x6 M) := by
  intro x1 x2 x3 x4 x5 x6 M
  unfold m_X4_hide_J88
  refine v_aload_n 0 89 hF dX4_hide_88 rfl rfl rfl ?_
  refine v_getR (b := 16) 92 hF dX4_hide_89 rfl fl_X4_42 hs.1 rfl ?_
  refine v_aload_n 0 93 hF dX4_hide_92 rfl rfl rfl ?_
  refine v_getR (b := 7) 96 hF dX4_hide_93 rfl fl_X4_38 hs.1 rfl ?_
  refine v_callV ([.ref (G.2.2.2.2 7)]) ([]) 99 hF dX4_hide_96 rfl cw_X4_167 rfl (hs.2.2.2.2.1.1) (c_X3_takeOver (G := G) (hs.2.1) (hs.2.2.2.2.1) (hs.2.2.2.1) M) ⟨rfl, rfl, Nat.le_of_ble_eq_true rfl, Nat.le_of_ble_eq_true rfl⟩ rfl rfl (Nat.le_of_ble_eq_true rfl) (fun _ M2 => ?_)
  refine v_aload_n 0 100 hF dX4_hide_99 rfl rfl rfl ?_
  refine v_getR (b := 16) 103 hF dX4_hide_100 rfl fl_X4_42 hs.1 rfl ?_
  refine v_iload 6 105 hF dX4_hide_103 rfl rfl ?_
  refine v_putI 108 hF dX4_hide_105 rfl fl_X4_204 fp_X3_6 hs.2.2.2.2.1.1 rfl (fun M3 => ?_)
  refine v_aload_n 0 109 hF dX4_hide_108 rfl rfl rfl ?_
  refine v_getR (b := 16) 112 hF dX4_hide_109 rfl fl_X4_42 hs.1 rfl ?_
  refine v_iload_n 1 113 hF dX4_hide_112 rfl rfl rfl ?_
  refine v_iload_n 3 114 hF dX4_hide_113 rfl rfl rfl ?_
  refine v_callI ([.int x1, .int x3]) ([]) 117 hF dX4_hide_114 rfl cw_X4_207 rfl (hs.2.2.2.2.1.1) (c_X3_readBehind (G := G) (hs.2.1) (hs.2.2.2.2.1) M3 x1 x3) ⟨rfl, rfl, Nat.le_of_ble_eq_true rfl, Nat.le_of_ble_eq_true rfl⟩ rfl rfl (Nat.le_of_ble_eq_true rfl) (fun r5 M4 => ?_)
  refine v_iload_n 2 118 hF dX4_hide_117 rfl rfl rfl ?_
  refine v_ishr 119 hF dX4_hide_118 rfl ?_
  refine v_iconst (1) 120 hF dX4_hide_119 rfl (by decide) ?_
  refine v_iand 121 hF dX4_hide_120 rfl ?_
  refine v_if_ne 124 128 hF dX4_hide_121 rfl (by decide) (fun _ => ?_) (fun _ => ?_)
  · refine VR.pick [0, 1, 2, 3, 4, 5, 6] rfl ?_
    exact v_X4_hide_J128 hF hs _ h52 x1 x2 x3 x4 x5 x6 M4
  · refine v_iload 6 126 hF dX4_hide_124 rfl rfl ?_
    refine v_istore (lo' := fun y6 => [(5, .int y6), (0, .ref (G.2.2.2.2 0)), (1, .int x1), (2, .int x2), (3, .int x3), (4, .int x4), (6, .int x6)]) 128 hF dX4_hide_126 rfl (by decide) (fun _ => rfl) (fun y6 => ?_)
    refine VR.pick [1, 2, 3, 4, 5, 0, 6] rfl ?_
    exact v_X4_hide_J128 hF hs _ h52 x1 x2 x3 x4 y6 x6 M4
set_option maxRecDepth 100000 in
set_option maxHeartbeats 4000000 in
theorem v_X4_hide_B52 {X : Cx} {G : Gx} {sh : List Sh} (hF : FX X G sh 7 cX4_hide (yX4_hide).cls (some .int) rmX4_hide) (hs : TopAt sh) (n52 : Int32 → Int32 → Int32 → Int32 → Int32 → Int32 → Mm → Option (Int32 × Mm)) (h52 : ∀ (x1 : Int32) (x2 : Int32) (x3 : Int32) (x4 : Int32) (x5 : Int32) (x6 : Int32) (M : Mm), VR X G sh 7 rvI M 52 [(0, .ref (G.2.2.2.2 0)), (1, .int x1), (2, .int x2), (3, .int x3), (4, .int x4), (5, .int x5), (6, .int x6)] [] (n52 x1 x2 x3 x4 x5 x6 M)) : ∀ (x1 : Int32) (x2 : Int32) (x3 : Int32) (x4 : Int32) (x5 : Int32) (x6 : Int32) (M : Mm), VR X G sh 7 rvI M 52 [(0, .ref (G.2.2.2.2 0)), (1, .int x1), (2, .int x2), (3, .int x3), (4, .int x4), (5, .int x5), (6, .int x6)] [] (m_X4_hide_B52  n52 x1 x2 x3 x4 x5 x6 M) := by
  intro x1 x2 x3 x4 x5 x6 M
  unfold m_X4_hide_B52
  refine v_iload 6 54 hF dX4_hide_52 rfl rfl ?_
  refine v_iconst (1) 55 hF dX4_hide_54 rfl (by decide) ?_
  refine v_aload_n 0 56 hF dX4_hide_55 rfl rfl rfl ?_
  refine v_getR (b := 7) 59 hF dX4_hide_56 rfl fl_X4_38 hs.1 rfl ?_
  refine v_getI 62 hF dX4_hide_59 rfl fl_X4_196 hs.2.2.2.1.1 rfl ?_
  refine v_ishl 63 hF dX4_hide_62 rfl ?_
  refine v_icmp_ge 66 134 hF dX4_hide_63 rfl (by decide) (fun _ => ?_) (fun _ => ?_)
  · refine v_iload 5 136 hF dX4_hide_134 rfl rfl ?_
    refine v_iconst (-1) 137 hF dX4_hide_136 rfl (by decide) ?_
    refine v_icmp_eq 140 145 hF dX4_hide_137 rfl (by decide) (fun _ => ?_) (fun _ => ?_)
    · refine VR.pick [0, 5] rfl ?_
      exact v_X4_hide_J145 hF hs x5 M
    · refine v_iload 4 142 hF dX4_hide_140 rfl rfl ?_
      refine v_if_ne 145 150 hF dX4_hide_142 rfl (by decide) (fun _ => ?_) (fun _ => ?_)
      · refine v_iload 5 152 hF dX4_hide_150 rfl rfl ?_
        refine v_staI ([.int x5]) ([]) 155 hF dX4_hide_152 rfl cw_X4_199 (c_J6_bitCount_0f7a4 (G := G) (sh := sh) M x5) ⟨rfl, rfl, Nat.le_of_ble_eq_true rfl, Nat.le_of_ble_eq_true rfl⟩ rfl rfl (Nat.le_of_ble_eq_true rfl) (fun r8 M7 => ?_)
        exact v_iret hF dX4_hide_155
      · refine VR.pick [0, 5] rfl ?_
        exact v_X4_hide_J145 hF hs x5 M
  · refine v_iload 5 68 hF dX4_hide_66 rfl rfl ?_
    refine v_iconst (-1) 69 hF dX4_hide_68 rfl (by decide) ?_
    refine v_icmp_eq 72 88 hF dX4_hide_69 rfl (by decide) (fun _ => ?_) (fun _ => ?_)
    · refine VR.pick [0, 1, 2, 3, 4, 5, 6] rfl ?_
      exact v_X4_hide_J88 hF hs _ h52 x1 x2 x3 x4 x5 x6 M
    · refine v_iload 6 74 hF dX4_hide_72 rfl rfl ?_
      refine v_staI ([.int x6]) ([]) 77 hF dX4_hide_74 rfl cw_X4_199 (c_J6_bitCount_0f7a4 (G := G) (sh := sh) M x6) ⟨rfl, rfl, Nat.le_of_ble_eq_true rfl, Nat.le_of_ble_eq_true rfl⟩ rfl rfl (Nat.le_of_ble_eq_true rfl) (fun r10 M9 => ?_)
      refine v_iload 5 79 hF dX4_hide_77 rfl rfl ?_
      refine v_staI ([.int x5]) ([.int r10]) 82 hF dX4_hide_79 rfl cw_X4_199 (c_J6_bitCount_0f7a4 (G := G) (sh := sh) M9 x5) ⟨rfl, rfl, Nat.le_of_ble_eq_true rfl, Nat.le_of_ble_eq_true rfl⟩ rfl rfl (Nat.le_of_ble_eq_true rfl) (fun r12 M11 => ?_)
      refine v_icmp_lt 85 88 hF dX4_hide_82 rfl (by decide) (fun _ => ?_) (fun _ => ?_)
      · refine VR.pick [0, 1, 2, 3, 4, 5, 6] rfl ?_
        exact v_X4_hide_J88 hF hs _ h52 x1 x2 x3 x4 x5 x6 M11
      · refine v_goto 128 hF dX4_hide_85 (by decide) ?_
        refine VR.pick [0, 1, 2, 3, 4, 5, 6] rfl ?_
        exact v_X4_hide_J128 hF hs _ h52 x1 x2 x3 x4 x5 x6 M11
theorem v_X4_hide_L52 {X : Cx} {G : Gx} {sh : List Sh} (hF : FX X G sh 7 cX4_hide (yX4_hide).cls (some .int) rmX4_hide) (hs : TopAt sh) : ∀ (n : Nat), ∀ (x1 : Int32) (x2 : Int32) (x3 : Int32) (x4 : Int32) (x5 : Int32) (x6 : Int32) (M : Mm), VR X G sh 7 rvI M 52 [(0, .ref (G.2.2.2.2 0)), (1, .int x1), (2, .int x2), (3, .int x3), (4, .int x4), (5, .int x5), (6, .int x6)] [] (m_X4_hide_L52  n x1 x2 x3 x4 x5 x6 M) := by
  intro n
  induction n with
  | zero => intro x1 x2 x3 x4 x5 x6 M; exact VR.none
  | succ n ih => exact v_X4_hide_B52 hF hs _ ih
set_option maxRecDepth 100000 in
set_option maxHeartbeats 4000000 in
theorem c_X4_hide {G : Gx} {sh : List Sh} (hs : TopAt sh) (M : Mm) (x1 : Int32) (x2 : Int32) (x3 : Int32) (x4 : Int32) : CT yX4_hide cX4_hide 7 (some .int) rmX4_hide G sh [.ref (G.2.2.2.2 0), .int x1, .int x2, .int x3, .int x4] rvI M (m_X4_hide  x1 x2 x3 x4 M) := by
  refine CT.of (by decide +kernel) (Nat.le_of_ble_eq_true rfl) (fun X hF => ?_)
  show VR X G sh 7 rvI M 0 [(0, .ref (G.2.2.2.2 0)), (1, .int x1), (2, .int x2), (3, .int x3), (4, .int x4)] [] _
  unfold m_X4_hide
  refine v_aload_n 0 1 hF dX4_hide_0 rfl rfl rfl ?_
  refine v_getR (b := 7) 4 hF dX4_hide_1 rfl fl_X4_38 hs.1 rfl ?_
  refine v_iload_n 1 5 hF dX4_hide_4 rfl rfl rfl ?_
  refine v_callI ([.int x1]) ([]) 8 hF dX4_hide_5 rfl cw_X4_98 rfl (hs.2.2.2.1.1) (c_X3_isLetter (G := G) (hs.2.1) (hs.2.2.2.1) M x1) ⟨rfl, rfl, Nat.le_of_ble_eq_true rfl, Nat.le_of_ble_eq_true rfl⟩ rfl rfl (Nat.le_of_ble_eq_true rfl) (fun r14 M13 => ?_)
  refine v_if_eq 11 43 hF dX4_hide_8 rfl (by decide) (fun _ => ?_) (fun _ => ?_)
  · refine v_bipush (-2) 45 hF dX4_hide_43 rfl (by decide) ?_
    exact v_iret hF dX4_hide_45
  · refine v_aload_n 0 12 hF dX4_hide_11 rfl rfl rfl ?_
    refine v_getR (b := 7) 15 hF dX4_hide_12 rfl fl_X4_38 hs.1 rfl ?_
    refine v_iload_n 2 16 hF dX4_hide_15 rfl rfl rfl ?_
    refine v_callI ([.int x2]) ([]) 19 hF dX4_hide_16 rfl cw_X4_105 rfl (hs.2.2.2.1.1) (c_X3_isOne (G := G) (hs.2.1) (hs.2.2.2.1) M13 x2) ⟨rfl, rfl, Nat.le_of_ble_eq_true rfl, Nat.le_of_ble_eq_true rfl⟩ rfl rfl (Nat.le_of_ble_eq_true rfl) (fun r16 M15 => ?_)
    refine v_if_eq 22 43 hF dX4_hide_19 rfl (by decide) (fun _ => ?_) (fun _ => ?_)
    · refine v_bipush (-2) 45 hF dX4_hide_43 rfl (by decide) ?_
      exact v_iret hF dX4_hide_45
    · refine v_iload_n 3 23 hF dX4_hide_22 rfl rfl rfl ?_
      refine v_if_lt 26 43 hF dX4_hide_23 rfl (by decide) (fun _ => ?_) (fun _ => ?_)
      · refine v_bipush (-2) 45 hF dX4_hide_43 rfl (by decide) ?_
        exact v_iret hF dX4_hide_45
      · refine v_iload_n 3 27 hF dX4_hide_26 rfl rfl rfl ?_
        refine v_bipush (40) 29 hF dX4_hide_27 rfl (by decide) ?_
        refine v_icmp_gt 32 43 hF dX4_hide_29 rfl (by decide) (fun _ => ?_) (fun _ => ?_)
        · refine v_bipush (-2) 45 hF dX4_hide_43 rfl (by decide) ?_
          exact v_iret hF dX4_hide_45
        · refine v_iload 4 34 hF dX4_hide_32 rfl rfl ?_
          refine v_if_lt 37 43 hF dX4_hide_34 rfl (by decide) (fun _ => ?_) (fun _ => ?_)
          · refine v_bipush (-2) 45 hF dX4_hide_43 rfl (by decide) ?_
            exact v_iret hF dX4_hide_45
          · refine v_iload 4 39 hF dX4_hide_37 rfl rfl ?_
            refine v_iconst (1) 40 hF dX4_hide_39 rfl (by decide) ?_
            refine v_icmp_le 43 46 hF dX4_hide_40 rfl (by decide) (fun _ => ?_) (fun _ => ?_)
            · refine v_iconst (-1) 47 hF dX4_hide_46 rfl (by decide) ?_
              refine v_istore (lo' := fun y17 => [(5, .int y17), (0, .ref (G.2.2.2.2 0)), (1, .int x1), (2, .int x2), (3, .int x3), (4, .int x4)]) 49 hF dX4_hide_47 rfl (by decide) (fun _ => rfl) (fun y17 => ?_)
              refine v_iconst (0) 50 hF dX4_hide_49 rfl (by decide) ?_
              refine v_istore (lo' := fun y18 => [(6, .int y18), (5, .int y17), (0, .ref (G.2.2.2.2 0)), (1, .int x1), (2, .int x2), (3, .int x3), (4, .int x4)]) 52 hF dX4_hide_50 rfl (by decide) (fun _ => rfl) (fun y18 => ?_)
              refine VR.pick [2, 3, 4, 5, 6, 1, 0] rfl ?_
              exact v_X4_hide_L52 hF hs FU x1 x2 x3 x4 y17 y18 M15
            · refine v_bipush (-2) 45 hF dX4_hide_43 rfl (by decide) ?_
              exact v_iret hF dX4_hide_45
abbrev rmX4_tell : Room := { frames := 7, cells := 0, slots := 0, locals := 165 }
def m_X4_tell_J111 (n57 : Int32 → Int32 → Int32 → Int32 → Mm → Option (Int32 × Mm)) (x1 : Int32) (x2 : Int32) (x3 : Int32) (x4 : Int32) (M : Mm) : Option (Int32 × Mm) := lt1 (x4 + 1) fun y1 => n57 x1 x2 x3 y1 M
def m_X4_tell_B57 (n57 : Int32 → Int32 → Int32 → Int32 → Mm → Option (Int32 × Mm)) (x1 : Int32) (x2 : Int32) (x3 : Int32) (x4 : Int32) (M : Mm) : Option (Int32 × Mm) := if (M 7 4) ≤ x4 then (some ((-1 : Int32), M)) else (bd (m_X3_takeOver 16 7 M) fun _ M2 => if x4 = x1 then (m_X4_tell_J111 n57 x1 x2 x3 x4 M2) else (bd (m_X3_post 16 x1 x4 M2) fun r4 M3 => bd (m_X3_readBehind 16 r4 x3 M3) fun r6 M5 => if r6 = x2 then (some (x4, M5)) else (m_X4_tell_J111 n57 x1 x2 x3 x4 M5)))
def m_X4_tell_L57 : Nat → Int32 → Int32 → Int32 → Int32 → Mm → Option (Int32 × Mm)
  | 0 => fun _ _ _ _ _ => none
  | n + 1 => m_X4_tell_B57  (m_X4_tell_L57  n)
def m_X4_tell (x1 : Int32) (x2 : Int32) (x3 : Int32) (M : Mm) : Option (Int32 × Mm) := bd (m_X3_isOne 7 x1 M) fun r8 M7 => if r8 = 0 then (some ((-2 : Int32), M7)) else (if x2 < 0 then (some ((-2 : Int32), M7)) else (if (shl ((1 : Int32)) ((M7 7 4))) ≤ x2 then (some ((-2 : Int32), M7)) else (if x3 < 0 then (some ((-2 : Int32), M7)) else (if x3 ≤ (20 : Int32) then (bd (m_X3_hasRoom 7 M7) fun r10 M9 => if r10 = 0 then (some ((-4 : Int32), M9)) else (lt1 ((0 : Int32)) fun y11 => m_X4_tell_L57 FU x1 x2 x3 y11 M9)) else (some ((-2 : Int32), M7))))))
set_option maxRecDepth 100000 in
set_option maxHeartbeats 4000000 in
theorem v_X4_tell_J111 {X : Cx} {G : Gx} {sh : List Sh} (hF : FX X G sh 5 cX4_tell (yX4_tell).cls (some .int) rmX4_tell) (hs : TopAt sh) (n57 : Int32 → Int32 → Int32 → Int32 → Mm → Option (Int32 × Mm)) (h57 : ∀ (x1 : Int32) (x2 : Int32) (x3 : Int32) (x4 : Int32) (M : Mm), VR X G sh 5 rvI M 57 [(0, .ref (G.2.2.2.2 0)), (1, .int x1), (2, .int x2), (3, .int x3), (4, .int x4)] [] (n57 x1 x2 x3 x4 M)) : ∀ (x1 : Int32) (x2 : Int32) (x3 : Int32) (x4 : Int32) (M : Mm), VR X G sh 5 rvI M 111 [(0, .ref (G.2.2.2.2 0)), (1, .int x1), (2, .int x2), (3, .int x3), (4, .int x4)] [] (m_X4_tell_J111  n57 x1 x2 x3 x4 M) := by
  intro x1 x2 x3 x4 M
  unfold m_X4_tell_J111
  refine v_iinc (v := (x4 + 1)) (lo' := fun y1 => [(4, .int y1), (0, .ref (G.2.2.2.2 0)), (1, .int x1), (2, .int x2), (3, .int x3)]) 4 114 hF dX4_tell_111 rfl rfl rfl (by decide) (fun _ => rfl) (fun y1 => ?_)
  refine v_goto 57 hF dX4_tell_114 (by decide) ?_
  refine VR.pick [1, 2, 3, 4, 0] rfl ?_
  exact h57 x1 x2 x3 y1 M
set_option maxRecDepth 100000 in
set_option maxHeartbeats 4000000 in
theorem v_X4_tell_B57 {X : Cx} {G : Gx} {sh : List Sh} (hF : FX X G sh 5 cX4_tell (yX4_tell).cls (some .int) rmX4_tell) (hs : TopAt sh) (n57 : Int32 → Int32 → Int32 → Int32 → Mm → Option (Int32 × Mm)) (h57 : ∀ (x1 : Int32) (x2 : Int32) (x3 : Int32) (x4 : Int32) (M : Mm), VR X G sh 5 rvI M 57 [(0, .ref (G.2.2.2.2 0)), (1, .int x1), (2, .int x2), (3, .int x3), (4, .int x4)] [] (n57 x1 x2 x3 x4 M)) : ∀ (x1 : Int32) (x2 : Int32) (x3 : Int32) (x4 : Int32) (M : Mm), VR X G sh 5 rvI M 57 [(0, .ref (G.2.2.2.2 0)), (1, .int x1), (2, .int x2), (3, .int x3), (4, .int x4)] [] (m_X4_tell_B57  n57 x1 x2 x3 x4 M) := by
  intro x1 x2 x3 x4 M
  unfold m_X4_tell_B57
  refine v_iload 4 59 hF dX4_tell_57 rfl rfl ?_
  refine v_aload_n 0 60 hF dX4_tell_59 rfl rfl rfl ?_
  refine v_getR (b := 7) 63 hF dX4_tell_60 rfl fl_X4_38 hs.1 rfl ?_
  refine v_getI 66 hF dX4_tell_63 rfl fl_X4_196 hs.2.2.2.1.1 rfl ?_
  refine v_icmp_ge 69 117 hF dX4_tell_66 rfl (by decide) (fun _ => ?_) (fun _ => ?_)
  · refine v_iconst (-1) 118 hF dX4_tell_117 rfl (by decide) ?_
    exact v_iret hF dX4_tell_118
  · refine v_aload_n 0 70 hF dX4_tell_69 rfl rfl rfl ?_
    refine v_getR (b := 16) 73 hF dX4_tell_70 rfl fl_X4_42 hs.1 rfl ?_
    refine v_aload_n 0 74 hF dX4_tell_73 rfl rfl rfl ?_
    refine v_getR (b := 7) 77 hF dX4_tell_74 rfl fl_X4_38 hs.1 rfl ?_
    refine v_callV ([.ref (G.2.2.2.2 7)]) ([]) 80 hF dX4_tell_77 rfl cw_X4_167 rfl (hs.2.2.2.2.1.1) (c_X3_takeOver (G := G) (hs.2.1) (hs.2.2.2.2.1) (hs.2.2.2.1) M) ⟨rfl, rfl, Nat.le_of_ble_eq_true rfl, Nat.le_of_ble_eq_true rfl⟩ rfl rfl (Nat.le_of_ble_eq_true rfl) (fun _ M2 => ?_)
    refine v_iload 4 82 hF dX4_tell_80 rfl rfl ?_
    refine v_iload_n 1 83 hF dX4_tell_82 rfl rfl rfl ?_
    refine v_icmp_eq 86 111 hF dX4_tell_83 rfl (by decide) (fun _ => ?_) (fun _ => ?_)
    · refine VR.pick [0, 1, 2, 3, 4] rfl ?_
      exact v_X4_tell_J111 hF hs _ h57 x1 x2 x3 x4 M2
    · refine v_aload_n 0 87 hF dX4_tell_86 rfl rfl rfl ?_
      refine v_getR (b := 16) 90 hF dX4_tell_87 rfl fl_X4_42 hs.1 rfl ?_
      refine v_aload_n 0 91 hF dX4_tell_90 rfl rfl rfl ?_
      refine v_getR (b := 16) 94 hF dX4_tell_91 rfl fl_X4_42 hs.1 rfl ?_
      refine v_iload_n 1 95 hF dX4_tell_94 rfl rfl rfl ?_
      refine v_iload 4 97 hF dX4_tell_95 rfl rfl ?_
      refine v_callI ([.int x1, .int x4]) ([.ref (G.2.2.2.2 16)]) 100 hF dX4_tell_97 rfl cw_X4_161 rfl (hs.2.2.2.2.1.1) (c_X3_post (G := G) (hs.2.1) (hs.2.2.2.2.1) M2 x1 x4) ⟨rfl, rfl, Nat.le_of_ble_eq_true rfl, Nat.le_of_ble_eq_true rfl⟩ rfl rfl (Nat.le_of_ble_eq_true rfl) (fun r4 M3 => ?_)
      refine v_iload_n 3 101 hF dX4_tell_100 rfl rfl rfl ?_
      refine v_callI ([.int r4, .int x3]) ([]) 104 hF dX4_tell_101 rfl cw_X4_207 rfl (hs.2.2.2.2.1.1) (c_X3_readBehind (G := G) (hs.2.1) (hs.2.2.2.2.1) M3 r4 x3) ⟨rfl, rfl, Nat.le_of_ble_eq_true rfl, Nat.le_of_ble_eq_true rfl⟩ rfl rfl (Nat.le_of_ble_eq_true rfl) (fun r6 M5 => ?_)
      refine v_iload_n 2 105 hF dX4_tell_104 rfl rfl rfl ?_
      refine v_icmp_ne 108 111 hF dX4_tell_105 rfl (by decide) (fun _ => ?_) (fun _ => ?_)
      · refine VR.pick [0, 1, 2, 3, 4] rfl ?_
        exact v_X4_tell_J111 hF hs _ h57 x1 x2 x3 x4 M5
      · refine v_iload 4 110 hF dX4_tell_108 rfl rfl ?_
        exact v_iret hF dX4_tell_110
theorem v_X4_tell_L57 {X : Cx} {G : Gx} {sh : List Sh} (hF : FX X G sh 5 cX4_tell (yX4_tell).cls (some .int) rmX4_tell) (hs : TopAt sh) : ∀ (n : Nat), ∀ (x1 : Int32) (x2 : Int32) (x3 : Int32) (x4 : Int32) (M : Mm), VR X G sh 5 rvI M 57 [(0, .ref (G.2.2.2.2 0)), (1, .int x1), (2, .int x2), (3, .int x3), (4, .int x4)] [] (m_X4_tell_L57  n x1 x2 x3 x4 M) := by
  intro n
  induction n with
  | zero => intro x1 x2 x3 x4 M; exact VR.none
  | succ n ih => exact v_X4_tell_B57 hF hs _ ih
set_option maxRecDepth 100000 in
set_option maxHeartbeats 4000000 in
theorem c_X4_tell {G : Gx} {sh : List Sh} (hs : TopAt sh) (M : Mm) (x1 : Int32) (x2 : Int32) (x3 : Int32) : CT yX4_tell cX4_tell 5 (some .int) rmX4_tell G sh [.ref (G.2.2.2.2 0), .int x1, .int x2, .int x3] rvI M (m_X4_tell  x1 x2 x3 M) := by
  refine CT.of (by decide +kernel) (Nat.le_of_ble_eq_true rfl) (fun X hF => ?_)
  show VR X G sh 5 rvI M 0 [(0, .ref (G.2.2.2.2 0)), (1, .int x1), (2, .int x2), (3, .int x3)] [] _
  unfold m_X4_tell
  refine v_aload_n 0 1 hF dX4_tell_0 rfl rfl rfl ?_
  refine v_getR (b := 7) 4 hF dX4_tell_1 rfl fl_X4_38 hs.1 rfl ?_
  refine v_iload_n 1 5 hF dX4_tell_4 rfl rfl rfl ?_
  refine v_callI ([.int x1]) ([]) 8 hF dX4_tell_5 rfl cw_X4_105 rfl (hs.2.2.2.1.1) (c_X3_isOne (G := G) (hs.2.1) (hs.2.2.2.1) M x1) ⟨rfl, rfl, Nat.le_of_ble_eq_true rfl, Nat.le_of_ble_eq_true rfl⟩ rfl rfl (Nat.le_of_ble_eq_true rfl) (fun r8 M7 => ?_)
  refine v_if_eq 11 38 hF dX4_tell_8 rfl (by decide) (fun _ => ?_) (fun _ => ?_)
  · refine v_bipush (-2) 40 hF dX4_tell_38 rfl (by decide) ?_
    exact v_iret hF dX4_tell_40
  · refine v_iload_n 2 12 hF dX4_tell_11 rfl rfl rfl ?_
    refine v_if_lt 15 38 hF dX4_tell_12 rfl (by decide) (fun _ => ?_) (fun _ => ?_)
    · refine v_bipush (-2) 40 hF dX4_tell_38 rfl (by decide) ?_
      exact v_iret hF dX4_tell_40
    · refine v_iload_n 2 16 hF dX4_tell_15 rfl rfl rfl ?_
      refine v_iconst (1) 17 hF dX4_tell_16 rfl (by decide) ?_
      refine v_aload_n 0 18 hF dX4_tell_17 rfl rfl rfl ?_
      refine v_getR (b := 7) 21 hF dX4_tell_18 rfl fl_X4_38 hs.1 rfl ?_
      refine v_getI 24 hF dX4_tell_21 rfl fl_X4_196 hs.2.2.2.1.1 rfl ?_
      refine v_ishl 25 hF dX4_tell_24 rfl ?_
      refine v_icmp_ge 28 38 hF dX4_tell_25 rfl (by decide) (fun _ => ?_) (fun _ => ?_)
      · refine v_bipush (-2) 40 hF dX4_tell_38 rfl (by decide) ?_
        exact v_iret hF dX4_tell_40
      · refine v_iload_n 3 29 hF dX4_tell_28 rfl rfl rfl ?_
        refine v_if_lt 32 38 hF dX4_tell_29 rfl (by decide) (fun _ => ?_) (fun _ => ?_)
        · refine v_bipush (-2) 40 hF dX4_tell_38 rfl (by decide) ?_
          exact v_iret hF dX4_tell_40
        · refine v_iload_n 3 33 hF dX4_tell_32 rfl rfl rfl ?_
          refine v_bipush (20) 35 hF dX4_tell_33 rfl (by decide) ?_
          refine v_icmp_le 38 41 hF dX4_tell_35 rfl (by decide) (fun _ => ?_) (fun _ => ?_)
          · refine v_aload_n 0 42 hF dX4_tell_41 rfl rfl rfl ?_
            refine v_getR (b := 7) 45 hF dX4_tell_42 rfl fl_X4_38 hs.1 rfl ?_
            refine v_callI ([]) ([]) 48 hF dX4_tell_45 rfl cw_X4_210 rfl (hs.2.2.2.1.1) (c_X3_hasRoom (G := G) (hs.2.1) (hs.2.2.2.1) M7) ⟨rfl, rfl, Nat.le_of_ble_eq_true rfl, Nat.le_of_ble_eq_true rfl⟩ rfl rfl (Nat.le_of_ble_eq_true rfl) (fun r10 M9 => ?_)
            refine v_if_ne 51 54 hF dX4_tell_48 rfl (by decide) (fun _ => ?_) (fun _ => ?_)
            · refine v_iconst (0) 55 hF dX4_tell_54 rfl (by decide) ?_
              refine v_istore (lo' := fun y11 => [(4, .int y11), (0, .ref (G.2.2.2.2 0)), (1, .int x1), (2, .int x2), (3, .int x3)]) 57 hF dX4_tell_55 rfl (by decide) (fun _ => rfl) (fun y11 => ?_)
              refine VR.pick [1, 2, 3, 4, 0] rfl ?_
              exact v_X4_tell_L57 hF hs FU x1 x2 x3 y11 M9
            · refine v_bipush (-4) 53 hF dX4_tell_51 rfl (by decide) ?_
              exact v_iret hF dX4_tell_53
          · refine v_bipush (-2) 40 hF dX4_tell_38 rfl (by decide) ?_
            exact v_iret hF dX4_tell_40
abbrev rmX4_inLowestTerms : Room := { frames := 0, cells := 0, slots := 0, locals := 0 }
def m_X4_inLowestTerms_J39 (x0 : Int32) (x1 : Int32) (x2 : Int32) (x3 : Int32) (M : Mm) : Option (Int64 × Mm) := if x3 = 0 then (some ((-4611686018427387904 : Int64), M)) else (if x2 = 0 then (gd (!(decide (x3 = 0))) (some ((((x0 / x3)).toInt64), M))) else (gd (!(decide (x3 = 0))) (some ((((x1 / x3)).toInt64), M))))
def m_X4_inLowestTerms_B8 (n8 : Int32 → Int32 → Int32 → Int32 → Int32 → Int32 → Mm → Option (Int64 × Mm)) (x0 : Int32) (x1 : Int32) (x2 : Int32) (x3 : Int32) (x4 : Int32) (x5 : Int32) (M : Mm) : Option (Int64 × Mm) := if (64 : Int32) ≤ x5 then (m_X4_inLowestTerms_J39 x0 x1 x2 x3 M) else (if x4 = 0 then (m_X4_inLowestTerms_J39 x0 x1 x2 x3 M) else (gd (!(decide (x4 = 0))) (lt1 ((irm x3 x4)) fun y1 => lt1 x4 fun y2 => lt1 y1 fun y3 => lt1 (x5 + 1) fun y4 => n8 x0 x1 x2 y2 y3 y4 M)))
def m_X4_inLowestTerms_L8 : Nat → Int32 → Int32 → Int32 → Int32 → Int32 → Int32 → Mm → Option (Int64 × Mm)
  | 0 => fun _ _ _ _ _ _ _ => none
  | n + 1 => m_X4_inLowestTerms_B8  (m_X4_inLowestTerms_L8  n)
def m_X4_inLowestTerms (x0 : Int32) (x1 : Int32) (x2 : Int32) (M : Mm) : Option (Int64 × Mm) := lt1 x0 fun y5 => lt1 x1 fun y6 => lt1 ((0 : Int32)) fun y7 => m_X4_inLowestTerms_L8 FU x0 x1 x2 y5 y6 y7 M
set_option maxRecDepth 100000 in
set_option maxHeartbeats 4000000 in
theorem v_X4_inLowestTerms_J39 {X : Cx} {G : Gx} {sh : List Sh} (hF : FX X G sh 7 cX4_inLowestTerms (yX4_inLowestTerms).cls (some .long) rmX4_inLowestTerms) : ∀ (x0 : Int32) (x1 : Int32) (x2 : Int32) (x3 : Int32) (M : Mm), VR X G sh 7 rvJ M 39 [(0, .int x0), (1, .int x1), (2, .int x2), (3, .int x3)] [] (m_X4_inLowestTerms_J39  x0 x1 x2 x3 M) := by
  intro x0 x1 x2 x3 M
  unfold m_X4_inLowestTerms_J39
  refine v_iload_n 3 40 hF dX4_inLowestTerms_39 rfl rfl rfl ?_
  refine v_if_ne 43 47 hF dX4_inLowestTerms_40 rfl (by decide) (fun _ => ?_) (fun _ => ?_)
  · refine v_iload_n 2 48 hF dX4_inLowestTerms_47 rfl rfl rfl ?_
    refine v_if_ne 51 58 hF dX4_inLowestTerms_48 rfl (by decide) (fun _ => ?_) (fun _ => ?_)
    · refine v_iload_n 1 59 hF dX4_inLowestTerms_58 rfl rfl rfl ?_
      refine v_iload_n 3 60 hF dX4_inLowestTerms_59 rfl rfl rfl ?_
      refine v_idiv 61 hF dX4_inLowestTerms_60 rfl ?_
      refine v_i2l 62 hF dX4_inLowestTerms_61 rfl ?_
      exact v_lret hF dX4_inLowestTerms_62
    · refine v_iload_n 0 52 hF dX4_inLowestTerms_51 rfl rfl rfl ?_
      refine v_iload_n 3 53 hF dX4_inLowestTerms_52 rfl rfl rfl ?_
      refine v_idiv 54 hF dX4_inLowestTerms_53 rfl ?_
      refine v_i2l 55 hF dX4_inLowestTerms_54 rfl ?_
      refine v_goto 62 hF dX4_inLowestTerms_55 (by decide) ?_
      exact v_lret hF dX4_inLowestTerms_62
  · refine v_ldc2 (-4611686018427387904) 46 hF dX4_inLowestTerms_43 rfl cc_X4_214 ?_
    exact v_lret hF dX4_inLowestTerms_46
set_option maxRecDepth 100000 in
set_option maxHeartbeats 4000000 in
theorem v_X4_inLowestTerms_B8 {X : Cx} {G : Gx} {sh : List Sh} (hF : FX X G sh 7 cX4_inLowestTerms (yX4_inLowestTerms).cls (some .long) rmX4_inLowestTerms) (n8 : Int32 → Int32 → Int32 → Int32 → Int32 → Int32 → Mm → Option (Int64 × Mm)) (h8 : ∀ (x0 : Int32) (x1 : Int32) (x2 : Int32) (x3 : Int32) (x4 : Int32) (x5 : Int32) (M : Mm), VR X G sh 7 rvJ M 8 [(0, .int x0), (1, .int x1), (2, .int x2), (3, .int x3), (4, .int x4), (5, .int x5)] [] (n8 x0 x1 x2 x3 x4 x5 M)) : ∀ (x0 : Int32) (x1 : Int32) (x2 : Int32) (x3 : Int32) (x4 : Int32) (x5 : Int32) (M : Mm), VR X G sh 7 rvJ M 8 [(0, .int x0), (1, .int x1), (2, .int x2), (3, .int x3), (4, .int x4), (5, .int x5)] [] (m_X4_inLowestTerms_B8  n8 x0 x1 x2 x3 x4 x5 M) := by
  intro x0 x1 x2 x3 x4 x5 M
  unfold m_X4_inLowestTerms_B8
  refine v_iload 5 10 hF dX4_inLowestTerms_8 rfl rfl ?_
  refine v_bipush (64) 12 hF dX4_inLowestTerms_10 rfl (by decide) ?_
  refine v_icmp_ge 15 39 hF dX4_inLowestTerms_12 rfl (by decide) (fun _ => ?_) (fun _ => ?_)
  · refine VR.pick [0, 1, 2, 3] rfl ?_
    exact v_X4_inLowestTerms_J39 hF x0 x1 x2 x3 M
  · refine v_iload 4 17 hF dX4_inLowestTerms_15 rfl rfl ?_
    refine v_if_eq 20 39 hF dX4_inLowestTerms_17 rfl (by decide) (fun _ => ?_) (fun _ => ?_)
    · refine VR.pick [0, 1, 2, 3] rfl ?_
      exact v_X4_inLowestTerms_J39 hF x0 x1 x2 x3 M
    · refine v_iload_n 3 21 hF dX4_inLowestTerms_20 rfl rfl rfl ?_
      refine v_iload 4 23 hF dX4_inLowestTerms_21 rfl rfl ?_
      refine v_irem 24 hF dX4_inLowestTerms_23 rfl ?_
      refine v_istore (lo' := fun y1 => [(6, .int y1), (0, .int x0), (1, .int x1), (2, .int x2), (3, .int x3), (4, .int x4), (5, .int x5)]) 26 hF dX4_inLowestTerms_24 rfl (by decide) (fun _ => rfl) (fun y1 => ?_)
      refine v_iload 5 28 hF dX4_inLowestTerms_26 rfl rfl ?_
      refine v_istore_n (lo' := fun y2 => [(3, .int y2), (6, .int y1), (0, .int x0), (1, .int x1), (2, .int x2), (4, .int x4), (5, .int x5)]) 29 hF dX4_inLowestTerms_28 rfl rfl (by decide) (fun _ => rfl) (fun y2 => ?_)
      refine v_iload 1 31 hF dX4_inLowestTerms_29 rfl rfl ?_
      refine v_istore (lo' := fun y3 => [(4, .int y3), (3, .int y2), (6, .int y1), (0, .int x0), (1, .int x1), (2, .int x2), (5, .int x5)]) 33 hF dX4_inLowestTerms_31 rfl (by decide) (fun _ => rfl) (fun y3 => ?_)
      refine v_iinc (v := (x5 + 1)) (lo' := fun y4 => [(5, .int y4), (4, .int y3), (3, .int y2), (6, .int y1), (0, .int x0), (1, .int x1), (2, .int x2)]) 6 36 hF dX4_inLowestTerms_33 rfl rfl rfl (by decide) (fun _ => rfl) (fun y4 => ?_)
      refine v_goto 8 hF dX4_inLowestTerms_36 (by decide) ?_
      refine VR.pick [4, 5, 6, 2, 1, 0] rfl ?_
      exact h8 x0 x1 x2 y2 y3 y4 M
theorem v_X4_inLowestTerms_L8 {X : Cx} {G : Gx} {sh : List Sh} (hF : FX X G sh 7 cX4_inLowestTerms (yX4_inLowestTerms).cls (some .long) rmX4_inLowestTerms) : ∀ (n : Nat), ∀ (x0 : Int32) (x1 : Int32) (x2 : Int32) (x3 : Int32) (x4 : Int32) (x5 : Int32) (M : Mm), VR X G sh 7 rvJ M 8 [(0, .int x0), (1, .int x1), (2, .int x2), (3, .int x3), (4, .int x4), (5, .int x5)] [] (m_X4_inLowestTerms_L8  n x0 x1 x2 x3 x4 x5 M) := by
  intro n
  induction n with
  | zero => intro x0 x1 x2 x3 x4 x5 M; exact VR.none
  | succ n ih => exact v_X4_inLowestTerms_B8 hF  _ ih
set_option maxRecDepth 100000 in
set_option maxHeartbeats 4000000 in
theorem c_X4_inLowestTerms {G : Gx} {sh : List Sh} (M : Mm) (x0 : Int32) (x1 : Int32) (x2 : Int32) : CT yX4_inLowestTerms cX4_inLowestTerms 7 (some .long) rmX4_inLowestTerms G sh [.int x0, .int x1, .int x2] rvJ M (m_X4_inLowestTerms  x0 x1 x2 M) := by
  refine CT.of (by decide +kernel) (Nat.le_of_ble_eq_true rfl) (fun X hF => ?_)
  show VR X G sh 7 rvJ M 0 [(0, .int x0), (1, .int x1), (2, .int x2)] [] _
  unfold m_X4_inLowestTerms
  refine v_iload_n 0 1 hF dX4_inLowestTerms_0 rfl rfl rfl ?_
  refine v_istore_n (lo' := fun y5 => [(3, .int y5), (0, .int x0), (1, .int x1), (2, .int x2)]) 2 hF dX4_inLowestTerms_1 rfl rfl (by decide) (fun _ => rfl) (fun y5 => ?_)
  refine v_iload_n 2 3 hF dX4_inLowestTerms_2 rfl rfl rfl ?_
  refine v_istore (lo' := fun y6 => [(4, .int y6), (3, .int y5), (0, .int x0), (1, .int x1), (2, .int x2)]) 5 hF dX4_inLowestTerms_3 rfl (by decide) (fun _ => rfl) (fun y6 => ?_)
  refine v_iconst (0) 6 hF dX4_inLowestTerms_5 rfl (by decide) ?_
  refine v_istore (lo' := fun y7 => [(5, .int y7), (4, .int y6), (3, .int y5), (0, .int x0), (1, .int x1), (2, .int x2)]) 8 hF dX4_inLowestTerms_6 rfl (by decide) (fun _ => rfl) (fun y7 => ?_)
  refine VR.pick [3, 4, 5, 2, 1, 0] rfl ?_
  exact v_X4_inLowestTerms_L8 hF FU x0 x1 x2 y5 y6 y7 M
abbrev rmX4_mean : Room := { frames := 2, cells := 0, slots := 0, locals := 42 }
def m_X4_mean_B27 (n27 : Int32 → Int32 → Int32 → Mm → Option (Int64 × Mm)) (x1 : Int32) (x2 : Int32) (x3 : Int32) (M : Mm) : Option (Int64 × Mm) := if (M 7 5) ≤ x3 then (bd (m_X4_inLowestTerms x2 ((M 7 5)) x1 M) fun r2 M1 => some (r2, M1)) else (bd (m_X3_toneOf 7 x3 M) fun r4 M3 => lt1 ((x2 + r4)) fun y5 => lt1 (x3 + 1) fun y6 => n27 x1 y5 y6 M3)
def m_X4_mean_L27 : Nat → Int32 → Int32 → Int32 → Mm → Option (Int64 × Mm)
  | 0 => fun _ _ _ _ => none
  | n + 1 => m_X4_mean_B27  (m_X4_mean_L27  n)
def m_X4_mean (x1 : Int32) (M : Mm) : Option (Int64 × Mm) := if x1 < 0 then (some ((-4611686018427387904 : Int64), M)) else (if (1 : Int32) < x1 then (some ((-4611686018427387904 : Int64), M)) else (if (M 7 5) = 0 then (some ((-4611686018427387904 : Int64), M)) else (lt1 ((0 : Int32)) fun y7 => lt1 ((0 : Int32)) fun y8 => m_X4_mean_L27 FU x1 y7 y8 M)))
set_option maxRecDepth 100000 in
set_option maxHeartbeats 4000000 in
theorem v_X4_mean_B27 {X : Cx} {G : Gx} {sh : List Sh} (hF : FX X G sh 4 cX4_mean (yX4_mean).cls (some .long) rmX4_mean) (hs : TopAt sh) (n27 : Int32 → Int32 → Int32 → Mm → Option (Int64 × Mm)) (h27 : ∀ (x1 : Int32) (x2 : Int32) (x3 : Int32) (M : Mm), VR X G sh 4 rvJ M 27 [(0, .ref (G.2.2.2.2 0)), (1, .int x1), (2, .int x2), (3, .int x3)] [] (n27 x1 x2 x3 M)) : ∀ (x1 : Int32) (x2 : Int32) (x3 : Int32) (M : Mm), VR X G sh 4 rvJ M 27 [(0, .ref (G.2.2.2.2 0)), (1, .int x1), (2, .int x2), (3, .int x3)] [] (m_X4_mean_B27  n27 x1 x2 x3 M) := by
  intro x1 x2 x3 M
  unfold m_X4_mean_B27
  refine v_iload_n 3 28 hF dX4_mean_27 rfl rfl rfl ?_
  refine v_aload_n 0 29 hF dX4_mean_28 rfl rfl rfl ?_
  refine v_getR (b := 7) 32 hF dX4_mean_29 rfl fl_X4_38 hs.1 rfl ?_
  refine v_getI 35 hF dX4_mean_32 rfl fl_X4_211 hs.2.2.2.1.1 rfl ?_
  refine v_icmp_ge 38 55 hF dX4_mean_35 rfl (by decide) (fun _ => ?_) (fun _ => ?_)
  · refine v_iload_n 2 56 hF dX4_mean_55 rfl rfl rfl ?_
    refine v_aload_n 0 57 hF dX4_mean_56 rfl rfl rfl ?_
    refine v_getR (b := 7) 60 hF dX4_mean_57 rfl fl_X4_38 hs.1 rfl ?_
    refine v_getI 63 hF dX4_mean_60 rfl fl_X4_211 hs.2.2.2.1.1 rfl ?_
    refine v_iload_n 1 64 hF dX4_mean_63 rfl rfl rfl ?_
    refine v_staJ ([.int x2, .int ((M 7 5)), .int x1]) ([]) 67 hF dX4_mean_64 rfl cw_X4_216 (c_X4_inLowestTerms (G := G) (sh := sh) M x2 ((M 7 5)) x1) ⟨rfl, rfl, Nat.le_of_ble_eq_true rfl, Nat.le_of_ble_eq_true rfl⟩ rfl rfl (Nat.le_of_ble_eq_true rfl) (fun r2 M1 => ?_)
    exact v_lret hF dX4_mean_67
  · refine v_iload_n 2 39 hF dX4_mean_38 rfl rfl rfl ?_
    refine v_aload_n 0 40 hF dX4_mean_39 rfl rfl rfl ?_
    refine v_getR (b := 7) 43 hF dX4_mean_40 rfl fl_X4_38 hs.1 rfl ?_
    refine v_iload_n 3 44 hF dX4_mean_43 rfl rfl rfl ?_
    refine v_callI ([.int x3]) ([.int x2]) 47 hF dX4_mean_44 rfl cw_X4_129 rfl (hs.2.2.2.1.1) (c_X3_toneOf (G := G) (hs.2.1) (hs.2.2.2.1) M x3) ⟨rfl, rfl, Nat.le_of_ble_eq_true rfl, Nat.le_of_ble_eq_true rfl⟩ rfl rfl (Nat.le_of_ble_eq_true rfl) (fun r4 M3 => ?_)
    refine v_iadd 48 hF dX4_mean_47 rfl ?_
    refine v_istore_n (lo' := fun y5 => [(2, .int y5), (0, .ref (G.2.2.2.2 0)), (1, .int x1), (3, .int x3)]) 49 hF dX4_mean_48 rfl rfl (by decide) (fun _ => rfl) (fun y5 => ?_)
    refine v_iinc (v := (x3 + 1)) (lo' := fun y6 => [(3, .int y6), (2, .int y5), (0, .ref (G.2.2.2.2 0)), (1, .int x1)]) 3 52 hF dX4_mean_49 rfl rfl rfl (by decide) (fun _ => rfl) (fun y6 => ?_)
    refine v_goto 27 hF dX4_mean_52 (by decide) ?_
    refine VR.pick [2, 3, 1, 0] rfl ?_
    exact h27 x1 y5 y6 M3
theorem v_X4_mean_L27 {X : Cx} {G : Gx} {sh : List Sh} (hF : FX X G sh 4 cX4_mean (yX4_mean).cls (some .long) rmX4_mean) (hs : TopAt sh) : ∀ (n : Nat), ∀ (x1 : Int32) (x2 : Int32) (x3 : Int32) (M : Mm), VR X G sh 4 rvJ M 27 [(0, .ref (G.2.2.2.2 0)), (1, .int x1), (2, .int x2), (3, .int x3)] [] (m_X4_mean_L27  n x1 x2 x3 M) := by
  intro n
  induction n with
  | zero => intro x1 x2 x3 M; exact VR.none
  | succ n ih => exact v_X4_mean_B27 hF hs _ ih
set_option maxRecDepth 100000 in
set_option maxHeartbeats 4000000 in
theorem c_X4_mean {G : Gx} {sh : List Sh} (hs : TopAt sh) (M : Mm) (x1 : Int32) : CT yX4_mean cX4_mean 4 (some .long) rmX4_mean G sh [.ref (G.2.2.2.2 0), .int x1] rvJ M (m_X4_mean  x1 M) := by
  refine CT.of (by decide +kernel) (Nat.le_of_ble_eq_true rfl) (fun X hF => ?_)
  show VR X G sh 4 rvJ M 0 [(0, .ref (G.2.2.2.2 0)), (1, .int x1)] [] _
  unfold m_X4_mean
  refine v_iload_n 1 1 hF dX4_mean_0 rfl rfl rfl ?_
  refine v_if_lt 4 19 hF dX4_mean_1 rfl (by decide) (fun _ => ?_) (fun _ => ?_)
  · refine v_ldc2 (-4611686018427387904) 22 hF dX4_mean_19 rfl cc_X4_214 ?_
    exact v_lret hF dX4_mean_22
  · refine v_iload_n 1 5 hF dX4_mean_4 rfl rfl rfl ?_
    refine v_iconst (1) 6 hF dX4_mean_5 rfl (by decide) ?_
    refine v_icmp_gt 9 19 hF dX4_mean_6 rfl (by decide) (fun _ => ?_) (fun _ => ?_)
    · refine v_ldc2 (-4611686018427387904) 22 hF dX4_mean_19 rfl cc_X4_214 ?_
      exact v_lret hF dX4_mean_22
    · refine v_aload_n 0 10 hF dX4_mean_9 rfl rfl rfl ?_
      refine v_getR (b := 7) 13 hF dX4_mean_10 rfl fl_X4_38 hs.1 rfl ?_
      refine v_getI 16 hF dX4_mean_13 rfl fl_X4_211 hs.2.2.2.1.1 rfl ?_
      refine v_if_ne 19 23 hF dX4_mean_16 rfl (by decide) (fun _ => ?_) (fun _ => ?_)
      · refine v_iconst (0) 24 hF dX4_mean_23 rfl (by decide) ?_
        refine v_istore_n (lo' := fun y7 => [(2, .int y7), (0, .ref (G.2.2.2.2 0)), (1, .int x1)]) 25 hF dX4_mean_24 rfl rfl (by decide) (fun _ => rfl) (fun y7 => ?_)
        refine v_iconst (0) 26 hF dX4_mean_25 rfl (by decide) ?_
        refine v_istore_n (lo' := fun y8 => [(3, .int y8), (2, .int y7), (0, .ref (G.2.2.2.2 0)), (1, .int x1)]) 27 hF dX4_mean_26 rfl rfl (by decide) (fun _ => rfl) (fun y8 => ?_)
        refine VR.pick [2, 3, 1, 0] rfl ?_
        exact v_X4_mean_L27 hF hs FU x1 y7 y8 M
      · refine v_ldc2 (-4611686018427387904) 22 hF dX4_mean_19 rfl cc_X4_214 ?_
        exact v_lret hF dX4_mean_22
abbrev rmX4_allSo : Room := { frames := 6, cells := 0, slots := 0, locals := 144 }
def m_X4_allSo_J109 (w : Nat) (n6 : Int32 → Int32 → Int32 → Int32 → Int32 → Int32 → Mm → Option (Int32 × Mm)) (x2 : Int32) (x3 : Int32) (x4 : Int32) (x5 : Int32) (x6 : Int32) (x7 : Int32) (M : Mm) : Option (Int32 × Mm) := lt1 (x7 + 1) fun y1 => n6 x2 x3 x4 x5 x6 y1 M
def m_X4_allSo_J87 (w : Nat) (n6 : Int32 → Int32 → Int32 → Int32 → Int32 → Int32 → Mm → Option (Int32 × Mm)) (x2 : Int32) (x3 : Int32) (x4 : Int32) (x5 : Int32) (x6 : Int32) (x7 : Int32) (M : Mm) : Option (Int32 × Mm) := bd (m_X3_firstOtherwise 16 w x2 M) fun r3 M2 => if r3 = (-1 : Int32) then (lt1 ((x6 ||| (shl ((1 : Int32)) x7))) fun y4 => m_X4_allSo_J109 w n6 x2 x3 x4 x5 y4 x7 M2) else (m_X4_allSo_J109 w n6 x2 x3 x4 x5 x6 x7 M2)
def m_X4_allSo_B6 (w : Nat) (n6 : Int32 → Int32 → Int32 → Int32 → Int32 → Int32 → Mm → Option (Int32 × Mm)) (x2 : Int32) (x3 : Int32) (x4 : Int32) (x5 : Int32) (x6 : Int32) (x7 : Int32) (M : Mm) : Option (Int32 × Mm) := if x5 ≤ x7 then (some (x6, M)) else (bd (m_X3_takeOver 16 7 M) fun _ M5 => if x4 = (1) then (bd (m_X3_changeKind 16 x3 x7 M5) fun _ M6 => m_X4_allSo_J87 w n6 x2 x3 x4 x5 x6 x7 M6) else (if x4 = (2) then (bd (m_X3_changeNumber 16 x3 x7 M5) fun _ M7 => m_X4_allSo_J87 w n6 x2 x3 x4 x5 x6 x7 M7) else (lt1 (up M5 16 3 x7) fun M8 => m_X4_allSo_J87 w n6 x2 x3 x4 x5 x6 x7 M8)))
def m_X4_allSo_L6 (w : Nat) : Nat → Int32 → Int32 → Int32 → Int32 → Int32 → Int32 → Mm → Option (Int32 × Mm)
  | 0 => fun _ _ _ _ _ _ _ => none
  | n + 1 => m_X4_allSo_B6 w (m_X4_allSo_L6 w n)
def m_X4_allSo (w : Nat) (x2 : Int32) (x3 : Int32) (x4 : Int32) (x5 : Int32) (M : Mm) : Option (Int32 × Mm) := lt1 ((0 : Int32)) fun y9 => lt1 ((0 : Int32)) fun y10 => m_X4_allSo_L6 w FU x2 x3 x4 x5 y9 y10 M
set_option maxRecDepth 100000 in
set_option maxHeartbeats 4000000 in
theorem v_X4_allSo_J109 {X : Cx} {G : Gx} {sh : List Sh} (hF : FX X G sh 8 cX4_allSo (yX4_allSo).cls (some .int) rmX4_allSo) {w : Nat} (hs : TopAt sh) (hw : SheAt sh w) (n6 : Int32 → Int32 → Int32 → Int32 → Int32 → Int32 → Mm → Option (Int32 × Mm)) (h6 : ∀ (x2 : Int32) (x3 : Int32) (x4 : Int32) (x5 : Int32) (x6 : Int32) (x7 : Int32) (M : Mm), VR X G sh 8 rvI M 6 [(0, .ref (G.2.2.2.2 0)), (1, .ref (G.2.2.2.2 w)), (2, .int x2), (3, .int x3), (4, .int x4), (5, .int x5), (6, .int x6), (7, .int x7)] [] (n6 x2 x3 x4 x5 x6 x7 M)) : ∀ (x2 : Int32) (x3 : Int32) (x4 : Int32) (x5 : Int32) (x6 : Int32) (x7 : Int32) (M : Mm), VR X G sh 8 rvI M 109 [(0, .ref (G.2.2.2.2 0)), (1, .ref (G.2.2.2.2 w)), (2, .int x2), (3, .int x3), (4, .int x4), (5, .int x5), (6, .int x6), (7, .int x7)] [] (m_X4_allSo_J109 w n6 x2 x3 x4 x5 x6 x7 M) := by
  intro x2 x3 x4 x5 x6 x7 M
  unfold m_X4_allSo_J109
  refine v_iinc (v := (x7 + 1)) (lo' := fun y1 => [(7, .int y1), (0, .ref (G.2.2.2.2 0)), (1, .ref (G.2.2.2.2 w)), (2, .int x2), (3, .int x3), (4, .int x4), (5, .int x5), (6, .int x6)]) 7 112 hF dX4_allSo_109 rfl rfl rfl (by decide) (fun _ => rfl) (fun y1 => ?_)
  refine v_goto 6 hF dX4_allSo_112 (by decide) ?_
  refine VR.pick [1, 2, 3, 4, 5, 6, 7, 0] rfl ?_
  exact h6 x2 x3 x4 x5 x6 y1 M
set_option maxRecDepth 100000 in
set_option maxHeartbeats 4000000 in
theorem v_X4_allSo_J87 {X : Cx} {G : Gx} {sh : List Sh} (hF : FX X G sh 8 cX4_allSo (yX4_allSo).cls (some .int) rmX4_allSo) {w : Nat} (hs : TopAt sh) (hw : SheAt sh w) (n6 : Int32 → Int32 → Int32 → Int32 → Int32 → Int32 → Mm → Option (Int32 × Mm)) (h6 : ∀ (x2 : Int32) (x3 : Int32) (x4 : Int32) (x5 : Int32) (x6 : Int32) (x7 : Int32) (M : Mm), VR X G sh 8 rvI M 6 [(0, .ref (G.2.2.2.2 0)), (1, .ref (G.2.2.2.2 w)), (2, .int x2), (3, .int x3), (4, .int x4), (5, .int x5), (6, .int x6), (7, .int x7)] [] (n6 x2 x3 x4 x5 x6 x7 M)) : ∀ (x2 : Int32) (x3 : Int32) (x4 : Int32) (x5 : Int32) (x6 : Int32) (x7 : Int32) (M : Mm), VR X G sh 8 rvI M 87 [(0, .ref (G.2.2.2.2 0)), (1, .ref (G.2.2.2.2 w)), (2, .int x2), (3, .int x3), (4, .int x4), (5, .int x5), (6, .int x6), (7, .int x7)] [] (m_X4_allSo_J87 w n6 x2 x3 x4 x5 x6 x7 M) := by
  intro x2 x3 x4 x5 x6 x7 M
  unfold m_X4_allSo_J87
  refine v_aload_n 0 88 hF dX4_allSo_87 rfl rfl rfl ?_
  refine v_getR (b := 16) 91 hF dX4_allSo_88 rfl fl_X4_42 hs.1 rfl ?_
  refine v_aload_n 1 92 hF dX4_allSo_91 rfl rfl rfl ?_
  refine v_iload_n 2 93 hF dX4_allSo_92 rfl rfl rfl ?_
  refine v_callI ([.ref (G.2.2.2.2 w), .int x2]) ([]) 96 hF dX4_allSo_93 rfl cw_X4_236 rfl (hs.2.2.2.2.1.1) (c_X3_firstOtherwise (G := G) (hs.2.1) (hs.2.2.2.2.1) hw M x2) ⟨rfl, rfl, Nat.le_of_ble_eq_true rfl, Nat.le_of_ble_eq_true rfl⟩ rfl rfl (Nat.le_of_ble_eq_true rfl) (fun r3 M2 => ?_)
  refine v_iconst (-1) 97 hF dX4_allSo_96 rfl (by decide) ?_
  refine v_icmp_ne 100 109 hF dX4_allSo_97 rfl (by decide) (fun _ => ?_) (fun _ => ?_)
  · refine VR.pick [0, 1, 2, 3, 4, 5, 6, 7] rfl ?_
    exact v_X4_allSo_J109 hF hs hw _ h6 x2 x3 x4 x5 x6 x7 M2
  · refine v_iload 6 102 hF dX4_allSo_100 rfl rfl ?_
    refine v_iconst (1) 103 hF dX4_allSo_102 rfl (by decide) ?_
    refine v_iload 7 105 hF dX4_allSo_103 rfl rfl ?_
    refine v_ishl 106 hF dX4_allSo_105 rfl ?_
    refine v_ior 107 hF dX4_allSo_106 rfl ?_
    refine v_istore (lo' := fun y4 => [(6, .int y4), (0, .ref (G.2.2.2.2 0)), (1, .ref (G.2.2.2.2 w)), (2, .int x2), (3, .int x3), (4, .int x4), (5, .int x5), (7, .int x7)]) 109 hF dX4_allSo_107 rfl (by decide) (fun _ => rfl) (fun y4 => ?_)
    refine VR.pick [1, 2, 3, 4, 5, 6, 0, 7] rfl ?_
    exact v_X4_allSo_J109 hF hs hw _ h6 x2 x3 x4 x5 y4 x7 M2
set_option maxRecDepth 100000 in
set_option maxHeartbeats 4000000 in
theorem v_X4_allSo_B6 {X : Cx} {G : Gx} {sh : List Sh} (hF : FX X G sh 8 cX4_allSo (yX4_allSo).cls (some .int) rmX4_allSo) {w : Nat} (hs : TopAt sh) (hw : SheAt sh w) (n6 : Int32 → Int32 → Int32 → Int32 → Int32 → Int32 → Mm → Option (Int32 × Mm)) (h6 : ∀ (x2 : Int32) (x3 : Int32) (x4 : Int32) (x5 : Int32) (x6 : Int32) (x7 : Int32) (M : Mm), VR X G sh 8 rvI M 6 [(0, .ref (G.2.2.2.2 0)), (1, .ref (G.2.2.2.2 w)), (2, .int x2), (3, .int x3), (4, .int x4), (5, .int x5), (6, .int x6), (7, .int x7)] [] (n6 x2 x3 x4 x5 x6 x7 M)) : ∀ (x2 : Int32) (x3 : Int32) (x4 : Int32) (x5 : Int32) (x6 : Int32) (x7 : Int32) (M : Mm), VR X G sh 8 rvI M 6 [(0, .ref (G.2.2.2.2 0)), (1, .ref (G.2.2.2.2 w)), (2, .int x2), (3, .int x3), (4, .int x4), (5, .int x5), (6, .int x6), (7, .int x7)] [] (m_X4_allSo_B6 w n6 x2 x3 x4 x5 x6 x7 M) := by
  intro x2 x3 x4 x5 x6 x7 M
  unfold m_X4_allSo_B6
  refine v_iload 7 8 hF dX4_allSo_6 rfl rfl ?_
  refine v_iload 5 10 hF dX4_allSo_8 rfl rfl ?_
  refine v_icmp_ge 13 115 hF dX4_allSo_10 rfl (by decide) (fun _ => ?_) (fun _ => ?_)
  · refine v_iload 6 117 hF dX4_allSo_115 rfl rfl ?_
    exact v_iret hF dX4_allSo_117
  · refine v_aload_n 0 14 hF dX4_allSo_13 rfl rfl rfl ?_
    refine v_getR (b := 16) 17 hF dX4_allSo_14 rfl fl_X4_42 hs.1 rfl ?_
    refine v_aload_n 0 18 hF dX4_allSo_17 rfl rfl rfl ?_
    refine v_getR (b := 7) 21 hF dX4_allSo_18 rfl fl_X4_38 hs.1 rfl ?_
    refine v_callV ([.ref (G.2.2.2.2 7)]) ([]) 24 hF dX4_allSo_21 rfl cw_X4_167 rfl (hs.2.2.2.2.1.1) (c_X3_takeOver (G := G) (hs.2.1) (hs.2.2.2.2.1) (hs.2.2.2.1) M) ⟨rfl, rfl, Nat.le_of_ble_eq_true rfl, Nat.le_of_ble_eq_true rfl⟩ rfl rfl (Nat.le_of_ble_eq_true rfl) (fun _ M5 => ?_)
    refine v_iload 4 26 hF dX4_allSo_24 rfl rfl ?_
    refine v_ite (fun e1 => ?_) (fun n0 => ?_)
    · refine v_lks (26) 52 hF dX4_allSo_26 (by decide) (by rw [e1]; decide) (by decide) ?_
      refine v_aload_n 0 53 hF dX4_allSo_52 rfl rfl rfl ?_
      refine v_getR (b := 16) 56 hF dX4_allSo_53 rfl fl_X4_42 hs.1 rfl ?_
      refine v_iload_n 3 57 hF dX4_allSo_56 rfl rfl rfl ?_
      refine v_iload 7 59 hF dX4_allSo_57 rfl rfl ?_
      refine v_callV ([.int x3, .int x7]) ([]) 62 hF dX4_allSo_59 rfl cw_X4_265 rfl (hs.2.2.2.2.1.1) (c_X3_changeKind (G := G) (hs.2.1) (hs.2.2.2.2.1) M5 x3 x7) ⟨rfl, rfl, Nat.le_of_ble_eq_true rfl, Nat.le_of_ble_eq_true rfl⟩ rfl rfl (Nat.le_of_ble_eq_true rfl) (fun _ M6 => ?_)
      refine v_goto 87 hF dX4_allSo_62 (by decide) ?_
      refine VR.pick [0, 1, 2, 3, 4, 5, 6, 7] rfl ?_
      exact v_X4_allSo_J87 hF hs hw _ h6 x2 x3 x4 x5 x6 x7 M6
    · refine v_ite (fun e1 => ?_) (fun n1 => ?_)
      · refine v_lks (39) 65 hF dX4_allSo_26 (by decide) (by rw [e1]; decide) (by decide) ?_
        refine v_aload_n 0 66 hF dX4_allSo_65 rfl rfl rfl ?_
        refine v_getR (b := 16) 69 hF dX4_allSo_66 rfl fl_X4_42 hs.1 rfl ?_
        refine v_iload_n 3 70 hF dX4_allSo_69 rfl rfl rfl ?_
        refine v_iload 7 72 hF dX4_allSo_70 rfl rfl ?_
        refine v_callV ([.int x3, .int x7]) ([]) 75 hF dX4_allSo_72 rfl cw_X4_74 rfl (hs.2.2.2.2.1.1) (c_X3_changeNumber (G := G) (hs.2.1) (hs.2.2.2.2.1) M5 x3 x7) ⟨rfl, rfl, Nat.le_of_ble_eq_true rfl, Nat.le_of_ble_eq_true rfl⟩ rfl rfl (Nat.le_of_ble_eq_true rfl) (fun _ M7 => ?_)
        refine v_goto 87 hF dX4_allSo_75 (by decide) ?_
        refine VR.pick [0, 1, 2, 3, 4, 5, 6, 7] rfl ?_
        exact v_X4_allSo_J87 hF hs hw _ h6 x2 x3 x4 x5 x6 x7 M7
      · refine v_lks (52) 78 hF dX4_allSo_26 (by decide) ((lv_osw n0 (by decide)).trans ((lv_osw n1 (by decide)).trans rfl)) (by decide) ?_
        refine v_aload_n 0 79 hF dX4_allSo_78 rfl rfl rfl ?_
        refine v_getR (b := 16) 82 hF dX4_allSo_79 rfl fl_X4_42 hs.1 rfl ?_
        refine v_iload 7 84 hF dX4_allSo_82 rfl rfl ?_
        refine v_putI 87 hF dX4_allSo_84 rfl fl_X4_158 fp_X3_3 hs.2.2.2.2.1.1 rfl (fun M8 => ?_)
        refine VR.pick [0, 1, 2, 3, 4, 5, 6, 7] rfl ?_
        exact v_X4_allSo_J87 hF hs hw _ h6 x2 x3 x4 x5 x6 x7 M8
theorem v_X4_allSo_L6 {X : Cx} {G : Gx} {sh : List Sh} (hF : FX X G sh 8 cX4_allSo (yX4_allSo).cls (some .int) rmX4_allSo) {w : Nat} (hs : TopAt sh) (hw : SheAt sh w) : ∀ (n : Nat), ∀ (x2 : Int32) (x3 : Int32) (x4 : Int32) (x5 : Int32) (x6 : Int32) (x7 : Int32) (M : Mm), VR X G sh 8 rvI M 6 [(0, .ref (G.2.2.2.2 0)), (1, .ref (G.2.2.2.2 w)), (2, .int x2), (3, .int x3), (4, .int x4), (5, .int x5), (6, .int x6), (7, .int x7)] [] (m_X4_allSo_L6 w n x2 x3 x4 x5 x6 x7 M) := by
  intro n
  induction n with
  | zero => intro x2 x3 x4 x5 x6 x7 M; exact VR.none
  | succ n ih => exact v_X4_allSo_B6 hF hs hw _ ih
set_option maxRecDepth 100000 in
set_option maxHeartbeats 4000000 in
theorem c_X4_allSo {G : Gx} {sh : List Sh} {w : Nat} (hs : TopAt sh) (hw : SheAt sh w) (M : Mm) (x2 : Int32) (x3 : Int32) (x4 : Int32) (x5 : Int32) : CT yX4_allSo cX4_allSo 8 (some .int) rmX4_allSo G sh [.ref (G.2.2.2.2 0), .ref (G.2.2.2.2 w), .int x2, .int x3, .int x4, .int x5] rvI M (m_X4_allSo w x2 x3 x4 x5 M) := by
  refine CT.of (by decide +kernel) (Nat.le_of_ble_eq_true rfl) (fun X hF => ?_)
  show VR X G sh 8 rvI M 0 [(0, .ref (G.2.2.2.2 0)), (1, .ref (G.2.2.2.2 w)), (2, .int x2), (3, .int x3), (4, .int x4), (5, .int x5)] [] _
  unfold m_X4_allSo
  refine v_iconst (0) 1 hF dX4_allSo_0 rfl (by decide) ?_
  refine v_istore (lo' := fun y9 => [(6, .int y9), (0, .ref (G.2.2.2.2 0)), (1, .ref (G.2.2.2.2 w)), (2, .int x2), (3, .int x3), (4, .int x4), (5, .int x5)]) 3 hF dX4_allSo_1 rfl (by decide) (fun _ => rfl) (fun y9 => ?_)
  refine v_iconst (0) 4 hF dX4_allSo_3 rfl (by decide) ?_
  refine v_istore (lo' := fun y10 => [(7, .int y10), (6, .int y9), (0, .ref (G.2.2.2.2 0)), (1, .ref (G.2.2.2.2 w)), (2, .int x2), (3, .int x3), (4, .int x4), (5, .int x5)]) 6 hF dX4_allSo_4 rfl (by decide) (fun _ => rfl) (fun y10 => ?_)
  refine VR.pick [2, 3, 4, 5, 6, 7, 1, 0] rfl ?_
  exact v_X4_allSo_L6 hF hs hw FU x2 x3 x4 x5 y9 y10 M
abbrev rmX4_daysSo : Room := { frames := 6, cells := 0, slots := 0, locals := 144 }
def m_X4_daysSo_J56 (w : Nat) (n6 : Int32 → Int32 → Int32 → Int32 → Mm → Option (Int32 × Mm)) (x2 : Int32) (x3 : Int32) (x4 : Int32) (x5 : Int32) (M : Mm) : Option (Int32 × Mm) := lt1 (x5 + 1) fun y1 => n6 x2 x3 x4 y1 M
def m_X4_daysSo_B6 (w : Nat) (n6 : Int32 → Int32 → Int32 → Int32 → Mm → Option (Int32 × Mm)) (x2 : Int32) (x3 : Int32) (x4 : Int32) (x5 : Int32) (M : Mm) : Option (Int32 × Mm) := if (100 : Int32) ≤ x5 then (if x3 = 0 then (some (x4, M)) else (some ((-1 : Int32), M))) else (bd (m_X3_takeOver 16 7 M) fun _ M2 => lt1 (up M2 16 1 x5) fun M3 => bd (m_X3_firstOtherwise 16 w x2 M3) fun r5 M4 => if r5 = (-1 : Int32) then (if x3 = 0 then (lt1 (x4 + 1) fun y6 => m_X4_daysSo_J56 w n6 x2 x3 y6 x5 M4) else (some (x5, M4))) else (m_X4_daysSo_J56 w n6 x2 x3 x4 x5 M4))
def m_X4_daysSo_L6 (w : Nat) : Nat → Int32 → Int32 → Int32 → Int32 → Mm → Option (Int32 × Mm)
  | 0 => fun _ _ _ _ _ => none
  | n + 1 => m_X4_daysSo_B6 w (m_X4_daysSo_L6 w n)
def m_X4_daysSo (w : Nat) (x2 : Int32) (x3 : Int32) (M : Mm) : Option (Int32 × Mm) := lt1 ((0 : Int32)) fun y7 => lt1 ((0 : Int32)) fun y8 => m_X4_daysSo_L6 w FU x2 x3 y7 y8 M
set_option maxRecDepth 100000 in
set_option maxHeartbeats 4000000 in
theorem v_X4_daysSo_J56 {X : Cx} {G : Gx} {sh : List Sh} (hF : FX X G sh 6 cX4_daysSo (yX4_daysSo).cls (some .int) rmX4_daysSo) {w : Nat} (hs : TopAt sh) (hw : SheAt sh w) (n6 : Int32 → Int32 → Int32 → Int32 → Mm → Option (Int32 × Mm)) (h6 : ∀ (x2 : Int32) (x3 : Int32) (x4 : Int32) (x5 : Int32) (M : Mm), VR X G sh 6 rvI M 6 [(0, .ref (G.2.2.2.2 0)), (1, .ref (G.2.2.2.2 w)), (2, .int x2), (3, .int x3), (4, .int x4), (5, .int x5)] [] (n6 x2 x3 x4 x5 M)) : ∀ (x2 : Int32) (x3 : Int32) (x4 : Int32) (x5 : Int32) (M : Mm), VR X G sh 6 rvI M 56 [(0, .ref (G.2.2.2.2 0)), (1, .ref (G.2.2.2.2 w)), (2, .int x2), (3, .int x3), (4, .int x4), (5, .int x5)] [] (m_X4_daysSo_J56 w n6 x2 x3 x4 x5 M) := by
  intro x2 x3 x4 x5 M
  unfold m_X4_daysSo_J56
  refine v_iinc (v := (x5 + 1)) (lo' := fun y1 => [(5, .int y1), (0, .ref (G.2.2.2.2 0)), (1, .ref (G.2.2.2.2 w)), (2, .int x2), (3, .int x3), (4, .int x4)]) 5 59 hF dX4_daysSo_56 rfl rfl rfl (by decide) (fun _ => rfl) (fun y1 => ?_)
  refine v_goto 6 hF dX4_daysSo_59 (by decide) ?_
  refine VR.pick [1, 2, 3, 4, 5, 0] rfl ?_
  exact h6 x2 x3 x4 y1 M
set_option maxRecDepth 100000 in
set_option maxHeartbeats 4000000 in
theorem v_X4_daysSo_B6 {X : Cx} {G : Gx} {sh : List Sh} (hF : FX X G sh 6 cX4_daysSo (yX4_daysSo).cls (some .int) rmX4_daysSo) {w : Nat} (hs : TopAt sh) (hw : SheAt sh w) (n6 : Int32 → Int32 → Int32 → Int32 → Mm → Option (Int32 × Mm)) (h6 : ∀ (x2 : Int32) (x3 : Int32) (x4 : Int32) (x5 : Int32) (M : Mm), VR X G sh 6 rvI M 6 [(0, .ref (G.2.2.2.2 0)), (1, .ref (G.2.2.2.2 w)), (2, .int x2), (3, .int x3), (4, .int x4), (5, .int x5)] [] (n6 x2 x3 x4 x5 M)) : ∀ (x2 : Int32) (x3 : Int32) (x4 : Int32) (x5 : Int32) (M : Mm), VR X G sh 6 rvI M 6 [(0, .ref (G.2.2.2.2 0)), (1, .ref (G.2.2.2.2 w)), (2, .int x2), (3, .int x3), (4, .int x4), (5, .int x5)] [] (m_X4_daysSo_B6 w n6 x2 x3 x4 x5 M) := by
  intro x2 x3 x4 x5 M
  unfold m_X4_daysSo_B6
  refine v_iload 5 8 hF dX4_daysSo_6 rfl rfl ?_
  refine v_bipush (100) 10 hF dX4_daysSo_8 rfl (by decide) ?_
  refine v_icmp_ge 13 62 hF dX4_daysSo_10 rfl (by decide) (fun _ => ?_) (fun _ => ?_)
  · refine v_iload_n 3 63 hF dX4_daysSo_62 rfl rfl rfl ?_
    refine v_if_eq 66 70 hF dX4_daysSo_63 rfl (by decide) (fun _ => ?_) (fun _ => ?_)
    · refine v_iload 4 72 hF dX4_daysSo_70 rfl rfl ?_
      exact v_iret hF dX4_daysSo_72
    · refine v_iconst (-1) 67 hF dX4_daysSo_66 rfl (by decide) ?_
      refine v_goto 72 hF dX4_daysSo_67 (by decide) ?_
      exact v_iret hF dX4_daysSo_72
  · refine v_aload_n 0 14 hF dX4_daysSo_13 rfl rfl rfl ?_
    refine v_getR (b := 16) 17 hF dX4_daysSo_14 rfl fl_X4_42 hs.1 rfl ?_
    refine v_aload_n 0 18 hF dX4_daysSo_17 rfl rfl rfl ?_
    refine v_getR (b := 7) 21 hF dX4_daysSo_18 rfl fl_X4_38 hs.1 rfl ?_
    refine v_callV ([.ref (G.2.2.2.2 7)]) ([]) 24 hF dX4_daysSo_21 rfl cw_X4_167 rfl (hs.2.2.2.2.1.1) (c_X3_takeOver (G := G) (hs.2.1) (hs.2.2.2.2.1) (hs.2.2.2.1) M) ⟨rfl, rfl, Nat.le_of_ble_eq_true rfl, Nat.le_of_ble_eq_true rfl⟩ rfl rfl (Nat.le_of_ble_eq_true rfl) (fun _ M2 => ?_)
    refine v_aload_n 0 25 hF dX4_daysSo_24 rfl rfl rfl ?_
    refine v_getR (b := 16) 28 hF dX4_daysSo_25 rfl fl_X4_42 hs.1 rfl ?_
    refine v_iload 5 30 hF dX4_daysSo_28 rfl rfl ?_
    refine v_putI 33 hF dX4_daysSo_30 rfl fl_X4_67 fp_X3_1 hs.2.2.2.2.1.1 rfl (fun M3 => ?_)
    refine v_aload_n 0 34 hF dX4_daysSo_33 rfl rfl rfl ?_
    refine v_getR (b := 16) 37 hF dX4_daysSo_34 rfl fl_X4_42 hs.1 rfl ?_
    refine v_aload_n 1 38 hF dX4_daysSo_37 rfl rfl rfl ?_
    refine v_iload_n 2 39 hF dX4_daysSo_38 rfl rfl rfl ?_
    refine v_callI ([.ref (G.2.2.2.2 w), .int x2]) ([]) 42 hF dX4_daysSo_39 rfl cw_X4_236 rfl (hs.2.2.2.2.1.1) (c_X3_firstOtherwise (G := G) (hs.2.1) (hs.2.2.2.2.1) hw M3 x2) ⟨rfl, rfl, Nat.le_of_ble_eq_true rfl, Nat.le_of_ble_eq_true rfl⟩ rfl rfl (Nat.le_of_ble_eq_true rfl) (fun r5 M4 => ?_)
    refine v_iconst (-1) 43 hF dX4_daysSo_42 rfl (by decide) ?_
    refine v_icmp_ne 46 56 hF dX4_daysSo_43 rfl (by decide) (fun _ => ?_) (fun _ => ?_)
    · refine VR.pick [0, 1, 2, 3, 4, 5] rfl ?_
      exact v_X4_daysSo_J56 hF hs hw _ h6 x2 x3 x4 x5 M4
    · refine v_iload_n 3 47 hF dX4_daysSo_46 rfl rfl rfl ?_
      refine v_if_eq 50 53 hF dX4_daysSo_47 rfl (by decide) (fun _ => ?_) (fun _ => ?_)
      · refine v_iinc (v := (x4 + 1)) (lo' := fun y6 => [(4, .int y6), (0, .ref (G.2.2.2.2 0)), (1, .ref (G.2.2.2.2 w)), (2, .int x2), (3, .int x3), (5, .int x5)]) 4 56 hF dX4_daysSo_53 rfl rfl rfl (by decide) (fun _ => rfl) (fun y6 => ?_)
        refine VR.pick [1, 2, 3, 4, 0, 5] rfl ?_
        exact v_X4_daysSo_J56 hF hs hw _ h6 x2 x3 y6 x5 M4
      · refine v_iload 5 52 hF dX4_daysSo_50 rfl rfl ?_
        exact v_iret hF dX4_daysSo_52
theorem v_X4_daysSo_L6 {X : Cx} {G : Gx} {sh : List Sh} (hF : FX X G sh 6 cX4_daysSo (yX4_daysSo).cls (some .int) rmX4_daysSo) {w : Nat} (hs : TopAt sh) (hw : SheAt sh w) : ∀ (n : Nat), ∀ (x2 : Int32) (x3 : Int32) (x4 : Int32) (x5 : Int32) (M : Mm), VR X G sh 6 rvI M 6 [(0, .ref (G.2.2.2.2 0)), (1, .ref (G.2.2.2.2 w)), (2, .int x2), (3, .int x3), (4, .int x4), (5, .int x5)] [] (m_X4_daysSo_L6 w n x2 x3 x4 x5 M) := by
  intro n
  induction n with
  | zero => intro x2 x3 x4 x5 M; exact VR.none
  | succ n ih => exact v_X4_daysSo_B6 hF hs hw _ ih
set_option maxRecDepth 100000 in
set_option maxHeartbeats 4000000 in
theorem c_X4_daysSo {G : Gx} {sh : List Sh} {w : Nat} (hs : TopAt sh) (hw : SheAt sh w) (M : Mm) (x2 : Int32) (x3 : Int32) : CT yX4_daysSo cX4_daysSo 6 (some .int) rmX4_daysSo G sh [.ref (G.2.2.2.2 0), .ref (G.2.2.2.2 w), .int x2, .int x3] rvI M (m_X4_daysSo w x2 x3 M) := by
  refine CT.of (by decide +kernel) (Nat.le_of_ble_eq_true rfl) (fun X hF => ?_)
  show VR X G sh 6 rvI M 0 [(0, .ref (G.2.2.2.2 0)), (1, .ref (G.2.2.2.2 w)), (2, .int x2), (3, .int x3)] [] _
  unfold m_X4_daysSo
  refine v_iconst (0) 1 hF dX4_daysSo_0 rfl (by decide) ?_
  refine v_istore (lo' := fun y7 => [(4, .int y7), (0, .ref (G.2.2.2.2 0)), (1, .ref (G.2.2.2.2 w)), (2, .int x2), (3, .int x3)]) 3 hF dX4_daysSo_1 rfl (by decide) (fun _ => rfl) (fun y7 => ?_)
  refine v_iconst (0) 4 hF dX4_daysSo_3 rfl (by decide) ?_
  refine v_istore (lo' := fun y8 => [(5, .int y8), (4, .int y7), (0, .ref (G.2.2.2.2 0)), (1, .ref (G.2.2.2.2 w)), (2, .int x2), (3, .int x3)]) 6 hF dX4_daysSo_4 rfl (by decide) (fun _ => rfl) (fun y8 => ?_)
  refine VR.pick [2, 3, 4, 5, 1, 0] rfl ?_
  exact v_X4_daysSo_L6 hF hs hw FU x2 x3 y7 y8 M
abbrev rmX4_lettersSo : Room := { frames := 6, cells := 0, slots := 0, locals := 144 }
def m_X4_lettersSo_J45 (w : Nat) (n4 : Int32 → Int32 → Mm → Option (Int32 × Mm)) (x2 : Int32) (x3 : Int32) (M : Mm) : Option (Int32 × Mm) := lt1 (x3 + 1) fun y1 => n4 x2 y1 M
def m_X4_lettersSo_B4 (w : Nat) (n4 : Int32 → Int32 → Mm → Option (Int32 × Mm)) (x2 : Int32) (x3 : Int32) (M : Mm) : Option (Int32 × Mm) := if (M 7 5) ≤ x3 then (some (x2, M)) else (bd (m_X3_takeOver 16 7 M) fun _ M2 => bd (m_X3_firstOtherwise 16 w x3 M2) fun r4 M3 => if r4 = (-1 : Int32) then (lt1 ((x2 ||| (shl ((1 : Int32)) x3))) fun y5 => m_X4_lettersSo_J45 w n4 y5 x3 M3) else (m_X4_lettersSo_J45 w n4 x2 x3 M3))
def m_X4_lettersSo_L4 (w : Nat) : Nat → Int32 → Int32 → Mm → Option (Int32 × Mm)
  | 0 => fun _ _ _ => none
  | n + 1 => m_X4_lettersSo_B4 w (m_X4_lettersSo_L4 w n)
def m_X4_lettersSo (w : Nat)  (M : Mm) : Option (Int32 × Mm) := lt1 ((0 : Int32)) fun y6 => lt1 ((0 : Int32)) fun y7 => m_X4_lettersSo_L4 w FU y6 y7 M
set_option maxRecDepth 100000 in
set_option maxHeartbeats 4000000 in
theorem v_X4_lettersSo_J45 {X : Cx} {G : Gx} {sh : List Sh} (hF : FX X G sh 4 cX4_lettersSo (yX4_lettersSo).cls (some .int) rmX4_lettersSo) {w : Nat} (hs : TopAt sh) (hw : SheAt sh w) (n4 : Int32 → Int32 → Mm → Option (Int32 × Mm)) (h4 : ∀ (x2 : Int32) (x3 : Int32) (M : Mm), VR X G sh 4 rvI M 4 [(0, .ref (G.2.2.2.2 0)), (1, .ref (G.2.2.2.2 w)), (2, .int x2), (3, .int x3)] [] (n4 x2 x3 M)) : ∀ (x2 : Int32) (x3 : Int32) (M : Mm), VR X G sh 4 rvI M 45 [(0, .ref (G.2.2.2.2 0)), (1, .ref (G.2.2.2.2 w)), (2, .int x2), (3, .int x3)] [] (m_X4_lettersSo_J45 w n4 x2 x3 M) := by
  intro x2 x3 M
  unfold m_X4_lettersSo_J45
  refine v_iinc (v := (x3 + 1)) (lo' := fun y1 => [(3, .int y1), (0, .ref (G.2.2.2.2 0)), (1, .ref (G.2.2.2.2 w)), (2, .int x2)]) 3 48 hF dX4_lettersSo_45 rfl rfl rfl (by decide) (fun _ => rfl) (fun y1 => ?_)
  refine v_goto 4 hF dX4_lettersSo_48 (by decide) ?_
  refine VR.pick [1, 2, 3, 0] rfl ?_
  exact h4 x2 y1 M
set_option maxRecDepth 100000 in
set_option maxHeartbeats 4000000 in
theorem v_X4_lettersSo_B4 {X : Cx} {G : Gx} {sh : List Sh} (hF : FX X G sh 4 cX4_lettersSo (yX4_lettersSo).cls (some .int) rmX4_lettersSo) {w : Nat} (hs : TopAt sh) (hw : SheAt sh w) (n4 : Int32 → Int32 → Mm → Option (Int32 × Mm)) (h4 : ∀ (x2 : Int32) (x3 : Int32) (M : Mm), VR X G sh 4 rvI M 4 [(0, .ref (G.2.2.2.2 0)), (1, .ref (G.2.2.2.2 w)), (2, .int x2), (3, .int x3)] [] (n4 x2 x3 M)) : ∀ (x2 : Int32) (x3 : Int32) (M : Mm), VR X G sh 4 rvI M 4 [(0, .ref (G.2.2.2.2 0)), (1, .ref (G.2.2.2.2 w)), (2, .int x2), (3, .int x3)] [] (m_X4_lettersSo_B4 w n4 x2 x3 M) := by
  intro x2 x3 M
  unfold m_X4_lettersSo_B4
  refine v_iload_n 3 5 hF dX4_lettersSo_4 rfl rfl rfl ?_
  refine v_aload_n 0 6 hF dX4_lettersSo_5 rfl rfl rfl ?_
  refine v_getR (b := 7) 9 hF dX4_lettersSo_6 rfl fl_X4_38 hs.1 rfl ?_
  refine v_getI 12 hF dX4_lettersSo_9 rfl fl_X4_211 hs.2.2.2.1.1 rfl ?_
  refine v_icmp_ge 15 51 hF dX4_lettersSo_12 rfl (by decide) (fun _ => ?_) (fun _ => ?_)
  · refine v_iload_n 2 52 hF dX4_lettersSo_51 rfl rfl rfl ?_
    exact v_iret hF dX4_lettersSo_52
  · refine v_aload_n 0 16 hF dX4_lettersSo_15 rfl rfl rfl ?_
    refine v_getR (b := 16) 19 hF dX4_lettersSo_16 rfl fl_X4_42 hs.1 rfl ?_
    refine v_aload_n 0 20 hF dX4_lettersSo_19 rfl rfl rfl ?_
    refine v_getR (b := 7) 23 hF dX4_lettersSo_20 rfl fl_X4_38 hs.1 rfl ?_
    refine v_callV ([.ref (G.2.2.2.2 7)]) ([]) 26 hF dX4_lettersSo_23 rfl cw_X4_167 rfl (hs.2.2.2.2.1.1) (c_X3_takeOver (G := G) (hs.2.1) (hs.2.2.2.2.1) (hs.2.2.2.1) M) ⟨rfl, rfl, Nat.le_of_ble_eq_true rfl, Nat.le_of_ble_eq_true rfl⟩ rfl rfl (Nat.le_of_ble_eq_true rfl) (fun _ M2 => ?_)
    refine v_aload_n 0 27 hF dX4_lettersSo_26 rfl rfl rfl ?_
    refine v_getR (b := 16) 30 hF dX4_lettersSo_27 rfl fl_X4_42 hs.1 rfl ?_
    refine v_aload_n 1 31 hF dX4_lettersSo_30 rfl rfl rfl ?_
    refine v_iload_n 3 32 hF dX4_lettersSo_31 rfl rfl rfl ?_
    refine v_callI ([.ref (G.2.2.2.2 w), .int x3]) ([]) 35 hF dX4_lettersSo_32 rfl cw_X4_236 rfl (hs.2.2.2.2.1.1) (c_X3_firstOtherwise (G := G) (hs.2.1) (hs.2.2.2.2.1) hw M2 x3) ⟨rfl, rfl, Nat.le_of_ble_eq_true rfl, Nat.le_of_ble_eq_true rfl⟩ rfl rfl (Nat.le_of_ble_eq_true rfl) (fun r4 M3 => ?_)
    refine v_iconst (-1) 36 hF dX4_lettersSo_35 rfl (by decide) ?_
    refine v_icmp_ne 39 45 hF dX4_lettersSo_36 rfl (by decide) (fun _ => ?_) (fun _ => ?_)
    · refine VR.pick [0, 1, 2, 3] rfl ?_
      exact v_X4_lettersSo_J45 hF hs hw _ h4 x2 x3 M3
    · refine v_iload_n 2 40 hF dX4_lettersSo_39 rfl rfl rfl ?_
      refine v_iconst (1) 41 hF dX4_lettersSo_40 rfl (by decide) ?_
      refine v_iload_n 3 42 hF dX4_lettersSo_41 rfl rfl rfl ?_
      refine v_ishl 43 hF dX4_lettersSo_42 rfl ?_
      refine v_ior 44 hF dX4_lettersSo_43 rfl ?_
      refine v_istore_n (lo' := fun y5 => [(2, .int y5), (0, .ref (G.2.2.2.2 0)), (1, .ref (G.2.2.2.2 w)), (3, .int x3)]) 45 hF dX4_lettersSo_44 rfl rfl (by decide) (fun _ => rfl) (fun y5 => ?_)
      refine VR.pick [1, 2, 0, 3] rfl ?_
      exact v_X4_lettersSo_J45 hF hs hw _ h4 y5 x3 M3
theorem v_X4_lettersSo_L4 {X : Cx} {G : Gx} {sh : List Sh} (hF : FX X G sh 4 cX4_lettersSo (yX4_lettersSo).cls (some .int) rmX4_lettersSo) {w : Nat} (hs : TopAt sh) (hw : SheAt sh w) : ∀ (n : Nat), ∀ (x2 : Int32) (x3 : Int32) (M : Mm), VR X G sh 4 rvI M 4 [(0, .ref (G.2.2.2.2 0)), (1, .ref (G.2.2.2.2 w)), (2, .int x2), (3, .int x3)] [] (m_X4_lettersSo_L4 w n x2 x3 M) := by
  intro n
  induction n with
  | zero => intro x2 x3 M; exact VR.none
  | succ n ih => exact v_X4_lettersSo_B4 hF hs hw _ ih
set_option maxRecDepth 100000 in
set_option maxHeartbeats 4000000 in
theorem c_X4_lettersSo {G : Gx} {sh : List Sh} {w : Nat} (hs : TopAt sh) (hw : SheAt sh w) (M : Mm)  : CT yX4_lettersSo cX4_lettersSo 4 (some .int) rmX4_lettersSo G sh [.ref (G.2.2.2.2 0), .ref (G.2.2.2.2 w)] rvI M (m_X4_lettersSo w  M) := by
  refine CT.of (by decide +kernel) (Nat.le_of_ble_eq_true rfl) (fun X hF => ?_)
  show VR X G sh 4 rvI M 0 [(0, .ref (G.2.2.2.2 0)), (1, .ref (G.2.2.2.2 w))] [] _
  unfold m_X4_lettersSo
  refine v_iconst (0) 1 hF dX4_lettersSo_0 rfl (by decide) ?_
  refine v_istore_n (lo' := fun y6 => [(2, .int y6), (0, .ref (G.2.2.2.2 0)), (1, .ref (G.2.2.2.2 w))]) 2 hF dX4_lettersSo_1 rfl rfl (by decide) (fun _ => rfl) (fun y6 => ?_)
  refine v_iconst (0) 3 hF dX4_lettersSo_2 rfl (by decide) ?_
  refine v_istore_n (lo' := fun y7 => [(3, .int y7), (2, .int y6), (0, .ref (G.2.2.2.2 0)), (1, .ref (G.2.2.2.2 w))]) 4 hF dX4_lettersSo_3 rfl rfl (by decide) (fun _ => rfl) (fun y7 => ?_)
  refine VR.pick [2, 3, 1, 0] rfl ?_
  exact v_X4_lettersSo_L4 hF hs hw FU y6 y7 M
abbrev rmX4_sheetNumbered : Room := { frames := 0, cells := 0, slots := 0, locals := 0 }
def m_X4_sheetNumbered_J22  (M : Mm) : Option (Option Nat × Mm) := some (none, M)
def m_X4_sheetNumbered (x1 : Int32) (M : Mm) : Option (Option Nat × Mm) := if x1 < 0 then (m_X4_sheetNumbered_J22 M) else (if (4 : Int32) ≤ x1 then (m_X4_sheetNumbered_J22 M) else (gd (inr x1 4) (some (some (36 + 2 * x1.toNatClampNeg), M))))
set_option maxRecDepth 100000 in
set_option maxHeartbeats 4000000 in
theorem v_X4_sheetNumbered_J22 {X : Cx} {G : Gx} {sh : List Sh} (hF : FX X G sh 2 cX4_sheetNumbered (yX4_sheetNumbered).cls (some (.object "NextHouseUp$Sheet")) rmX4_sheetNumbered) (hs : TopAt sh) : ∀ (M : Mm), VR X G sh 2 (rvR G) M 22 [(0, .ref (G.2.2.2.2 0))] [] (m_X4_sheetNumbered_J22   M) := by
  intro  M
  unfold m_X4_sheetNumbered_J22
  refine v_null 23 hF dX4_sheetNumbered_22 rfl ?_
  exact v_aretN hF dX4_sheetNumbered_23
set_option maxRecDepth 100000 in
set_option maxHeartbeats 4000000 in
theorem c_X4_sheetNumbered {G : Gx} {sh : List Sh} (hs : TopAt sh) (M : Mm) (x1 : Int32) : CT yX4_sheetNumbered cX4_sheetNumbered 2 (some (.object "NextHouseUp$Sheet")) rmX4_sheetNumbered G sh [.ref (G.2.2.2.2 0), .int x1] (rvR G) M (m_X4_sheetNumbered  x1 M) := by
  refine CT.of (by decide +kernel) (Nat.le_of_ble_eq_true rfl) (fun X hF => ?_)
  show VR X G sh 2 (rvR G) M 0 [(0, .ref (G.2.2.2.2 0)), (1, .int x1)] [] _
  unfold m_X4_sheetNumbered
  refine v_iload_n 1 1 hF dX4_sheetNumbered_0 rfl rfl rfl ?_
  refine v_if_lt 4 22 hF dX4_sheetNumbered_1 rfl (by decide) (fun _ => ?_) (fun _ => ?_)
  · refine VR.pick [0] rfl ?_
    exact v_X4_sheetNumbered_J22 hF hs M
  · refine v_iload_n 1 5 hF dX4_sheetNumbered_4 rfl rfl rfl ?_
    refine v_aload_n 0 6 hF dX4_sheetNumbered_5 rfl rfl rfl ?_
    refine v_getR (b := 35) 9 hF dX4_sheetNumbered_6 rfl fl_X4_54 hs.1 rfl ?_
    refine v_alen 4 10 hF dX4_sheetNumbered_9 rfl (hs.2.2.2.2.2.2.2.1) (Or.inr ⟨_, rfl⟩) (by decide) ?_
    refine v_icmp_ge 13 22 hF dX4_sheetNumbered_10 rfl (by decide) (fun _ => ?_) (fun _ => ?_)
    · refine VR.pick [0] rfl ?_
      exact v_X4_sheetNumbered_J22 hF hs M
    · refine v_aload_n 0 14 hF dX4_sheetNumbered_13 rfl rfl rfl ?_
      refine v_getR (b := 35) 17 hF dX4_sheetNumbered_14 rfl fl_X4_54 hs.1 rfl ?_
      refine v_iload_n 1 18 hF dX4_sheetNumbered_17 rfl rfl rfl ?_
      refine v_aald (b := 36) 19 hF dX4_sheetNumbered_18 rfl (hs.2.2.2.2.2.2.2.1) ?_
      refine v_goto 23 hF dX4_sheetNumbered_19 (by decide) ?_
      exact v_aretR hF dX4_sheetNumbered_23
abbrev rmX4_tells : Room := { frames := 7, cells := 0, slots := 0, locals := 171 }
def m_X4_tells (x1 : Int32) (x2 : Int32) (x3 : Int32) (x4 : Int32) (M : Mm) : Option (Int32 × Mm) := bd (m_X4_sheetNumbered x1 M) (rcase (fun M1 => some ((-2 : Int32), M1)) (fun a2 M1 => gd (isShe a2) (bd (m_X3_isLetter 7 x2 M1) fun r3 M2 => if r3 = 0 then (some ((-2 : Int32), M2)) else (bd (m_X3_isOne 7 x3 M2) fun r5 M4 => if r5 = 0 then (some ((-2 : Int32), M4)) else (if x4 < 0 then (some ((-2 : Int32), M4)) else (if x4 ≤ (6 : Int32) then (bd (m_X0_isMissing a2 M4) fun r7 M6 => if r7 = 0 then (if (M6 a2 1) ≤ (20 : Int32) then (if x4 = (0) then (bd (m_X3_takeOver 16 7 M6) fun _ M8 => bd (m_X3_firstOtherwise 16 a2 x2 M8) fun r10 M9 => some (r10, M9)) else (if x4 = (1) then (bd (m_X4_allSo a2 x2 x3 x4 ((6 : Int32)) M6) fun r12 M11 => some (r12, M11)) else (if x4 = (2) then (bd (m_X4_allSo a2 x2 x3 x4 ((10 : Int32)) M6) fun r14 M13 => some (r14, M13)) else (if x4 = (3) then (bd (m_X4_daysSo a2 x2 ((0 : Int32)) M6) fun r16 M15 => some (r16, M15)) else (if x4 = (4) then (bd (m_X4_daysSo a2 x2 ((1 : Int32)) M6) fun r18 M17 => some (r18, M17)) else (if x4 = (5) then (bd (m_X4_allSo a2 x2 x3 x4 ((M6 1 0)) M6) fun r20 M19 => some (r20, M19)) else (bd (m_X4_lettersSo a2 M6) fun r22 M21 => some (r22, M21)))))))) else (some ((-2 : Int32), M6))) else (some ((-11 : Int32), M6))) else (some ((-2 : Int32), M4))))))))
set_option maxRecDepth 100000 in
set_option maxHeartbeats 4000000 in
theorem c_X4_tells {G : Gx} {sh : List Sh} (hs : TopAt sh) (M : Mm) (x1 : Int32) (x2 : Int32) (x3 : Int32) (x4 : Int32) : CT yX4_tells cX4_tells 6 (some .int) rmX4_tells G sh [.ref (G.2.2.2.2 0), .int x1, .int x2, .int x3, .int x4] rvI M (m_X4_tells  x1 x2 x3 x4 M) := by
  refine CT.of (by decide +kernel) (Nat.le_of_ble_eq_true rfl) (fun X hF => ?_)
  show VR X G sh 6 rvI M 0 [(0, .ref (G.2.2.2.2 0)), (1, .int x1), (2, .int x2), (3, .int x3), (4, .int x4)] [] _
  unfold m_X4_tells
  refine v_aload_n 0 1 hF dX4_tells_0 rfl rfl rfl ?_
  refine v_iload_n 1 2 hF dX4_tells_1 rfl rfl rfl ?_
  refine v_callR ([.int x1]) ([]) 5 hF dX4_tells_2 rfl cw_X4_228 rfl (hs.1) (c_X4_sheetNumbered (G := G) hs M x1) ⟨rfl, rfl, Nat.le_of_ble_eq_true rfl, Nat.le_of_ble_eq_true rfl⟩ rfl rfl (Nat.le_of_ble_eq_true rfl) (fun M1 => ?_) (fun a2 M1 => v_gd (fun ha2 => ?_))
  · refine v_astoreN (lo' := [(5, .null), (0, .ref (G.2.2.2.2 0)), (1, .int x1), (2, .int x2), (3, .int x3), (4, .int x4)]) 7 hF dX4_tells_5 rfl (by decide) rfl ?_
    refine v_aloadN 0 9 hF dX4_tells_7 rfl rfl ?_
    refine v_ifnullN 46 hF dX4_tells_9 (by decide) ?_
    refine v_bipush (-2) 48 hF dX4_tells_46 rfl (by decide) ?_
    exact v_iret hF dX4_tells_48
  · have ha2 := she_of hs ha2
    refine v_astore (lo' := [(5, .ref (G.2.2.2.2 a2)), (0, .ref (G.2.2.2.2 0)), (1, .int x1), (2, .int x2), (3, .int x3), (4, .int x4)]) 7 hF dX4_tells_5 rfl (by decide) rfl ?_
    refine v_aload 0 9 hF dX4_tells_7 rfl rfl ?_
    refine v_ifnullR 12 hF dX4_tells_9 rfl ?_
    refine v_aload_n 1 13 hF dX4_tells_12 rfl rfl rfl ?_
    refine v_getR (b := 7) 16 hF dX4_tells_13 rfl fl_X4_38 hs.1 rfl ?_
    refine v_iload_n 3 17 hF dX4_tells_16 rfl rfl rfl ?_
    refine v_callI ([.int x2]) ([]) 20 hF dX4_tells_17 rfl cw_X4_98 rfl (hs.2.2.2.1.1) (c_X3_isLetter (G := G) (hs.2.1) (hs.2.2.2.1) M1 x2) ⟨rfl, rfl, Nat.le_of_ble_eq_true rfl, Nat.le_of_ble_eq_true rfl⟩ rfl rfl (Nat.le_of_ble_eq_true rfl) (fun r3 M2 => ?_)
    refine v_if_eq 23 46 hF dX4_tells_20 rfl (by decide) (fun _ => ?_) (fun _ => ?_)
    · refine v_bipush (-2) 48 hF dX4_tells_46 rfl (by decide) ?_
      exact v_iret hF dX4_tells_48
    · refine v_aload_n 1 24 hF dX4_tells_23 rfl rfl rfl ?_
      refine v_getR (b := 7) 27 hF dX4_tells_24 rfl fl_X4_38 hs.1 rfl ?_
      refine v_iload_n 4 28 hF dX4_tells_27 rfl rfl rfl ?_
      refine v_callI ([.int x3]) ([]) 31 hF dX4_tells_28 rfl cw_X4_105 rfl (hs.2.2.2.1.1) (c_X3_isOne (G := G) (hs.2.1) (hs.2.2.2.1) M2 x3) ⟨rfl, rfl, Nat.le_of_ble_eq_true rfl, Nat.le_of_ble_eq_true rfl⟩ rfl rfl (Nat.le_of_ble_eq_true rfl) (fun r5 M4 => ?_)
      refine v_if_eq 34 46 hF dX4_tells_31 rfl (by decide) (fun _ => ?_) (fun _ => ?_)
      · refine v_bipush (-2) 48 hF dX4_tells_46 rfl (by decide) ?_
        exact v_iret hF dX4_tells_48
      · refine v_iload 5 36 hF dX4_tells_34 rfl rfl ?_
        refine v_if_lt 39 46 hF dX4_tells_36 rfl (by decide) (fun _ => ?_) (fun _ => ?_)
        · refine v_bipush (-2) 48 hF dX4_tells_46 rfl (by decide) ?_
          exact v_iret hF dX4_tells_48
        · refine v_iload 5 41 hF dX4_tells_39 rfl rfl ?_
          refine v_bipush (6) 43 hF dX4_tells_41 rfl (by decide) ?_
          refine v_icmp_le 46 49 hF dX4_tells_43 rfl (by decide) (fun _ => ?_) (fun _ => ?_)
          · refine v_aload 0 51 hF dX4_tells_49 rfl rfl ?_
            refine v_callI ([]) ([]) 54 hF dX4_tells_51 rfl cw_X4_232 rfl (ha2.1) (c_X0_isMissing (G := G) ha2 M4) ⟨rfl, rfl, Nat.le_of_ble_eq_true rfl, Nat.le_of_ble_eq_true rfl⟩ rfl rfl (Nat.le_of_ble_eq_true rfl) (fun r7 M6 => ?_)
            refine v_if_eq 57 60 hF dX4_tells_54 rfl (by decide) (fun _ => ?_) (fun _ => ?_)
            · refine v_aload 0 62 hF dX4_tells_60 rfl rfl ?_
              refine v_getI 65 hF dX4_tells_62 rfl fl_X4_235 ha2.1 rfl ?_
              refine v_bipush (20) 67 hF dX4_tells_65 rfl (by decide) ?_
              refine v_icmp_le 70 73 hF dX4_tells_67 rfl (by decide) (fun _ => ?_) (fun _ => ?_)
              · refine v_iload 5 75 hF dX4_tells_73 rfl rfl ?_
                refine v_ite (fun e1 => ?_) (fun n0 => ?_)
                · refine v_tsIn (0) (37) 112 hF dX4_tells_75 e1 (by decide) rfl (by decide) ?_
                  refine v_aload_n 1 113 hF dX4_tells_112 rfl rfl rfl ?_
                  refine v_getR (b := 16) 116 hF dX4_tells_113 rfl fl_X4_42 hs.1 rfl ?_
                  refine v_aload_n 1 117 hF dX4_tells_116 rfl rfl rfl ?_
                  refine v_getR (b := 7) 120 hF dX4_tells_117 rfl fl_X4_38 hs.1 rfl ?_
                  refine v_callV ([.ref (G.2.2.2.2 7)]) ([]) 123 hF dX4_tells_120 rfl cw_X4_167 rfl (hs.2.2.2.2.1.1) (c_X3_takeOver (G := G) (hs.2.1) (hs.2.2.2.2.1) (hs.2.2.2.1) M6) ⟨rfl, rfl, Nat.le_of_ble_eq_true rfl, Nat.le_of_ble_eq_true rfl⟩ rfl rfl (Nat.le_of_ble_eq_true rfl) (fun _ M8 => ?_)
                  refine v_aload_n 1 124 hF dX4_tells_123 rfl rfl rfl ?_
                  refine v_getR (b := 16) 127 hF dX4_tells_124 rfl fl_X4_42 hs.1 rfl ?_
                  refine v_aload 0 129 hF dX4_tells_127 rfl rfl ?_
                  refine v_iload_n 3 130 hF dX4_tells_129 rfl rfl rfl ?_
                  refine v_callI ([.ref (G.2.2.2.2 a2), .int x2]) ([]) 133 hF dX4_tells_130 rfl cw_X4_236 rfl (hs.2.2.2.2.1.1) (c_X3_firstOtherwise (G := G) (hs.2.1) (hs.2.2.2.2.1) ha2 M8 x2) ⟨rfl, rfl, Nat.le_of_ble_eq_true rfl, Nat.le_of_ble_eq_true rfl⟩ rfl rfl (Nat.le_of_ble_eq_true rfl) (fun r10 M9 => ?_)
                  exact v_iret hF dX4_tells_133
                · refine v_ite (fun e1 => ?_) (fun n1 => ?_)
                  · refine v_tsIn (1) (59) 134 hF dX4_tells_75 e1 (by decide) rfl (by decide) ?_
                    refine v_aload_n 1 135 hF dX4_tells_134 rfl rfl rfl ?_
                    refine v_aload 0 137 hF dX4_tells_135 rfl rfl ?_
                    refine v_iload_n 3 138 hF dX4_tells_137 rfl rfl rfl ?_
                    refine v_iload_n 4 139 hF dX4_tells_138 rfl rfl rfl ?_
                    refine v_iload 5 141 hF dX4_tells_139 rfl rfl ?_
                    refine v_bipush (6) 143 hF dX4_tells_141 rfl (by decide) ?_
                    refine v_callI ([.ref (G.2.2.2.2 a2), .int x2, .int x3, .int x4, .int ((6 : Int32))]) ([]) 146 hF dX4_tells_143 rfl cw_X4_240 rfl (hs.1) (c_X4_allSo (G := G) hs ha2 M6 x2 x3 x4 ((6 : Int32))) ⟨rfl, rfl, Nat.le_of_ble_eq_true rfl, Nat.le_of_ble_eq_true rfl⟩ rfl rfl (Nat.le_of_ble_eq_true rfl) (fun r12 M11 => ?_)
                    exact v_iret hF dX4_tells_146
                  · refine v_ite (fun e1 => ?_) (fun n2 => ?_)
                    · refine v_tsIn (2) (72) 147 hF dX4_tells_75 e1 (by decide) rfl (by decide) ?_
                      refine v_aload_n 1 148 hF dX4_tells_147 rfl rfl rfl ?_
                      refine v_aload 0 150 hF dX4_tells_148 rfl rfl ?_
                      refine v_iload_n 3 151 hF dX4_tells_150 rfl rfl rfl ?_
                      refine v_iload_n 4 152 hF dX4_tells_151 rfl rfl rfl ?_
                      refine v_iload 5 154 hF dX4_tells_152 rfl rfl ?_
                      refine v_bipush (10) 156 hF dX4_tells_154 rfl (by decide) ?_
                      refine v_callI ([.ref (G.2.2.2.2 a2), .int x2, .int x3, .int x4, .int ((10 : Int32))]) ([]) 159 hF dX4_tells_156 rfl cw_X4_240 rfl (hs.1) (c_X4_allSo (G := G) hs ha2 M6 x2 x3 x4 ((10 : Int32))) ⟨rfl, rfl, Nat.le_of_ble_eq_true rfl, Nat.le_of_ble_eq_true rfl⟩ rfl rfl (Nat.le_of_ble_eq_true rfl) (fun r14 M13 => ?_)
                      exact v_iret hF dX4_tells_159
                    · refine v_ite (fun e1 => ?_) (fun n3 => ?_)
                      · refine v_tsIn (3) (85) 160 hF dX4_tells_75 e1 (by decide) rfl (by decide) ?_
                        refine v_aload_n 1 161 hF dX4_tells_160 rfl rfl rfl ?_
                        refine v_aload 0 163 hF dX4_tells_161 rfl rfl ?_
                        refine v_iload_n 3 164 hF dX4_tells_163 rfl rfl rfl ?_
                        refine v_iconst (0) 165 hF dX4_tells_164 rfl (by decide) ?_
                        refine v_callI ([.ref (G.2.2.2.2 a2), .int x2, .int ((0 : Int32))]) ([]) 168 hF dX4_tells_165 rfl cw_X4_244 rfl (hs.1) (c_X4_daysSo (G := G) hs ha2 M6 x2 ((0 : Int32))) ⟨rfl, rfl, Nat.le_of_ble_eq_true rfl, Nat.le_of_ble_eq_true rfl⟩ rfl rfl (Nat.le_of_ble_eq_true rfl) (fun r16 M15 => ?_)
                        exact v_iret hF dX4_tells_168
                      · refine v_ite (fun e1 => ?_) (fun n4 => ?_)
                        · refine v_tsIn (4) (94) 169 hF dX4_tells_75 e1 (by decide) rfl (by decide) ?_
                          refine v_aload_n 1 170 hF dX4_tells_169 rfl rfl rfl ?_
                          refine v_aload 0 172 hF dX4_tells_170 rfl rfl ?_
                          refine v_iload_n 3 173 hF dX4_tells_172 rfl rfl rfl ?_
                          refine v_iconst (1) 174 hF dX4_tells_173 rfl (by decide) ?_
                          refine v_callI ([.ref (G.2.2.2.2 a2), .int x2, .int ((1 : Int32))]) ([]) 177 hF dX4_tells_174 rfl cw_X4_244 rfl (hs.1) (c_X4_daysSo (G := G) hs ha2 M6 x2 ((1 : Int32))) ⟨rfl, rfl, Nat.le_of_ble_eq_true rfl, Nat.le_of_ble_eq_true rfl⟩ rfl rfl (Nat.le_of_ble_eq_true rfl) (fun r18 M17 => ?_)
                          exact v_iret hF dX4_tells_177
                        · refine v_ite (fun e1 => ?_) (fun n5 => ?_)
                          · refine v_tsIn (5) (103) 178 hF dX4_tells_75 e1 (by decide) rfl (by decide) ?_
                            refine v_aload_n 1 179 hF dX4_tells_178 rfl rfl rfl ?_
                            refine v_aload 0 181 hF dX4_tells_179 rfl rfl ?_
                            refine v_iload_n 3 182 hF dX4_tells_181 rfl rfl rfl ?_
                            refine v_iload_n 4 183 hF dX4_tells_182 rfl rfl rfl ?_
                            refine v_iload 5 185 hF dX4_tells_183 rfl rfl ?_
                            refine v_aload_n 1 186 hF dX4_tells_185 rfl rfl rfl ?_
                            refine v_getR (b := 1) 189 hF dX4_tells_186 rfl fl_X4_10 hs.1 rfl ?_
                            refine v_getI 192 hF dX4_tells_189 rfl fl_X4_154 hs.2.1.1 rfl ?_
                            refine v_callI ([.ref (G.2.2.2.2 a2), .int x2, .int x3, .int x4, .int ((M6 1 0))]) ([]) 195 hF dX4_tells_192 rfl cw_X4_240 rfl (hs.1) (c_X4_allSo (G := G) hs ha2 M6 x2 x3 x4 ((M6 1 0))) ⟨rfl, rfl, Nat.le_of_ble_eq_true rfl, Nat.le_of_ble_eq_true rfl⟩ rfl rfl (Nat.le_of_ble_eq_true rfl) (fun r20 M19 => ?_)
                            exact v_iret hF dX4_tells_195
                          · refine v_tsOut 196 hF dX4_tells_75 (by have a0 := lv_neT n0 (a := (0)) (by decide); have a1 := lv_neT n1 (a := (1)) (by decide); have a2 := lv_neT n2 (a := (2)) (by decide); have a3 := lv_neT n3 (a := (3)) (by decide); have a4 := lv_neT n4 (a := (4)) (by decide); have a5 := lv_neT n5 (a := (5)) (by decide); omega) (by decide) ?_
                            refine v_aload_n 1 197 hF dX4_tells_196 rfl rfl rfl ?_
                            refine v_aload 0 199 hF dX4_tells_197 rfl rfl ?_
                            refine v_callI ([.ref (G.2.2.2.2 a2)]) ([]) 202 hF dX4_tells_199 rfl cw_X4_248 rfl (hs.1) (c_X4_lettersSo (G := G) hs ha2 M6) ⟨rfl, rfl, Nat.le_of_ble_eq_true rfl, Nat.le_of_ble_eq_true rfl⟩ rfl rfl (Nat.le_of_ble_eq_true rfl) (fun r22 M21 => ?_)
                            exact v_iret hF dX4_tells_202
              · refine v_bipush (-2) 72 hF dX4_tells_70 rfl (by decide) ?_
                exact v_iret hF dX4_tells_72
            · refine v_bipush (-11) 59 hF dX4_tells_57 rfl (by decide) ?_
              exact v_iret hF dX4_tells_59
          · refine v_bipush (-2) 48 hF dX4_tells_46 rfl (by decide) ?_
            exact v_iret hF dX4_tells_48
