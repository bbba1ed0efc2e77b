abbrev rmX5_chance : Room := { frames := 71, cells := 0, slots := 0, locals := 3140 }
def m_X5_chance_J72 (n45 : Int32 → Int32 → Int32 → Int32 → Int64 → Int32 → Mm → Option (Int64 × Mm)) (x1 : Int32) (x2 : Int32) (x3 : Int32) (x4 : Int32) (x7 : Int32) (s0 : Int64) (s1 : Int64) (M : Mm) : Option (Int64 × Mm) := lt1 ((s1 + s0)) fun y1 => lt1 (x7 + 1) fun y2 => n45 x1 x2 x3 x4 y1 y2 M
def m_X5_chance_B45 (n45 : Int32 → Int32 → Int32 → Int32 → Int64 → Int32 → Mm → Option (Int64 × Mm)) (x1 : Int32) (x2 : Int32) (x3 : Int32) (x4 : Int32) (x5 : Int64) (x7 : Int32) (M : Mm) : Option (Int64 × Mm) := if x2 ≤ x7 then (bd (m_X5_lowest x5 (((x2).toInt64)) x4 M) fun r4 M3 => some (r4, M3)) else (bd (m_X5_homeDrawn ((x1 + x7)) ((10 : Int32)) M) fun r6 M5 => if r6 < x3 then (m_X5_chance_J72 n45 x1 x2 x3 x4 x7 ((0 : Int64)) x5 M5) else (m_X5_chance_J72 n45 x1 x2 x3 x4 x7 ((1 : Int64)) x5 M5))
def m_X5_chance_L45 : Nat → Int32 → Int32 → Int32 → Int32 → Int64 → Int32 → Mm → Option (Int64 × Mm)
  | 0 => fun _ _ _ _ _ _ _ => none
  | n + 1 => m_X5_chance_B45  (m_X5_chance_L45  n)
def m_X5_chance (x1 : Int32) (x2 : Int32) (x3 : Int32) (x4 : Int32) (M : Mm) : Option (Int64 × Mm) := bd (m_X5_in (((x2).toInt64)) ((1 : Int64)) ((20 : Int64)) M) fun r8 M7 => if r8 = 0 then (some ((-4611686018427387904 : Int64), M7)) else (bd (m_X5_in (((x3).toInt64)) ((0 : Int64)) ((8 : Int64)) M7) fun r10 M9 => if r10 = 0 then (some ((-4611686018427387904 : Int64), M9)) else (bd (m_X5_in (((x4).toInt64)) ((0 : Int64)) ((1 : Int64)) M9) fun r12 M11 => if r12 = 0 then (some ((-4611686018427387904 : Int64), M11)) else (lt1 ((0 : Int64)) fun y13 => lt1 ((0 : Int32)) fun y14 => m_X5_chance_L45 FU x1 x2 x3 x4 y13 y14 M11)))
set_option maxRecDepth 100000 in
set_option maxHeartbeats 4000000 in
theorem v_X5_chance_J72 {X : Cx} {G : Gx} {sh : List Sh} (hF : FX X G sh 8 cX5_chance (yX5_chance).cls (some .long) rmX5_chance) (hs : ModAt sh) (n45 : Int32 → Int32 → Int32 → Int32 → Int64 → Int32 → Mm → Option (Int64 × Mm)) (h45 : ∀ (x1 : Int32) (x2 : Int32) (x3 : Int32) (x4 : Int32) (x5 : Int64) (x7 : Int32) (M : Mm), VR X G sh 8 rvJ M 45 [(0, .ref (G.2.2.2.2 0)), (1, .int x1), (2, .int x2), (3, .int x3), (4, .int x4), (5, .long x5), (7, .int x7)] [] (n45 x1 x2 x3 x4 x5 x7 M)) : ∀ (x1 : Int32) (x2 : Int32) (x3 : Int32) (x4 : Int32) (x7 : Int32) (s0 : Int64) (s1 : Int64) (M : Mm), VR X G sh 8 rvJ M 72 [(0, .ref (G.2.2.2.2 0)), (1, .int x1), (2, .int x2), (3, .int x3), (4, .int x4), (7, .int x7)] [.long s0, .long s1] (m_X5_chance_J72  n45 x1 x2 x3 x4 x7 s0 s1 M) := by
  intro x1 x2 x3 x4 x7 s0 s1 M
  unfold m_X5_chance_J72
  refine v_ladd 73 hF dX5_chance_72 rfl ?_
  refine v_lstore (lo' := fun y1 => [(5, .long y1), (0, .ref (G.2.2.2.2 0)), (1, .int x1), (2, .int x2), (3, .int x3), (4, .int x4), (7, .int x7)]) 75 hF dX5_chance_73 rfl (by decide) (fun _ => rfl) (fun y1 => ?_)
  refine v_iinc (v := (x7 + 1)) (lo' := fun y2 => [(7, .int y2), (5, .long y1), (0, .ref (G.2.2.2.2 0)), (1, .int x1), (2, .int x2), (3, .int x3), (4, .int x4)]) 6 78 hF dX5_chance_75 rfl rfl rfl (by decide) (fun _ => rfl) (fun y2 => ?_)
  refine v_goto 45 hF dX5_chance_78 (by decide) ?_
  refine VR.pick [2, 3, 4, 5, 6, 1, 0] rfl ?_
  exact h45 x1 x2 x3 x4 y1 y2 M
set_option maxRecDepth 100000 in
set_option maxHeartbeats 4000000 in
theorem v_X5_chance_B45 {X : Cx} {G : Gx} {sh : List Sh} (hF : FX X G sh 8 cX5_chance (yX5_chance).cls (some .long) rmX5_chance) (hs : ModAt sh) (n45 : Int32 → Int32 → Int32 → Int32 → Int64 → Int32 → Mm → Option (Int64 × Mm)) (h45 : ∀ (x1 : Int32) (x2 : Int32) (x3 : Int32) (x4 : Int32) (x5 : Int64) (x7 : Int32) (M : Mm), VR X G sh 8 rvJ M 45 [(0, .ref (G.2.2.2.2 0)), (1, .int x1), (2, .int x2), (3, .int x3), (4, .int x4), (5, .long x5), (7, .int x7)] [] (n45 x1 x2 x3 x4 x5 x7 M)) : ∀ (x1 : Int32) (x2 : Int32) (x3 : Int32) (x4 : Int32) (x5 : Int64) (x7 : Int32) (M : Mm), VR X G sh 8 rvJ M 45 [(0, .ref (G.2.2.2.2 0)), (1, .int x1), (2, .int x2), (3, .int x3), (4, .int x4), (5, .long x5), (7, .int x7)] [] (m_X5_chance_B45  n45 x1 x2 x3 x4 x5 x7 M) := by
  intro x1 x2 x3 x4 x5 x7 M
  unfold m_X5_chance_B45
  refine v_iload 6 47 hF dX5_chance_45 rfl rfl ?_
  refine v_iload_n 2 48 hF dX5_chance_47 rfl rfl rfl ?_
  refine v_icmp_ge 51 81 hF dX5_chance_48 rfl (by decide) (fun _ => ?_) (fun _ => ?_)
  · refine v_lload 5 83 hF dX5_chance_81 rfl rfl ?_
    refine v_iload_n 2 84 hF dX5_chance_83 rfl rfl rfl ?_
    refine v_i2l 85 hF dX5_chance_84 rfl ?_
    refine v_iload 4 87 hF dX5_chance_85 rfl rfl ?_
    refine v_staJ ([.long x5, .long (((x2).toInt64)), .int x4]) ([]) 90 hF dX5_chance_87 rfl cw_X5_312 (c_X5_lowest (G := G) (sh := sh) M x5 (((x2).toInt64)) x4) ⟨rfl, rfl, Nat.le_of_ble_eq_true rfl, Nat.le_of_ble_eq_true rfl⟩ rfl rfl (Nat.le_of_ble_eq_true rfl) (fun r4 M3 => ?_)
    exact v_lret hF dX5_chance_90
  · refine v_lload 5 53 hF dX5_chance_51 rfl rfl ?_
    refine v_aload_n 0 54 hF dX5_chance_53 rfl rfl rfl ?_
    refine v_iload_n 1 55 hF dX5_chance_54 rfl rfl rfl ?_
    refine v_iload 6 57 hF dX5_chance_55 rfl rfl ?_
    refine v_iadd 58 hF dX5_chance_57 rfl ?_
    refine v_bipush (10) 60 hF dX5_chance_58 rfl (by decide) ?_
    refine v_callI ([.int ((x1 + x7)), .int ((10 : Int32))]) ([.long x5]) 63 hF dX5_chance_60 rfl cw_X5_331 rfl (hs.1) (c_X5_homeDrawn (G := G) hs M ((x1 + x7)) ((10 : Int32))) ⟨rfl, rfl, Nat.le_of_ble_eq_true rfl, Nat.le_of_ble_eq_true rfl⟩ rfl rfl (Nat.le_of_ble_eq_true rfl) (fun r6 M5 => ?_)
    refine v_iload_n 3 64 hF dX5_chance_63 rfl rfl rfl ?_
    refine v_icmp_lt 67 71 hF dX5_chance_64 rfl (by decide) (fun _ => ?_) (fun _ => ?_)
    · refine v_lconst 0 72 hF dX5_chance_71 rfl (by decide) ?_
      refine VR.pick [0, 1, 2, 3, 4, 6] rfl ?_
      exact v_X5_chance_J72 hF hs _ h45 x1 x2 x3 x4 x7 ((0 : Int64)) x5 M5
    · refine v_lconst 1 68 hF dX5_chance_67 rfl (by decide) ?_
      refine v_goto 72 hF dX5_chance_68 (by decide) ?_
      refine VR.pick [0, 1, 2, 3, 4, 6] rfl ?_
      exact v_X5_chance_J72 hF hs _ h45 x1 x2 x3 x4 x7 ((1 : Int64)) x5 M5
theorem v_X5_chance_L45 {X : Cx} {G : Gx} {sh : List Sh} (hF : FX X G sh 8 cX5_chance (yX5_chance).cls (some .long) rmX5_chance) (hs : ModAt sh) : ∀ (n : Nat), ∀ (x1 : Int32) (x2 : Int32) (x3 : Int32) (x4 : Int32) (x5 : Int64) (x7 : Int32) (M : Mm), VR X G sh 8 rvJ M 45 [(0, .ref (G.2.2.2.2 0)), (1, .int x1), (2, .int x2), (3, .int x3), (4, .int x4), (5, .long x5), (7, .int x7)] [] (m_X5_chance_L45  n x1 x2 x3 x4 x5 x7 M) := by
  intro n
  induction n with
  | zero => intro x1 x2 x3 x4 x5 x7 M; exact VR.none
  | succ n ih => exact v_X5_chance_B45 hF hs _ ih
set_option maxRecDepth 100000 in
set_option maxHeartbeats 4000000 in
theorem c_X5_chance {G : Gx} {sh : List Sh} (hs : ModAt sh) (M : Mm) (x1 : Int32) (x2 : Int32) (x3 : Int32) (x4 : Int32) : CT yX5_chance cX5_chance 8 (some .long) rmX5_chance G sh [.ref (G.2.2.2.2 0), .int x1, .int x2, .int x3, .int x4] rvJ M (m_X5_chance  x1 x2 x3 x4 M) := by
  refine CT.of (by decide +kernel) (Nat.le_of_ble_eq_true rfl) (fun X hF => ?_)
  show VR X G sh 8 rvJ M 0 [(0, .ref (G.2.2.2.2 0)), (1, .int x1), (2, .int x2), (3, .int x3), (4, .int x4)] [] _
  unfold m_X5_chance
  refine v_iload_n 2 1 hF dX5_chance_0 rfl rfl rfl ?_
  refine v_i2l 2 hF dX5_chance_1 rfl ?_
  refine v_lconst 1 3 hF dX5_chance_2 rfl (by decide) ?_
  refine v_ldc2 (20) 6 hF dX5_chance_3 rfl cc_X5_299 ?_
  refine v_staI ([.long (((x2).toInt64)), .long ((1 : Int64)), .long ((20 : Int64))]) ([]) 9 hF dX5_chance_6 rfl cw_X5_76 (c_X5_in (G := G) (sh := sh) M (((x2).toInt64)) ((1 : Int64)) ((20 : Int64))) ⟨rfl, rfl, Nat.le_of_ble_eq_true rfl, Nat.le_of_ble_eq_true rfl⟩ rfl rfl (Nat.le_of_ble_eq_true rfl) (fun r8 M7 => ?_)
  refine v_if_eq 12 35 hF dX5_chance_9 rfl (by decide) (fun _ => ?_) (fun _ => ?_)
  · refine v_ldc2 (-4611686018427387904) 38 hF dX5_chance_35 rfl cc_X5_310 ?_
    exact v_lret hF dX5_chance_38
  · refine v_iload_n 3 13 hF dX5_chance_12 rfl rfl rfl ?_
    refine v_i2l 14 hF dX5_chance_13 rfl ?_
    refine v_lconst 0 15 hF dX5_chance_14 rfl (by decide) ?_
    refine v_ldc2 (8) 18 hF dX5_chance_15 rfl cc_X5_334 ?_
    refine v_staI ([.long (((x3).toInt64)), .long ((0 : Int64)), .long ((8 : Int64))]) ([]) 21 hF dX5_chance_18 rfl cw_X5_76 (c_X5_in (G := G) (sh := sh) M7 (((x3).toInt64)) ((0 : Int64)) ((8 : Int64))) ⟨rfl, rfl, Nat.le_of_ble_eq_true rfl, Nat.le_of_ble_eq_true rfl⟩ rfl rfl (Nat.le_of_ble_eq_true rfl) (fun r10 M9 => ?_)
    refine v_if_eq 24 35 hF dX5_chance_21 rfl (by decide) (fun _ => ?_) (fun _ => ?_)
    · refine v_ldc2 (-4611686018427387904) 38 hF dX5_chance_35 rfl cc_X5_310 ?_
      exact v_lret hF dX5_chance_38
    · refine v_iload 4 26 hF dX5_chance_24 rfl rfl ?_
      refine v_i2l 27 hF dX5_chance_26 rfl ?_
      refine v_lconst 0 28 hF dX5_chance_27 rfl (by decide) ?_
      refine v_lconst 1 29 hF dX5_chance_28 rfl (by decide) ?_
      refine v_staI ([.long (((x4).toInt64)), .long ((0 : Int64)), .long ((1 : Int64))]) ([]) 32 hF dX5_chance_29 rfl cw_X5_76 (c_X5_in (G := G) (sh := sh) M9 (((x4).toInt64)) ((0 : Int64)) ((1 : Int64))) ⟨rfl, rfl, Nat.le_of_ble_eq_true rfl, Nat.le_of_ble_eq_true rfl⟩ rfl rfl (Nat.le_of_ble_eq_true rfl) (fun r12 M11 => ?_)
      refine v_if_ne 35 39 hF dX5_chance_32 rfl (by decide) (fun _ => ?_) (fun _ => ?_)
      · refine v_lconst 0 40 hF dX5_chance_39 rfl (by decide) ?_
        refine v_lstore (lo' := fun y13 => [(5, .long y13), (0, .ref (G.2.2.2.2 0)), (1, .int x1), (2, .int x2), (3, .int x3), (4, .int x4)]) 42 hF dX5_chance_40 rfl (by decide) (fun _ => rfl) (fun y13 => ?_)
        refine v_iconst (0) 43 hF dX5_chance_42 rfl (by decide) ?_
        refine v_istore (lo' := fun y14 => [(7, .int y14), (5, .long y13), (0, .ref (G.2.2.2.2 0)), (1, .int x1), (2, .int x2), (3, .int x3), (4, .int x4)]) 45 hF dX5_chance_43 rfl (by decide) (fun _ => rfl) (fun y14 => ?_)
        refine VR.pick [2, 3, 4, 5, 6, 1, 0] rfl ?_
        exact v_X5_chance_L45 hF hs FU x1 x2 x3 x4 y13 y14 M11
      · refine v_ldc2 (-4611686018427387904) 38 hF dX5_chance_35 rfl cc_X5_310 ?_
        exact v_lret hF dX5_chance_38
abbrev rmX5_image : Room := { frames := 0, cells := 0, slots := 0, locals := 0 }
def m_X5_image_B28 (n28 : Int32 → Mm → Option (Int32 × Mm)) (x1 : Int32) (M : Mm) : Option (Int32 × Mm) := if (40 : Int32) ≤ x1 then (lt1 (up M 0 35 ((M 0 10))) fun M1 => lt1 (up M1 0 36 ((M1 0 12))) fun M2 => lt1 (up M2 0 37 ((M2 0 7))) fun M3 => lt1 (up M3 0 38 ((M3 0 8))) fun M4 => lt1 (up M4 0 39 ((M4 0 4))) fun M5 => some ((M5 0 10), M5)) else (gd (inr x1 40) (gd (inr x1 40) (lt1 (up M 11 x1.toNatClampNeg ((M 5 x1.toNatClampNeg))) fun M6 => lt1 (x1 + 1) fun y7 => n28 y7 M6)))
def m_X5_image_L28 : Nat → Int32 → Mm → Option (Int32 × Mm)
  | 0 => fun _ _ => none
  | n + 1 => m_X5_image_B28  (m_X5_image_L28  n)
def m_X5_image_B2 (n2 : Int32 → Mm → Option (Int32 × Mm)) (x1 : Int32) (M : Mm) : Option (Int32 × Mm) := if (15 : Int32) ≤ x1 then (lt1 ((0 : Int32)) fun y8 => m_X5_image_L28 FU y8 M) else (gd (inr x1 15) (gd (inr x1 15) (lt1 (up M 10 x1.toNatClampNeg ((M 4 x1.toNatClampNeg))) fun M9 => lt1 (x1 + 1) fun y10 => n2 y10 M9)))
def m_X5_image_L2 : Nat → Int32 → Mm → Option (Int32 × Mm)
  | 0 => fun _ _ => none
  | n + 1 => m_X5_image_B2  (m_X5_image_L2  n)
def m_X5_image  (M : Mm) : Option (Int32 × Mm) := lt1 ((0 : Int32)) fun y11 => m_X5_image_L2 FU y11 M
set_option maxRecDepth 100000 in
set_option maxHeartbeats 4000000 in
theorem v_X5_image_B28 {X : Cx} {G : Gx} {sh : List Sh} (hF : FX X G sh 2 cX5_image (yX5_image).cls (some .int) rmX5_image) (hs : ModAt sh) (n28 : Int32 → Mm → Option (Int32 × Mm)) (h28 : ∀ (x1 : Int32) (M : Mm), VR X G sh 2 rvI M 28 [(0, .ref (G.2.2.2.2 0)), (1, .int x1)] [] (n28 x1 M)) : ∀ (x1 : Int32) (M : Mm), VR X G sh 2 rvI M 28 [(0, .ref (G.2.2.2.2 0)), (1, .int x1)] [] (m_X5_image_B28  n28 x1 M) := by
  intro x1 M
  unfold m_X5_image_B28
  refine v_iload_n 1 29 hF dX5_image_28 rfl rfl rfl ?_
  refine v_bipush (40) 31 hF dX5_image_29 rfl (by decide) ?_
  refine v_icmp_ge 34 52 hF dX5_image_31 rfl (by decide) (fun _ => ?_) (fun _ => ?_)
  · refine v_aload_n 0 53 hF dX5_image_52 rfl rfl rfl ?_
    refine v_aload_n 0 54 hF dX5_image_53 rfl rfl rfl ?_
    refine v_getI 57 hF dX5_image_54 rfl fl_X5_73 hs.1 rfl ?_
    refine v_putI 60 hF dX5_image_57 rfl fl_X5_50 fp_X5_35 hs.1 rfl (fun M1 => ?_)
    refine v_aload_n 0 61 hF dX5_image_60 rfl rfl rfl ?_
    refine v_aload_n 0 62 hF dX5_image_61 rfl rfl rfl ?_
    refine v_getI 65 hF dX5_image_62 rfl fl_X5_80 hs.1 rfl ?_
    refine v_putI 68 hF dX5_image_65 rfl fl_X5_336 fp_X5_36 hs.1 rfl (fun M2 => ?_)
    refine v_aload_n 0 69 hF dX5_image_68 rfl rfl rfl ?_
    refine v_aload_n 0 70 hF dX5_image_69 rfl rfl rfl ?_
    refine v_getI 73 hF dX5_image_70 rfl fl_X5_108 hs.1 rfl ?_
    refine v_putI 76 hF dX5_image_73 rfl fl_X5_339 fp_X5_37 hs.1 rfl (fun M3 => ?_)
    refine v_aload_n 0 77 hF dX5_image_76 rfl rfl rfl ?_
    refine v_aload_n 0 78 hF dX5_image_77 rfl rfl rfl ?_
    refine v_getI 81 hF dX5_image_78 rfl fl_X5_23 hs.1 rfl ?_
    refine v_putI 84 hF dX5_image_81 rfl fl_X5_342 fp_X5_38 hs.1 rfl (fun M4 => ?_)
    refine v_aload_n 0 85 hF dX5_image_84 rfl rfl rfl ?_
    refine v_aload_n 0 86 hF dX5_image_85 rfl rfl rfl ?_
    refine v_getI 89 hF dX5_image_86 rfl fl_X5_111 hs.1 rfl ?_
    refine v_putI 92 hF dX5_image_89 rfl fl_X5_345 fp_X5_39 hs.1 rfl (fun M5 => ?_)
    refine v_aload_n 0 93 hF dX5_image_92 rfl rfl rfl ?_
    refine v_getI 96 hF dX5_image_93 rfl fl_X5_73 hs.1 rfl ?_
    exact v_iret hF dX5_image_96
  · refine v_aload_n 0 35 hF dX5_image_34 rfl rfl rfl ?_
    refine v_getR (b := 11) 38 hF dX5_image_35 rfl fl_X5_47 hs.1 rfl ?_
    refine v_iload_n 1 39 hF dX5_image_38 rfl rfl rfl ?_
    refine v_aload_n 0 40 hF dX5_image_39 rfl rfl rfl ?_
    refine v_getR (b := 5) 43 hF dX5_image_40 rfl fl_X5_29 hs.1 rfl ?_
    refine v_iload_n 1 44 hF dX5_image_43 rfl rfl rfl ?_
    refine v_iald 45 hF dX5_image_44 rfl (hs.2.2.2.2.2.1) ?_
    refine v_iast 46 hF dX5_image_45 rfl (hs.2.2.2.2.2.2.2.2.2.2.2.1) (fun M6 => ?_)
    refine v_iinc (v := (x1 + 1)) (lo' := fun y7 => [(1, .int y7), (0, .ref (G.2.2.2.2 0))]) 1 49 hF dX5_image_46 rfl rfl rfl (by decide) (fun _ => rfl) (fun y7 => ?_)
    refine v_goto 28 hF dX5_image_49 (by decide) ?_
    refine VR.pick [1, 0] rfl ?_
    exact h28 y7 M6
theorem v_X5_image_L28 {X : Cx} {G : Gx} {sh : List Sh} (hF : FX X G sh 2 cX5_image (yX5_image).cls (some .int) rmX5_image) (hs : ModAt sh) : ∀ (n : Nat), ∀ (x1 : Int32) (M : Mm), VR X G sh 2 rvI M 28 [(0, .ref (G.2.2.2.2 0)), (1, .int x1)] [] (m_X5_image_L28  n x1 M) := by
  intro n
  induction n with
  | zero => intro x1 M; exact VR.none
  | succ n ih => exact v_X5_image_B28 hF hs _ ih
set_option maxRecDepth 100000 in
set_option maxHeartbeats 4000000 in
theorem v_X5_image_B2 {X : Cx} {G : Gx} {sh : List Sh} (hF : FX X G sh 2 cX5_image (yX5_image).cls (some .int) rmX5_image) (hs : ModAt sh) (n2 : Int32 → Mm → Option (Int32 × Mm)) (h2 : ∀ (x1 : Int32) (M : Mm), VR X G sh 2 rvI M 2 [(0, .ref (G.2.2.2.2 0)), (1, .int x1)] [] (n2 x1 M)) : ∀ (x1 : Int32) (M : Mm), VR X G sh 2 rvI M 2 [(0, .ref (G.2.2.2.2 0)), (1, .int x1)] [] (m_X5_image_B2  n2 x1 M) := by
  intro x1 M
  unfold m_X5_image_B2
  refine v_iload_n 1 3 hF dX5_image_2 rfl rfl rfl ?_
  refine v_bipush (15) 5 hF dX5_image_3 rfl (by decide) ?_
  refine v_icmp_ge 8 26 hF dX5_image_5 rfl (by decide) (fun _ => ?_) (fun _ => ?_)
  · refine v_iconst (0) 27 hF dX5_image_26 rfl (by decide) ?_
    refine v_istore_n (lo' := fun y8 => [(1, .int y8), (0, .ref (G.2.2.2.2 0))]) 28 hF dX5_image_27 rfl rfl (by decide) (fun _ => rfl) (fun y8 => ?_)
    refine VR.pick [1, 0] rfl ?_
    exact v_X5_image_L28 hF hs FU y8 M
  · refine v_aload_n 0 9 hF dX5_image_8 rfl rfl rfl ?_
    refine v_getR (b := 10) 12 hF dX5_image_9 rfl fl_X5_44 hs.1 rfl ?_
    refine v_iload_n 1 13 hF dX5_image_12 rfl rfl rfl ?_
    refine v_aload_n 0 14 hF dX5_image_13 rfl rfl rfl ?_
    refine v_getR (b := 4) 17 hF dX5_image_14 rfl fl_X5_26 hs.1 rfl ?_
    refine v_iload_n 1 18 hF dX5_image_17 rfl rfl rfl ?_
    refine v_iald 19 hF dX5_image_18 rfl (hs.2.2.2.2.1) ?_
    refine v_iast 20 hF dX5_image_19 rfl (hs.2.2.2.2.2.2.2.2.2.2.1) (fun M9 => ?_)
    refine v_iinc (v := (x1 + 1)) (lo' := fun y10 => [(1, .int y10), (0, .ref (G.2.2.2.2 0))]) 1 23 hF dX5_image_20 rfl rfl rfl (by decide) (fun _ => rfl) (fun y10 => ?_)
    refine v_goto 2 hF dX5_image_23 (by decide) ?_
    refine VR.pick [1, 0] rfl ?_
    exact h2 y10 M9
theorem v_X5_image_L2 {X : Cx} {G : Gx} {sh : List Sh} (hF : FX X G sh 2 cX5_image (yX5_image).cls (some .int) rmX5_image) (hs : ModAt sh) : ∀ (n : Nat), ∀ (x1 : Int32) (M : Mm), VR X G sh 2 rvI M 2 [(0, .ref (G.2.2.2.2 0)), (1, .int x1)] [] (m_X5_image_L2  n x1 M) := by
  intro n
  induction n with
  | zero => intro x1 M; exact VR.none
  | succ n ih => exact v_X5_image_B2 hF hs _ ih
set_option maxRecDepth 100000 in
set_option maxHeartbeats 4000000 in
theorem c_X5_image {G : Gx} {sh : List Sh} (hs : ModAt sh) (M : Mm)  : CT yX5_image cX5_image 2 (some .int) rmX5_image G sh [.ref (G.2.2.2.2 0)] rvI M (m_X5_image   M) := by
  refine CT.of (by decide +kernel) (Nat.le_of_ble_eq_true rfl) (fun X hF => ?_)
  show VR X G sh 2 rvI M 0 [(0, .ref (G.2.2.2.2 0))] [] _
  unfold m_X5_image
  refine v_iconst (0) 1 hF dX5_image_0 rfl (by decide) ?_
  refine v_istore_n (lo' := fun y11 => [(1, .int y11), (0, .ref (G.2.2.2.2 0))]) 2 hF dX5_image_1 rfl rfl (by decide) (fun _ => rfl) (fun y11 => ?_)
  refine VR.pick [1, 0] rfl ?_
  exact v_X5_image_L2 hF hs FU y11 M
abbrev rmX5_back : Room := { frames := 0, cells := 0, slots := 0, locals := 0 }
def m_X5_back_B39 (n39 : Int32 → Mm → Option (Int32 × Mm)) (x1 : Int32) (M : Mm) : Option (Int32 × Mm) := if (40 : Int32) ≤ x1 then (lt1 (up M 0 10 ((M 0 35))) fun M1 => lt1 (up M1 0 12 ((M1 0 36))) fun M2 => lt1 (up M2 0 7 ((M2 0 37))) fun M3 => lt1 (up M3 0 8 ((M3 0 38))) fun M4 => lt1 (up M4 0 4 ((M4 0 39))) fun M5 => some ((M5 0 10), M5)) else (gd (inr x1 40) (gd (inr x1 40) (lt1 (up M 5 x1.toNatClampNeg ((M 11 x1.toNatClampNeg))) fun M6 => lt1 (x1 + 1) fun y7 => n39 y7 M6)))
def m_X5_back_L39 : Nat → Int32 → Mm → Option (Int32 × Mm)
  | 0 => fun _ _ => none
  | n + 1 => m_X5_back_B39  (m_X5_back_L39  n)
def m_X5_back_B13 (n13 : Int32 → Mm → Option (Int32 × Mm)) (x1 : Int32) (M : Mm) : Option (Int32 × Mm) := if (15 : Int32) ≤ x1 then (lt1 ((0 : Int32)) fun y8 => m_X5_back_L39 FU y8 M) else (gd (inr x1 15) (gd (inr x1 15) (lt1 (up M 4 x1.toNatClampNeg ((M 10 x1.toNatClampNeg))) fun M9 => lt1 (x1 + 1) fun y10 => n13 y10 M9)))
def m_X5_back_L13 : Nat → Int32 → Mm → Option (Int32 × Mm)
  | 0 => fun _ _ => none
  | n + 1 => m_X5_back_B13  (m_X5_back_L13  n)
def m_X5_back  (M : Mm) : Option (Int32 × Mm) := if (M 0 35) = (-1 : Int32) then (some ((-3 : Int32), M)) else (lt1 ((0 : Int32)) fun y11 => m_X5_back_L13 FU y11 M)
set_option maxRecDepth 100000 in
set_option maxHeartbeats 4000000 in
theorem v_X5_back_B39 {X : Cx} {G : Gx} {sh : List Sh} (hF : FX X G sh 2 cX5_back (yX5_back).cls (some .int) rmX5_back) (hs : ModAt sh) (n39 : Int32 → Mm → Option (Int32 × Mm)) (h39 : ∀ (x1 : Int32) (M : Mm), VR X G sh 2 rvI M 39 [(0, .ref (G.2.2.2.2 0)), (1, .int x1)] [] (n39 x1 M)) : ∀ (x1 : Int32) (M : Mm), VR X G sh 2 rvI M 39 [(0, .ref (G.2.2.2.2 0)), (1, .int x1)] [] (m_X5_back_B39  n39 x1 M) := by
  intro x1 M
  unfold m_X5_back_B39
  refine v_iload_n 1 40 hF dX5_back_39 rfl rfl rfl ?_
  refine v_bipush (40) 42 hF dX5_back_40 rfl (by decide) ?_
  refine v_icmp_ge 45 63 hF dX5_back_42 rfl (by decide) (fun _ => ?_) (fun _ => ?_)
  · refine v_aload_n 0 64 hF dX5_back_63 rfl rfl rfl ?_
    refine v_aload_n 0 65 hF dX5_back_64 rfl rfl rfl ?_
    refine v_getI 68 hF dX5_back_65 rfl fl_X5_50 hs.1 rfl ?_
    refine v_putI 71 hF dX5_back_68 rfl fl_X5_73 fp_X5_10 hs.1 rfl (fun M1 => ?_)
    refine v_aload_n 0 72 hF dX5_back_71 rfl rfl rfl ?_
    refine v_aload_n 0 73 hF dX5_back_72 rfl rfl rfl ?_
    refine v_getI 76 hF dX5_back_73 rfl fl_X5_336 hs.1 rfl ?_
    refine v_putI 79 hF dX5_back_76 rfl fl_X5_80 fp_X5_12 hs.1 rfl (fun M2 => ?_)
    refine v_aload_n 0 80 hF dX5_back_79 rfl rfl rfl ?_
    refine v_aload_n 0 81 hF dX5_back_80 rfl rfl rfl ?_
    refine v_getI 84 hF dX5_back_81 rfl fl_X5_339 hs.1 rfl ?_
    refine v_putI 87 hF dX5_back_84 rfl fl_X5_108 fp_X5_7 hs.1 rfl (fun M3 => ?_)
    refine v_aload_n 0 88 hF dX5_back_87 rfl rfl rfl ?_
    refine v_aload_n 0 89 hF dX5_back_88 rfl rfl rfl ?_
    refine v_getI 92 hF dX5_back_89 rfl fl_X5_342 hs.1 rfl ?_
    refine v_putI 95 hF dX5_back_92 rfl fl_X5_23 fp_X5_8 hs.1 rfl (fun M4 => ?_)
    refine v_aload_n 0 96 hF dX5_back_95 rfl rfl rfl ?_
    refine v_aload_n 0 97 hF dX5_back_96 rfl rfl rfl ?_
    refine v_getI 100 hF dX5_back_97 rfl fl_X5_345 hs.1 rfl ?_
    refine v_putI 103 hF dX5_back_100 rfl fl_X5_111 fp_X5_4 hs.1 rfl (fun M5 => ?_)
    refine v_aload_n 0 104 hF dX5_back_103 rfl rfl rfl ?_
    refine v_getI 107 hF dX5_back_104 rfl fl_X5_73 hs.1 rfl ?_
    exact v_iret hF dX5_back_107
  · refine v_aload_n 0 46 hF dX5_back_45 rfl rfl rfl ?_
    refine v_getR (b := 5) 49 hF dX5_back_46 rfl fl_X5_29 hs.1 rfl ?_
    refine v_iload_n 1 50 hF dX5_back_49 rfl rfl rfl ?_
    refine v_aload_n 0 51 hF dX5_back_50 rfl rfl rfl ?_
    refine v_getR (b := 11) 54 hF dX5_back_51 rfl fl_X5_47 hs.1 rfl ?_
    refine v_iload_n 1 55 hF dX5_back_54 rfl rfl rfl ?_
    refine v_iald 56 hF dX5_back_55 rfl (hs.2.2.2.2.2.2.2.2.2.2.2.1) ?_
    refine v_iast 57 hF dX5_back_56 rfl (hs.2.2.2.2.2.1) (fun M6 => ?_)
    refine v_iinc (v := (x1 + 1)) (lo' := fun y7 => [(1, .int y7), (0, .ref (G.2.2.2.2 0))]) 1 60 hF dX5_back_57 rfl rfl rfl (by decide) (fun _ => rfl) (fun y7 => ?_)
    refine v_goto 39 hF dX5_back_60 (by decide) ?_
    refine VR.pick [1, 0] rfl ?_
    exact h39 y7 M6
theorem v_X5_back_L39 {X : Cx} {G : Gx} {sh : List Sh} (hF : FX X G sh 2 cX5_back (yX5_back).cls (some .int) rmX5_back) (hs : ModAt sh) : ∀ (n : Nat), ∀ (x1 : Int32) (M : Mm), VR X G sh 2 rvI M 39 [(0, .ref (G.2.2.2.2 0)), (1, .int x1)] [] (m_X5_back_L39  n x1 M) := by
  intro n
  induction n with
  | zero => intro x1 M; exact VR.none
  | succ n ih => exact v_X5_back_B39 hF hs _ ih
set_option maxRecDepth 100000 in
set_option maxHeartbeats 4000000 in
theorem v_X5_back_B13 {X : Cx} {G : Gx} {sh : List Sh} (hF : FX X G sh 2 cX5_back (yX5_back).cls (some .int) rmX5_back) (hs : ModAt sh) (n13 : Int32 → Mm → Option (Int32 × Mm)) (h13 : ∀ (x1 : Int32) (M : Mm), VR X G sh 2 rvI M 13 [(0, .ref (G.2.2.2.2 0)), (1, .int x1)] [] (n13 x1 M)) : ∀ (x1 : Int32) (M : Mm), VR X G sh 2 rvI M 13 [(0, .ref (G.2.2.2.2 0)), (1, .int x1)] [] (m_X5_back_B13  n13 x1 M) := by
  intro x1 M
  unfold m_X5_back_B13
  refine v_iload_n 1 14 hF dX5_back_13 rfl rfl rfl ?_
  refine v_bipush (15) 16 hF dX5_back_14 rfl (by decide) ?_
  refine v_icmp_ge 19 37 hF dX5_back_16 rfl (by decide) (fun _ => ?_) (fun _ => ?_)
  · refine v_iconst (0) 38 hF dX5_back_37 rfl (by decide) ?_
    refine v_istore_n (lo' := fun y8 => [(1, .int y8), (0, .ref (G.2.2.2.2 0))]) 39 hF dX5_back_38 rfl rfl (by decide) (fun _ => rfl) (fun y8 => ?_)
    refine VR.pick [1, 0] rfl ?_
    exact v_X5_back_L39 hF hs FU y8 M
  · refine v_aload_n 0 20 hF dX5_back_19 rfl rfl rfl ?_
    refine v_getR (b := 4) 23 hF dX5_back_20 rfl fl_X5_26 hs.1 rfl ?_
    refine v_iload_n 1 24 hF dX5_back_23 rfl rfl rfl ?_
    refine v_aload_n 0 25 hF dX5_back_24 rfl rfl rfl ?_
    refine v_getR (b := 10) 28 hF dX5_back_25 rfl fl_X5_44 hs.1 rfl ?_
    refine v_iload_n 1 29 hF dX5_back_28 rfl rfl rfl ?_
    refine v_iald 30 hF dX5_back_29 rfl (hs.2.2.2.2.2.2.2.2.2.2.1) ?_
    refine v_iast 31 hF dX5_back_30 rfl (hs.2.2.2.2.1) (fun M9 => ?_)
    refine v_iinc (v := (x1 + 1)) (lo' := fun y10 => [(1, .int y10), (0, .ref (G.2.2.2.2 0))]) 1 34 hF dX5_back_31 rfl rfl rfl (by decide) (fun _ => rfl) (fun y10 => ?_)
    refine v_goto 13 hF dX5_back_34 (by decide) ?_
    refine VR.pick [1, 0] rfl ?_
    exact h13 y10 M9
theorem v_X5_back_L13 {X : Cx} {G : Gx} {sh : List Sh} (hF : FX X G sh 2 cX5_back (yX5_back).cls (some .int) rmX5_back) (hs : ModAt sh) : ∀ (n : Nat), ∀ (x1 : Int32) (M : Mm), VR X G sh 2 rvI M 13 [(0, .ref (G.2.2.2.2 0)), (1, .int x1)] [] (m_X5_back_L13  n x1 M) := by
  intro n
  induction n with
  | zero => intro x1 M; exact VR.none
  | succ n ih => exact v_X5_back_B13 hF hs _ ih
set_option maxRecDepth 100000 in
set_option maxHeartbeats 4000000 in
theorem c_X5_back {G : Gx} {sh : List Sh} (hs : ModAt sh) (M : Mm)  : CT yX5_back cX5_back 2 (some .int) rmX5_back G sh [.ref (G.2.2.2.2 0)] rvI M (m_X5_back   M) := by
  refine CT.of (by decide +kernel) (Nat.le_of_ble_eq_true rfl) (fun X hF => ?_)
  show VR X G sh 2 rvI M 0 [(0, .ref (G.2.2.2.2 0))] [] _
  unfold m_X5_back
  refine v_aload_n 0 1 hF dX5_back_0 rfl rfl rfl ?_
  refine v_getI 4 hF dX5_back_1 rfl fl_X5_50 hs.1 rfl ?_
  refine v_iconst (-1) 5 hF dX5_back_4 rfl (by decide) ?_
  refine v_icmp_ne 8 11 hF dX5_back_5 rfl (by decide) (fun _ => ?_) (fun _ => ?_)
  · refine v_iconst (0) 12 hF dX5_back_11 rfl (by decide) ?_
    refine v_istore_n (lo' := fun y11 => [(1, .int y11), (0, .ref (G.2.2.2.2 0))]) 13 hF dX5_back_12 rfl rfl (by decide) (fun _ => rfl) (fun y11 => ?_)
    refine VR.pick [1, 0] rfl ?_
    exact v_X5_back_L13 hF hs FU y11 M
  · refine v_bipush (-3) 10 hF dX5_back_8 rfl (by decide) ?_
    exact v_iret hF dX5_back_10
abbrev rmX5_count : Room := { frames := 2, cells := 0, slots := 0, locals := 42 }
def m_X5_count (x1 : Int32) (M : Mm) : Option (Int32 × Mm) := bd (m_X5_in (((x1).toInt64)) ((0 : Int64)) ((5 : Int64)) M) fun r2 M1 => if r2 = 0 then (some ((-2 : Int32), M1)) else (if x1 = 0 then (some ((M1 0 10), M1)) else (if x1 = (1 : Int32) then (some ((M1 0 12), M1)) else (if x1 = (2 : Int32) then (bd (m_X5_homeMany M1) fun r4 M3 => some (r4, M3)) else (if x1 = (3 : Int32) then (some ((M1 0 3), M1)) else (if x1 = (4 : Int32) then (some ((M1 0 6), M1)) else (some ((M1 0 4), M1)))))))
set_option maxRecDepth 100000 in
set_option maxHeartbeats 4000000 in
theorem c_X5_count {G : Gx} {sh : List Sh} (hs : ModAt sh) (M : Mm) (x1 : Int32) : CT yX5_count cX5_count 2 (some .int) rmX5_count G sh [.ref (G.2.2.2.2 0), .int x1] rvI M (m_X5_count  x1 M) := by
  refine CT.of (by decide +kernel) (Nat.le_of_ble_eq_true rfl) (fun X hF => ?_)
  show VR X G sh 2 rvI M 0 [(0, .ref (G.2.2.2.2 0)), (1, .int x1)] [] _
  unfold m_X5_count
  refine v_iload_n 1 1 hF dX5_count_0 rfl rfl rfl ?_
  refine v_i2l 2 hF dX5_count_1 rfl ?_
  refine v_lconst 0 3 hF dX5_count_2 rfl (by decide) ?_
  refine v_ldc2 (5) 6 hF dX5_count_3 rfl cc_X5_114 ?_
  refine v_staI ([.long (((x1).toInt64)), .long ((0 : Int64)), .long ((5 : Int64))]) ([]) 9 hF dX5_count_6 rfl cw_X5_76 (c_X5_in (G := G) (sh := sh) M (((x1).toInt64)) ((0 : Int64)) ((5 : Int64))) ⟨rfl, rfl, Nat.le_of_ble_eq_true rfl, Nat.le_of_ble_eq_true rfl⟩ rfl rfl (Nat.le_of_ble_eq_true rfl) (fun r2 M1 => ?_)
  refine v_if_ne 12 15 hF dX5_count_9 rfl (by decide) (fun _ => ?_) (fun _ => ?_)
  · refine v_iload_n 1 16 hF dX5_count_15 rfl rfl rfl ?_
    refine v_if_ne 19 26 hF dX5_count_16 rfl (by decide) (fun _ => ?_) (fun _ => ?_)
    · refine v_iload_n 1 27 hF dX5_count_26 rfl rfl rfl ?_
      refine v_iconst (1) 28 hF dX5_count_27 rfl (by decide) ?_
      refine v_icmp_ne 31 38 hF dX5_count_28 rfl (by decide) (fun _ => ?_) (fun _ => ?_)
      · refine v_iload_n 1 39 hF dX5_count_38 rfl rfl rfl ?_
        refine v_iconst (2) 40 hF dX5_count_39 rfl (by decide) ?_
        refine v_icmp_ne 43 50 hF dX5_count_40 rfl (by decide) (fun _ => ?_) (fun _ => ?_)
        · refine v_iload_n 1 51 hF dX5_count_50 rfl rfl rfl ?_
          refine v_iconst (3) 52 hF dX5_count_51 rfl (by decide) ?_
          refine v_icmp_ne 55 62 hF dX5_count_52 rfl (by decide) (fun _ => ?_) (fun _ => ?_)
          · refine v_iload_n 1 63 hF dX5_count_62 rfl rfl rfl ?_
            refine v_iconst (4) 64 hF dX5_count_63 rfl (by decide) ?_
            refine v_icmp_ne 67 74 hF dX5_count_64 rfl (by decide) (fun _ => ?_) (fun _ => ?_)
            · refine v_aload_n 0 75 hF dX5_count_74 rfl rfl rfl ?_
              refine v_getI 78 hF dX5_count_75 rfl fl_X5_111 hs.1 rfl ?_
              exact v_iret hF dX5_count_78
            · refine v_aload_n 0 68 hF dX5_count_67 rfl rfl rfl ?_
              refine v_getI 71 hF dX5_count_68 rfl fl_X5_133 hs.1 rfl ?_
              refine v_goto 78 hF dX5_count_71 (by decide) ?_
              exact v_iret hF dX5_count_78
          · refine v_aload_n 0 56 hF dX5_count_55 rfl rfl rfl ?_
            refine v_getI 59 hF dX5_count_56 rfl fl_X5_70 hs.1 rfl ?_
            refine v_goto 78 hF dX5_count_59 (by decide) ?_
            exact v_iret hF dX5_count_78
        · refine v_aload_n 0 44 hF dX5_count_43 rfl rfl rfl ?_
          refine v_callI ([]) ([]) 47 hF dX5_count_44 rfl cw_X5_288 rfl (hs.1) (c_X5_homeMany (G := G) hs M1) ⟨rfl, rfl, Nat.le_of_ble_eq_true rfl, Nat.le_of_ble_eq_true rfl⟩ rfl rfl (Nat.le_of_ble_eq_true rfl) (fun r4 M3 => ?_)
          refine v_goto 78 hF dX5_count_47 (by decide) ?_
          exact v_iret hF dX5_count_78
      · refine v_aload_n 0 32 hF dX5_count_31 rfl rfl rfl ?_
        refine v_getI 35 hF dX5_count_32 rfl fl_X5_80 hs.1 rfl ?_
        refine v_goto 78 hF dX5_count_35 (by decide) ?_
        exact v_iret hF dX5_count_78
    · refine v_aload_n 0 20 hF dX5_count_19 rfl rfl rfl ?_
      refine v_getI 23 hF dX5_count_20 rfl fl_X5_73 hs.1 rfl ?_
      refine v_goto 78 hF dX5_count_23 (by decide) ?_
      exact v_iret hF dX5_count_78
  · refine v_bipush (-2) 14 hF dX5_count_12 rfl (by decide) ?_
    exact v_iret hF dX5_count_14
abbrev rmX5_cell : Room := { frames := 2, cells := 0, slots := 0, locals := 45 }
def m_X5_cell_J83 (s0 : Int32) (s1 : Int32) (M : Mm) : Option (Int32 × Mm) := gd (inr s1 160) (lt1 (up M 15 s1.toNatClampNeg s0) fun M1 => some ((1 : Int32), M1))
def m_X5_cell (x1 : Int32) (x2 : Int32) (x3 : Int32) (M : Mm) : Option (Int32 × Mm) := bd (m_X5_isSheet x1 M) fun r3 M2 => if r3 = 0 then (some ((-2 : Int32), M2)) else (gd (inr x1 4) (if (M2 12 x1.toNatClampNeg) = 0 then (some ((-11 : Int32), M2)) else (gd (inr x1 4) (bd (m_X5_in (((x2).toInt64)) ((0 : Int64)) (((((M2 14 x1.toNatClampNeg) - (1 : Int32))).toInt64)) M2) fun r5 M4 => if r5 = 0 then (some ((-12 : Int32), M4)) else (gd (inr x1 4) (if (M4 13 x1.toNatClampNeg) = 0 then (m_X5_cell_J83 (((x3).toInt8.toInt32)) ((((40 : Int32) * x1) + x2)) M4) else (gd (inr x1 4) (if (M4 13 x1.toNatClampNeg) = (1 : Int32) then (m_X5_cell_J83 (((x3).toInt16.toInt32)) ((((40 : Int32) * x1) + x2)) M4) else (m_X5_cell_J83 x3 ((((40 : Int32) * x1) + x2)) M4)))))))))
set_option maxRecDepth 100000 in
set_option maxHeartbeats 4000000 in
theorem v_X5_cell_J83 {X : Cx} {G : Gx} {sh : List Sh} (hF : FX X G sh 4 cX5_cell (yX5_cell).cls (some .int) rmX5_cell) (hs : ModAt sh) : ∀ (s0 : Int32) (s1 : Int32) (M : Mm), VR X G sh 4 rvI M 83 [(0, .ref (G.2.2.2.2 0))] [.int s0, .int s1, .ref (G.2.2.2.2 15)] (m_X5_cell_J83  s0 s1 M) := by
  intro s0 s1 M
  unfold m_X5_cell_J83
  refine v_iast 84 hF dX5_cell_83 rfl (hs.2.2.2.2.2.2.2.2.2.2.2.2.2.2.2) (fun M1 => ?_)
  refine v_iconst (1) 85 hF dX5_cell_84 rfl (by decide) ?_
  exact v_iret hF dX5_cell_85
set_option maxRecDepth 100000 in
set_option maxHeartbeats 4000000 in
theorem c_X5_cell {G : Gx} {sh : List Sh} (hs : ModAt sh) (M : Mm) (x1 : Int32) (x2 : Int32) (x3 : Int32) : CT yX5_cell cX5_cell 4 (some .int) rmX5_cell G sh [.ref (G.2.2.2.2 0), .int x1, .int x2, .int x3] rvI M (m_X5_cell  x1 x2 x3 M) := by
  refine CT.of (by decide +kernel) (Nat.le_of_ble_eq_true rfl) (fun X hF => ?_)
  show VR X G sh 4 rvI M 0 [(0, .ref (G.2.2.2.2 0)), (1, .int x1), (2, .int x2), (3, .int x3)] [] _
  unfold m_X5_cell
  refine v_iload_n 1 1 hF dX5_cell_0 rfl rfl rfl ?_
  refine v_staI ([.int x1]) ([]) 4 hF dX5_cell_1 rfl cw_X5_319 (c_X5_isSheet (G := G) (sh := sh) M x1) ⟨rfl, rfl, Nat.le_of_ble_eq_true rfl, Nat.le_of_ble_eq_true rfl⟩ rfl rfl (Nat.le_of_ble_eq_true rfl) (fun r3 M2 => ?_)
  refine v_if_ne 7 10 hF dX5_cell_4 rfl (by decide) (fun _ => ?_) (fun _ => ?_)
  · refine v_aload_n 0 11 hF dX5_cell_10 rfl rfl rfl ?_
    refine v_getR (b := 12) 14 hF dX5_cell_11 rfl fl_X5_53 hs.1 rfl ?_
    refine v_iload_n 1 15 hF dX5_cell_14 rfl rfl rfl ?_
    refine v_zald 16 hF dX5_cell_15 rfl (hs.2.2.2.2.2.2.2.2.2.2.2.2.1) ?_
    refine v_if_ne 19 22 hF dX5_cell_16 rfl (by decide) (fun _ => ?_) (fun _ => ?_)
    · refine v_iload_n 2 23 hF dX5_cell_22 rfl rfl rfl ?_
      refine v_i2l 24 hF dX5_cell_23 rfl ?_
      refine v_lconst 0 25 hF dX5_cell_24 rfl (by decide) ?_
      refine v_aload_n 0 26 hF dX5_cell_25 rfl rfl rfl ?_
      refine v_getR (b := 14) 29 hF dX5_cell_26 rfl fl_X5_60 hs.1 rfl ?_
      refine v_iload_n 1 30 hF dX5_cell_29 rfl rfl rfl ?_
      refine v_iald 31 hF dX5_cell_30 rfl (hs.2.2.2.2.2.2.2.2.2.2.2.2.2.2.1) ?_
      refine v_iconst (1) 32 hF dX5_cell_31 rfl (by decide) ?_
      refine v_isub 33 hF dX5_cell_32 rfl ?_
      refine v_i2l 34 hF dX5_cell_33 rfl ?_
      refine v_staI ([.long (((x2).toInt64)), .long ((0 : Int64)), .long (((((M2 14 x1.toNatClampNeg) - (1 : Int32))).toInt64))]) ([]) 37 hF dX5_cell_34 rfl cw_X5_76 (c_X5_in (G := G) (sh := sh) M2 (((x2).toInt64)) ((0 : Int64)) (((((M2 14 x1.toNatClampNeg) - (1 : Int32))).toInt64))) ⟨rfl, rfl, Nat.le_of_ble_eq_true rfl, Nat.le_of_ble_eq_true rfl⟩ rfl rfl (Nat.le_of_ble_eq_true rfl) (fun r5 M4 => ?_)
      refine v_if_ne 40 43 hF dX5_cell_37 rfl (by decide) (fun _ => ?_) (fun _ => ?_)
      · refine v_aload_n 0 44 hF dX5_cell_43 rfl rfl rfl ?_
        refine v_getR (b := 15) 47 hF dX5_cell_44 rfl fl_X5_63 hs.1 rfl ?_
        refine v_bipush (40) 49 hF dX5_cell_47 rfl (by decide) ?_
        refine v_iload_n 1 50 hF dX5_cell_49 rfl rfl rfl ?_
        refine v_imul 51 hF dX5_cell_50 rfl ?_
        refine v_iload_n 2 52 hF dX5_cell_51 rfl rfl rfl ?_
        refine v_iadd 53 hF dX5_cell_52 rfl ?_
        refine v_aload_n 0 54 hF dX5_cell_53 rfl rfl rfl ?_
        refine v_getR (b := 13) 57 hF dX5_cell_54 rfl fl_X5_57 hs.1 rfl ?_
        refine v_iload_n 1 58 hF dX5_cell_57 rfl rfl rfl ?_
        refine v_iald 59 hF dX5_cell_58 rfl (hs.2.2.2.2.2.2.2.2.2.2.2.2.2.1) ?_
        refine v_if_ne 62 67 hF dX5_cell_59 rfl (by decide) (fun _ => ?_) (fun _ => ?_)
        · refine v_aload_n 0 68 hF dX5_cell_67 rfl rfl rfl ?_
          refine v_getR (b := 13) 71 hF dX5_cell_68 rfl fl_X5_57 hs.1 rfl ?_
          refine v_iload_n 1 72 hF dX5_cell_71 rfl rfl rfl ?_
          refine v_iald 73 hF dX5_cell_72 rfl (hs.2.2.2.2.2.2.2.2.2.2.2.2.2.1) ?_
          refine v_iconst (1) 74 hF dX5_cell_73 rfl (by decide) ?_
          refine v_icmp_ne 77 82 hF dX5_cell_74 rfl (by decide) (fun _ => ?_) (fun _ => ?_)
          · refine v_iload_n 3 83 hF dX5_cell_82 rfl rfl rfl ?_
            refine VR.pick [0] rfl ?_
            exact v_X5_cell_J83 hF hs x3 ((((40 : Int32) * x1) + x2)) M4
          · refine v_iload_n 3 78 hF dX5_cell_77 rfl rfl rfl ?_
            refine v_i2s 79 hF dX5_cell_78 rfl ?_
            refine v_goto 83 hF dX5_cell_79 (by decide) ?_
            refine VR.pick [0] rfl ?_
            exact v_X5_cell_J83 hF hs (((x3).toInt16.toInt32)) ((((40 : Int32) * x1) + x2)) M4
        · refine v_iload_n 3 63 hF dX5_cell_62 rfl rfl rfl ?_
          refine v_i2b 64 hF dX5_cell_63 rfl ?_
          refine v_goto 83 hF dX5_cell_64 (by decide) ?_
          refine VR.pick [0] rfl ?_
          exact v_X5_cell_J83 hF hs (((x3).toInt8.toInt32)) ((((40 : Int32) * x1) + x2)) M4
      · refine v_bipush (-12) 42 hF dX5_cell_40 rfl (by decide) ?_
        exact v_iret hF dX5_cell_42
    · refine v_bipush (-11) 21 hF dX5_cell_19 rfl (by decide) ?_
      exact v_iret hF dX5_cell_21
  · refine v_bipush (-2) 9 hF dX5_cell_7 rfl (by decide) ?_
    exact v_iret hF dX5_cell_9
abbrev rmX5_copy : Room := { frames := 2, cells := 0, slots := 0, locals := 45 }
def m_X5_copy_J145 (n121 : Int32 → Int32 → Int32 → Int32 → Int32 → Int32 → Int32 → Mm → Option (Int32 × Mm)) (x1 : Int32) (x2 : Int32) (x3 : Int32) (x4 : Int32) (x5 : Int32) (x6 : Int32) (x7 : Int32) (s0 : Int32) (M : Mm) : Option (Int32 × Mm) := lt1 s0 fun y1 => gd (inr (((((40 : Int32) * x1) + x2) + y1)) 160) (gd (inr (((((40 : Int32) * x3) + x4) + y1)) 160) (lt1 (up M 15 (((((40 : Int32) * x3) + x4) + y1)).toNatClampNeg ((M 15 (((((40 : Int32) * x1) + x2) + y1)).toNatClampNeg))) fun M2 => lt1 (x7 + 1) fun y3 => n121 x1 x2 x3 x4 x5 x6 y3 M2))
def m_X5_copy_B121 (n121 : Int32 → Int32 → Int32 → Int32 → Int32 → Int32 → Int32 → Mm → Option (Int32 × Mm)) (x1 : Int32) (x2 : Int32) (x3 : Int32) (x4 : Int32) (x5 : Int32) (x6 : Int32) (x7 : Int32) (M : Mm) : Option (Int32 × Mm) := if x5 ≤ x7 then (some (x5, M)) else (if x6 = 0 then (m_X5_copy_J145 n121 x1 x2 x3 x4 x5 x6 x7 x7 M) else (m_X5_copy_J145 n121 x1 x2 x3 x4 x5 x6 x7 (((x5 - (1 : Int32)) - x7)) M))
def m_X5_copy_L121 : Nat → Int32 → Int32 → Int32 → Int32 → Int32 → Int32 → Int32 → Mm → Option (Int32 × Mm)
  | 0 => fun _ _ _ _ _ _ _ _ => none
  | n + 1 => m_X5_copy_B121  (m_X5_copy_L121  n)
def m_X5_copy_J116 (x1 : Int32) (x2 : Int32) (x3 : Int32) (x4 : Int32) (x5 : Int32) (s0 : Int32) (M : Mm) : Option (Int32 × Mm) := lt1 s0 fun y4 => lt1 ((0 : Int32)) fun y5 => m_X5_copy_L121 FU x1 x2 x3 x4 x5 y4 y5 M
def m_X5_copy_J115 (x1 : Int32) (x2 : Int32) (x3 : Int32) (x4 : Int32) (x5 : Int32) (M : Mm) : Option (Int32 × Mm) := m_X5_copy_J116 x1 x2 x3 x4 x5 ((0 : Int32)) M
def m_X5_copy (x1 : Int32) (x2 : Int32) (x3 : Int32) (x4 : Int32) (x5 : Int32) (M : Mm) : Option (Int32 × Mm) := bd (m_X5_isSheet x1 M) fun r7 M6 => if r7 = 0 then (some ((-2 : Int32), M6)) else (bd (m_X5_isSheet x3 M6) fun r9 M8 => if r9 = 0 then (some ((-2 : Int32), M8)) else (gd (inr x1 4) (if (M8 12 x1.toNatClampNeg) = 0 then (some ((-11 : Int32), M8)) else (gd (inr x3 4) (if (M8 12 x3.toNatClampNeg) = 0 then (some ((-11 : Int32), M8)) else (gd (inr x1 4) (gd (inr x3 4) (if (M8 13 x1.toNatClampNeg) = (M8 13 x3.toNatClampNeg) then (if x5 < 0 then (some ((-12 : Int32), M8)) else (if x2 < 0 then (some ((-12 : Int32), M8)) else (if x4 < 0 then (some ((-12 : Int32), M8)) else (gd (inr x1 4) (if ((M8 14 x1.toNatClampNeg) - x5) < x2 then (some ((-12 : Int32), M8)) else (gd (inr x3 4) (if x4 ≤ ((M8 14 x3.toNatClampNeg) - x5) then (if x1 = x3 then (if x4 ≤ x2 then (m_X5_copy_J115 x1 x2 x3 x4 x5 M8) else (m_X5_copy_J116 x1 x2 x3 x4 x5 ((1 : Int32)) M8)) else (m_X5_copy_J115 x1 x2 x3 x4 x5 M8)) else (some ((-12 : Int32), M8))))))))) else (some ((-13 : Int32), M8))))))))))
set_option maxRecDepth 100000 in
set_option maxHeartbeats 4000000 in
theorem v_X5_copy_J145 {X : Cx} {G : Gx} {sh : List Sh} (hF : FX X G sh 9 cX5_copy (yX5_copy).cls (some .int) rmX5_copy) (hs : ModAt sh) (n121 : Int32 → Int32 → Int32 → Int32 → Int32 → Int32 → Int32 → Mm → Option (Int32 × Mm)) (h121 : ∀ (x1 : Int32) (x2 : Int32) (x3 : Int32) (x4 : Int32) (x5 : Int32) (x6 : Int32) (x7 : Int32) (M : Mm), VR X G sh 9 rvI M 121 [(0, .ref (G.2.2.2.2 0)), (1, .int x1), (2, .int x2), (3, .int x3), (4, .int x4), (5, .int x5), (6, .int x6), (7, .int x7)] [] (n121 x1 x2 x3 x4 x5 x6 x7 M)) : ∀ (x1 : Int32) (x2 : Int32) (x3 : Int32) (x4 : Int32) (x5 : Int32) (x6 : Int32) (x7 : Int32) (s0 : Int32) (M : Mm), VR X G sh 9 rvI M 145 [(0, .ref (G.2.2.2.2 0)), (1, .int x1), (2, .int x2), (3, .int x3), (4, .int x4), (5, .int x5), (6, .int x6), (7, .int x7)] [.int s0] (m_X5_copy_J145  n121 x1 x2 x3 x4 x5 x6 x7 s0 M) := by
  intro x1 x2 x3 x4 x5 x6 x7 s0 M
  unfold m_X5_copy_J145
  refine v_istore (lo' := fun y1 => [(8, .int y1), (0, .ref (G.2.2.2.2 0)), (1, .int x1), (2, .int x2), (3, .int x3), (4, .int x4), (5, .int x5), (6, .int x6), (7, .int x7)]) 147 hF dX5_copy_145 rfl (by decide) (fun _ => rfl) (fun y1 => ?_)
  refine v_aload_n 1 148 hF dX5_copy_147 rfl rfl rfl ?_
  refine v_getR (b := 15) 151 hF dX5_copy_148 rfl fl_X5_63 hs.1 rfl ?_
  refine v_bipush (40) 153 hF dX5_copy_151 rfl (by decide) ?_
  refine v_iload_n 4 154 hF dX5_copy_153 rfl rfl rfl ?_
  refine v_imul 155 hF dX5_copy_154 rfl ?_
  refine v_iload 5 157 hF dX5_copy_155 rfl rfl ?_
  refine v_iadd 158 hF dX5_copy_157 rfl ?_
  refine v_iload 0 160 hF dX5_copy_158 rfl rfl ?_
  refine v_iadd 161 hF dX5_copy_160 rfl ?_
  refine v_aload_n 1 162 hF dX5_copy_161 rfl rfl rfl ?_
  refine v_getR (b := 15) 165 hF dX5_copy_162 rfl fl_X5_63 hs.1 rfl ?_
  refine v_bipush (40) 167 hF dX5_copy_165 rfl (by decide) ?_
  refine v_iload_n 2 168 hF dX5_copy_167 rfl rfl rfl ?_
  refine v_imul 169 hF dX5_copy_168 rfl ?_
  refine v_iload_n 3 170 hF dX5_copy_169 rfl rfl rfl ?_
  refine v_iadd 171 hF dX5_copy_170 rfl ?_
  refine v_iload 0 173 hF dX5_copy_171 rfl rfl ?_
  refine v_iadd 174 hF dX5_copy_173 rfl ?_
  refine v_iald 175 hF dX5_copy_174 rfl (hs.2.2.2.2.2.2.2.2.2.2.2.2.2.2.2) ?_
  refine v_iast 176 hF dX5_copy_175 rfl (hs.2.2.2.2.2.2.2.2.2.2.2.2.2.2.2) (fun M2 => ?_)
  refine v_iinc (v := (x7 + 1)) (lo' := fun y3 => [(7, .int y3), (8, .int y1), (0, .ref (G.2.2.2.2 0)), (1, .int x1), (2, .int x2), (3, .int x3), (4, .int x4), (5, .int x5), (6, .int x6)]) 8 179 hF dX5_copy_176 rfl rfl rfl (by decide) (fun _ => rfl) (fun y3 => ?_)
  refine v_goto 121 hF dX5_copy_179 (by decide) ?_
  refine VR.pick [2, 3, 4, 5, 6, 7, 8, 0] rfl ?_
  exact h121 x1 x2 x3 x4 x5 x6 y3 M2
set_option maxRecDepth 100000 in
set_option maxHeartbeats 4000000 in
theorem v_X5_copy_B121 {X : Cx} {G : Gx} {sh : List Sh} (hF : FX X G sh 9 cX5_copy (yX5_copy).cls (some .int) rmX5_copy) (hs : ModAt sh) (n121 : Int32 → Int32 → Int32 → Int32 → Int32 → Int32 → Int32 → Mm → Option (Int32 × Mm)) (h121 : ∀ (x1 : Int32) (x2 : Int32) (x3 : Int32) (x4 : Int32) (x5 : Int32) (x6 : Int32) (x7 : Int32) (M : Mm), VR X G sh 9 rvI M 121 [(0, .ref (G.2.2.2.2 0)), (1, .int x1), (2, .int x2), (3, .int x3), (4, .int x4), (5, .int x5), (6, .int x6), (7, .int x7)] [] (n121 x1 x2 x3 x4 x5 x6 x7 M)) : ∀ (x1 : Int32) (x2 : Int32) (x3 : Int32) (x4 : Int32) (x5 : Int32) (x6 : Int32) (x7 : Int32) (M : Mm), VR X G sh 9 rvI M 121 [(0, .ref (G.2.2.2.2 0)), (1, .int x1), (2, .int x2), (3, .int x3), (4, .int x4), (5, .int x5), (6, .int x6), (7, .int x7)] [] (m_X5_copy_B121  n121 x1 x2 x3 x4 x5 x6 x7 M) := by
  intro x1 x2 x3 x4 x5 x6 x7 M
  unfold m_X5_copy_B121
  refine v_iload 7 123 hF dX5_copy_121 rfl rfl ?_
  refine v_iload 5 125 hF dX5_copy_123 rfl rfl ?_
  refine v_icmp_ge 128 182 hF dX5_copy_125 rfl (by decide) (fun _ => ?_) (fun _ => ?_)
  · refine v_iload 5 184 hF dX5_copy_182 rfl rfl ?_
    exact v_iret hF dX5_copy_184
  · refine v_iload 6 130 hF dX5_copy_128 rfl rfl ?_
    refine v_if_eq 133 143 hF dX5_copy_130 rfl (by decide) (fun _ => ?_) (fun _ => ?_)
    · refine v_iload 7 145 hF dX5_copy_143 rfl rfl ?_
      refine VR.pick [0, 1, 2, 3, 4, 5, 6, 7] rfl ?_
      exact v_X5_copy_J145 hF hs _ h121 x1 x2 x3 x4 x5 x6 x7 x7 M
    · refine v_iload 5 135 hF dX5_copy_133 rfl rfl ?_
      refine v_iconst (1) 136 hF dX5_copy_135 rfl (by decide) ?_
      refine v_isub 137 hF dX5_copy_136 rfl ?_
      refine v_iload 7 139 hF dX5_copy_137 rfl rfl ?_
      refine v_isub 140 hF dX5_copy_139 rfl ?_
      refine v_goto 145 hF dX5_copy_140 (by decide) ?_
      refine VR.pick [0, 1, 2, 3, 4, 5, 6, 7] rfl ?_
      exact v_X5_copy_J145 hF hs _ h121 x1 x2 x3 x4 x5 x6 x7 (((x5 - (1 : Int32)) - x7)) M
theorem v_X5_copy_L121 {X : Cx} {G : Gx} {sh : List Sh} (hF : FX X G sh 9 cX5_copy (yX5_copy).cls (some .int) rmX5_copy) (hs : ModAt sh) : ∀ (n : Nat), ∀ (x1 : Int32) (x2 : Int32) (x3 : Int32) (x4 : Int32) (x5 : Int32) (x6 : Int32) (x7 : Int32) (M : Mm), VR X G sh 9 rvI M 121 [(0, .ref (G.2.2.2.2 0)), (1, .int x1), (2, .int x2), (3, .int x3), (4, .int x4), (5, .int x5), (6, .int x6), (7, .int x7)] [] (m_X5_copy_L121  n x1 x2 x3 x4 x5 x6 x7 M) := by
  intro n
  induction n with
  | zero => intro x1 x2 x3 x4 x5 x6 x7 M; exact VR.none
  | succ n ih => exact v_X5_copy_B121 hF hs _ ih
set_option maxRecDepth 100000 in
set_option maxHeartbeats 4000000 in
theorem v_X5_copy_J116 {X : Cx} {G : Gx} {sh : List Sh} (hF : FX X G sh 9 cX5_copy (yX5_copy).cls (some .int) rmX5_copy) (hs : ModAt sh) : ∀ (x1 : Int32) (x2 : Int32) (x3 : Int32) (x4 : Int32) (x5 : Int32) (s0 : Int32) (M : Mm), VR X G sh 9 rvI M 116 [(0, .ref (G.2.2.2.2 0)), (1, .int x1), (2, .int x2), (3, .int x3), (4, .int x4), (5, .int x5)] [.int s0] (m_X5_copy_J116  x1 x2 x3 x4 x5 s0 M) := by
  intro x1 x2 x3 x4 x5 s0 M
  unfold m_X5_copy_J116
  refine v_istore (lo' := fun y4 => [(6, .int y4), (0, .ref (G.2.2.2.2 0)), (1, .int x1), (2, .int x2), (3, .int x3), (4, .int x4), (5, .int x5)]) 118 hF dX5_copy_116 rfl (by decide) (fun _ => rfl) (fun y4 => ?_)
  refine v_iconst (0) 119 hF dX5_copy_118 rfl (by decide) ?_
  refine v_istore (lo' := fun y5 => [(7, .int y5), (6, .int y4), (0, .ref (G.2.2.2.2 0)), (1, .int x1), (2, .int x2), (3, .int x3), (4, .int x4), (5, .int x5)]) 121 hF dX5_copy_119 rfl (by decide) (fun _ => rfl) (fun y5 => ?_)
  refine VR.pick [2, 3, 4, 5, 6, 7, 1, 0] rfl ?_
  exact v_X5_copy_L121 hF hs FU x1 x2 x3 x4 x5 y4 y5 M
set_option maxRecDepth 100000 in
set_option maxHeartbeats 4000000 in
theorem v_X5_copy_J115 {X : Cx} {G : Gx} {sh : List Sh} (hF : FX X G sh 9 cX5_copy (yX5_copy).cls (some .int) rmX5_copy) (hs : ModAt sh) : ∀ (x1 : Int32) (x2 : Int32) (x3 : Int32) (x4 : Int32) (x5 : Int32) (M : Mm), VR X G sh 9 rvI M 115 [(0, .ref (G.2.2.2.2 0)), (1, .int x1), (2, .int x2), (3, .int x3), (4, .int x4), (5, .int x5)] [] (m_X5_copy_J115  x1 x2 x3 x4 x5 M) := by
  intro x1 x2 x3 x4 x5 M
  unfold m_X5_copy_J115
  refine v_iconst (0) 116 hF dX5_copy_115 rfl (by decide) ?_
  refine VR.pick [0, 1, 2, 3, 4, 5] rfl ?_
  exact v_X5_copy_J116 hF hs x1 x2 x3 x4 x5 ((0 : Int32)) M
set_option maxRecDepth 100000 in
set_option maxHeartbeats 4000000 in
theorem c_X5_copy {G : Gx} {sh : List Sh} (hs : ModAt sh) (M : Mm) (x1 : Int32) (x2 : Int32) (x3 : Int32) (x4 : Int32) (x5 : Int32) : CT yX5_copy cX5_copy 9 (some .int) rmX5_copy G sh [.ref (G.2.2.2.2 0), .int x1, .int x2, .int x3, .int x4, .int x5] rvI M (m_X5_copy  x1 x2 x3 x4 x5 M) := by
  refine CT.of (by decide +kernel) (Nat.le_of_ble_eq_true rfl) (fun X hF => ?_)
  show VR X G sh 9 rvI M 0 [(0, .ref (G.2.2.2.2 0)), (1, .int x1), (2, .int x2), (3, .int x3), (4, .int x4), (5, .int x5)] [] _
  unfold m_X5_copy
  refine v_iload_n 1 1 hF dX5_copy_0 rfl rfl rfl ?_
  refine v_staI ([.int x1]) ([]) 4 hF dX5_copy_1 rfl cw_X5_319 (c_X5_isSheet (G := G) (sh := sh) M x1) ⟨rfl, rfl, Nat.le_of_ble_eq_true rfl, Nat.le_of_ble_eq_true rfl⟩ rfl rfl (Nat.le_of_ble_eq_true rfl) (fun r7 M6 => ?_)
  refine v_if_eq 7 14 hF dX5_copy_4 rfl (by decide) (fun _ => ?_) (fun _ => ?_)
  · refine v_bipush (-2) 16 hF dX5_copy_14 rfl (by decide) ?_
    exact v_iret hF dX5_copy_16
  · refine v_iload_n 3 8 hF dX5_copy_7 rfl rfl rfl ?_
    refine v_staI ([.int x3]) ([]) 11 hF dX5_copy_8 rfl cw_X5_319 (c_X5_isSheet (G := G) (sh := sh) M6 x3) ⟨rfl, rfl, Nat.le_of_ble_eq_true rfl, Nat.le_of_ble_eq_true rfl⟩ rfl rfl (Nat.le_of_ble_eq_true rfl) (fun r9 M8 => ?_)
    refine v_if_ne 14 17 hF dX5_copy_11 rfl (by decide) (fun _ => ?_) (fun _ => ?_)
    · refine v_aload_n 0 18 hF dX5_copy_17 rfl rfl rfl ?_
      refine v_getR (b := 12) 21 hF dX5_copy_18 rfl fl_X5_53 hs.1 rfl ?_
      refine v_iload_n 1 22 hF dX5_copy_21 rfl rfl rfl ?_
      refine v_zald 23 hF dX5_copy_22 rfl (hs.2.2.2.2.2.2.2.2.2.2.2.2.1) ?_
      refine v_if_eq 26 35 hF dX5_copy_23 rfl (by decide) (fun _ => ?_) (fun _ => ?_)
      · refine v_bipush (-11) 37 hF dX5_copy_35 rfl (by decide) ?_
        exact v_iret hF dX5_copy_37
      · refine v_aload_n 0 27 hF dX5_copy_26 rfl rfl rfl ?_
        refine v_getR (b := 12) 30 hF dX5_copy_27 rfl fl_X5_53 hs.1 rfl ?_
        refine v_iload_n 3 31 hF dX5_copy_30 rfl rfl rfl ?_
        refine v_zald 32 hF dX5_copy_31 rfl (hs.2.2.2.2.2.2.2.2.2.2.2.2.1) ?_
        refine v_if_ne 35 38 hF dX5_copy_32 rfl (by decide) (fun _ => ?_) (fun _ => ?_)
        · refine v_aload_n 0 39 hF dX5_copy_38 rfl rfl rfl ?_
          refine v_getR (b := 13) 42 hF dX5_copy_39 rfl fl_X5_57 hs.1 rfl ?_
          refine v_iload_n 1 43 hF dX5_copy_42 rfl rfl rfl ?_
          refine v_iald 44 hF dX5_copy_43 rfl (hs.2.2.2.2.2.2.2.2.2.2.2.2.2.1) ?_
          refine v_aload_n 0 45 hF dX5_copy_44 rfl rfl rfl ?_
          refine v_getR (b := 13) 48 hF dX5_copy_45 rfl fl_X5_57 hs.1 rfl ?_
          refine v_iload_n 3 49 hF dX5_copy_48 rfl rfl rfl ?_
          refine v_iald 50 hF dX5_copy_49 rfl (hs.2.2.2.2.2.2.2.2.2.2.2.2.2.1) ?_
          refine v_icmp_eq 53 56 hF dX5_copy_50 rfl (by decide) (fun _ => ?_) (fun _ => ?_)
          · refine v_iload 5 58 hF dX5_copy_56 rfl rfl ?_
            refine v_if_lt 61 97 hF dX5_copy_58 rfl (by decide) (fun _ => ?_) (fun _ => ?_)
            · refine v_bipush (-12) 99 hF dX5_copy_97 rfl (by decide) ?_
              exact v_iret hF dX5_copy_99
            · refine v_iload_n 2 62 hF dX5_copy_61 rfl rfl rfl ?_
              refine v_if_lt 65 97 hF dX5_copy_62 rfl (by decide) (fun _ => ?_) (fun _ => ?_)
              · refine v_bipush (-12) 99 hF dX5_copy_97 rfl (by decide) ?_
                exact v_iret hF dX5_copy_99
              · refine v_iload 4 67 hF dX5_copy_65 rfl rfl ?_
                refine v_if_lt 70 97 hF dX5_copy_67 rfl (by decide) (fun _ => ?_) (fun _ => ?_)
                · refine v_bipush (-12) 99 hF dX5_copy_97 rfl (by decide) ?_
                  exact v_iret hF dX5_copy_99
                · refine v_iload_n 2 71 hF dX5_copy_70 rfl rfl rfl ?_
                  refine v_aload_n 0 72 hF dX5_copy_71 rfl rfl rfl ?_
                  refine v_getR (b := 14) 75 hF dX5_copy_72 rfl fl_X5_60 hs.1 rfl ?_
                  refine v_iload_n 1 76 hF dX5_copy_75 rfl rfl rfl ?_
                  refine v_iald 77 hF dX5_copy_76 rfl (hs.2.2.2.2.2.2.2.2.2.2.2.2.2.2.1) ?_
                  refine v_iload 5 79 hF dX5_copy_77 rfl rfl ?_
                  refine v_isub 80 hF dX5_copy_79 rfl ?_
                  refine v_icmp_gt 83 97 hF dX5_copy_80 rfl (by decide) (fun _ => ?_) (fun _ => ?_)
                  · refine v_bipush (-12) 99 hF dX5_copy_97 rfl (by decide) ?_
                    exact v_iret hF dX5_copy_99
                  · refine v_iload 4 85 hF dX5_copy_83 rfl rfl ?_
                    refine v_aload_n 0 86 hF dX5_copy_85 rfl rfl rfl ?_
                    refine v_getR (b := 14) 89 hF dX5_copy_86 rfl fl_X5_60 hs.1 rfl ?_
                    refine v_iload_n 3 90 hF dX5_copy_89 rfl rfl rfl ?_
                    refine v_iald 91 hF dX5_copy_90 rfl (hs.2.2.2.2.2.2.2.2.2.2.2.2.2.2.1) ?_
                    refine v_iload 5 93 hF dX5_copy_91 rfl rfl ?_
                    refine v_isub 94 hF dX5_copy_93 rfl ?_
                    refine v_icmp_le 97 100 hF dX5_copy_94 rfl (by decide) (fun _ => ?_) (fun _ => ?_)
                    · refine v_iload_n 1 101 hF dX5_copy_100 rfl rfl rfl ?_
                      refine v_iload_n 3 102 hF dX5_copy_101 rfl rfl rfl ?_
                      refine v_icmp_ne 105 115 hF dX5_copy_102 rfl (by decide) (fun _ => ?_) (fun _ => ?_)
                      · refine VR.pick [0, 1, 2, 3, 4, 5] rfl ?_
                        exact v_X5_copy_J115 hF hs x1 x2 x3 x4 x5 M8
                      · refine v_iload_n 2 106 hF dX5_copy_105 rfl rfl rfl ?_
                        refine v_iload 4 108 hF dX5_copy_106 rfl rfl ?_
                        refine v_icmp_ge 111 115 hF dX5_copy_108 rfl (by decide) (fun _ => ?_) (fun _ => ?_)
                        · refine VR.pick [0, 1, 2, 3, 4, 5] rfl ?_
                          exact v_X5_copy_J115 hF hs x1 x2 x3 x4 x5 M8
                        · refine v_iconst (1) 112 hF dX5_copy_111 rfl (by decide) ?_
                          refine v_goto 116 hF dX5_copy_112 (by decide) ?_
                          refine VR.pick [0, 1, 2, 3, 4, 5] rfl ?_
                          exact v_X5_copy_J116 hF hs x1 x2 x3 x4 x5 ((1 : Int32)) M8
                    · refine v_bipush (-12) 99 hF dX5_copy_97 rfl (by decide) ?_
                      exact v_iret hF dX5_copy_99
          · refine v_bipush (-13) 55 hF dX5_copy_53 rfl (by decide) ?_
            exact v_iret hF dX5_copy_55
        · refine v_bipush (-11) 37 hF dX5_copy_35 rfl (by decide) ?_
          exact v_iret hF dX5_copy_37
    · refine v_bipush (-2) 16 hF dX5_copy_14 rfl (by decide) ?_
      exact v_iret hF dX5_copy_16
abbrev rmX5_hill : Room := { frames := 2, cells := 0, slots := 0, locals := 48 }
def m_X5_hill_J158 (n75 : Int32 → Int32 → Int32 → Int32 → Int32 → Mm → Option (Int32 × Mm)) (x1 : Int32) (x3 : Int32) (x4 : Int32) (x6 : Int32) (s0 : Int32) (s1 : Int32) (M : Mm) : Option (Int32 × Mm) := lt1 ((s1 + s0)) fun y1 => lt1 (x6 + 1) fun y2 => n75 x1 x3 x4 y1 y2 M
def m_X5_hill_B75 (n75 : Int32 → Int32 → Int32 → Int32 → Int32 → Mm → Option (Int32 × Mm)) (x1 : Int32) (x3 : Int32) (x4 : Int32) (x5 : Int32) (x6 : Int32) (M : Mm) : Option (Int32 × Mm) := if x4 ≤ x6 then (some (x5, M)) else (if x3 < 0 then (some ((-12 : Int32), M)) else (gd (inr x1 4) (if x3 ≤ (((M 14 x1.toNatClampNeg) - ((3 : Int32) * x6)) - (3 : Int32)) then (lt1 (((((40 : Int32) * x1) + x3) + ((3 : Int32) * x6))) fun y3 => gd (inr y3 160) (gd (inr ((y3 + (1 : Int32))) 160) (gd (inr ((y3 + (2 : Int32))) 160) (bd (m_X5_person ((M 15 y3.toNatClampNeg)) ((M 15 ((y3 + (1 : Int32))).toNatClampNeg)) ((M 15 ((y3 + (2 : Int32))).toNatClampNeg)) M) fun r5 M4 => if r5 < 0 then (m_X5_hill_J158 n75 x1 x3 x4 x6 ((0 : Int32)) x5 M4) else (m_X5_hill_J158 n75 x1 x3 x4 x6 ((1 : Int32)) x5 M4))))) else (some ((-12 : Int32), M)))))
def m_X5_hill_L75 : Nat → Int32 → Int32 → Int32 → Int32 → Int32 → Mm → Option (Int32 × Mm)
  | 0 => fun _ _ _ _ _ _ => none
  | n + 1 => m_X5_hill_B75  (m_X5_hill_L75  n)
def m_X5_hill_J57 (x1 : Int32) (x3 : Int32) (x4 : Int32) (M : Mm) : Option (Int32 × Mm) := gd (inr x1 4) (if (M 12 x1.toNatClampNeg) = 0 then (some ((-11 : Int32), M)) else (lt1 ((0 : Int32)) fun y6 => lt1 ((0 : Int32)) fun y7 => m_X5_hill_L75 FU x1 x3 x4 y6 y7 M))
def m_X5_hill (x1 : Int32) (x2 : Int32) (x3 : Int32) (x4 : Int32) (M : Mm) : Option (Int32 × Mm) := bd (m_X5_isSheet x1 M) fun r9 M8 => if r9 = 0 then (some ((-2 : Int32), M8)) else (bd (m_X5_in (((x2).toInt64)) ((0 : Int64)) ((2 : Int64)) M8) fun r11 M10 => if r11 = 0 then (some ((-2 : Int32), M10)) else (bd (m_X5_in (((x4).toInt64)) ((0 : Int64)) ((5 : Int64)) M10) fun r13 M12 => if r13 = 0 then (some ((-2 : Int32), M12)) else (gd (inr x1 4) (if (M12 12 x1.toNatClampNeg) = 0 then (m_X5_hill_J57 x1 x3 x4 M12) else (gd (inr x1 4) (if (M12 13 x1.toNatClampNeg) = x2 then (m_X5_hill_J57 x1 x3 x4 M12) else (some ((-13 : Int32), M12))))))))
set_option maxRecDepth 100000 in
set_option maxHeartbeats 4000000 in
theorem v_X5_hill_J158 {X : Cx} {G : Gx} {sh : List Sh} (hF : FX X G sh 8 cX5_hill (yX5_hill).cls (some .int) rmX5_hill) (hs : ModAt sh) (n75 : Int32 → Int32 → Int32 → Int32 → Int32 → Mm → Option (Int32 × Mm)) (h75 : ∀ (x1 : Int32) (x3 : Int32) (x4 : Int32) (x5 : Int32) (x6 : Int32) (M : Mm), VR X G sh 8 rvI M 75 [(0, .ref (G.2.2.2.2 0)), (1, .int x1), (3, .int x3), (4, .int x4), (5, .int x5), (6, .int x6)] [] (n75 x1 x3 x4 x5 x6 M)) : ∀ (x1 : Int32) (x3 : Int32) (x4 : Int32) (x6 : Int32) (s0 : Int32) (s1 : Int32) (M : Mm), VR X G sh 8 rvI M 158 [(0, .ref (G.2.2.2.2 0)), (1, .int x1), (3, .int x3), (4, .int x4), (6, .int x6)] [.int s0, .int s1] (m_X5_hill_J158  n75 x1 x3 x4 x6 s0 s1 M) := by
  intro x1 x3 x4 x6 s0 s1 M
  unfold m_X5_hill_J158
  refine v_iadd 159 hF dX5_hill_158 rfl ?_
  refine v_istore (lo' := fun y1 => [(5, .int y1), (0, .ref (G.2.2.2.2 0)), (1, .int x1), (3, .int x3), (4, .int x4), (6, .int x6)]) 161 hF dX5_hill_159 rfl (by decide) (fun _ => rfl) (fun y1 => ?_)
  refine v_iinc (v := (x6 + 1)) (lo' := fun y2 => [(6, .int y2), (5, .int y1), (0, .ref (G.2.2.2.2 0)), (1, .int x1), (3, .int x3), (4, .int x4)]) 5 164 hF dX5_hill_161 rfl rfl rfl (by decide) (fun _ => rfl) (fun y2 => ?_)
  refine v_goto 75 hF dX5_hill_164 (by decide) ?_
  refine VR.pick [2, 3, 4, 5, 1, 0] rfl ?_
  exact h75 x1 x3 x4 y1 y2 M
set_option maxRecDepth 100000 in
set_option maxHeartbeats 4000000 in
theorem v_X5_hill_B75 {X : Cx} {G : Gx} {sh : List Sh} (hF : FX X G sh 8 cX5_hill (yX5_hill).cls (some .int) rmX5_hill) (hs : ModAt sh) (n75 : Int32 → Int32 → Int32 → Int32 → Int32 → Mm → Option (Int32 × Mm)) (h75 : ∀ (x1 : Int32) (x3 : Int32) (x4 : Int32) (x5 : Int32) (x6 : Int32) (M : Mm), VR X G sh 8 rvI M 75 [(0, .ref (G.2.2.2.2 0)), (1, .int x1), (3, .int x3), (4, .int x4), (5, .int x5), (6, .int x6)] [] (n75 x1 x3 x4 x5 x6 M)) : ∀ (x1 : Int32) (x3 : Int32) (x4 : Int32) (x5 : Int32) (x6 : Int32) (M : Mm), VR X G sh 8 rvI M 75 [(0, .ref (G.2.2.2.2 0)), (1, .int x1), (3, .int x3), (4, .int x4), (5, .int x5), (6, .int x6)] [] (m_X5_hill_B75  n75 x1 x3 x4 x5 x6 M) := by
  intro x1 x3 x4 x5 x6 M
  unfold m_X5_hill_B75
  refine v_iload 5 77 hF dX5_hill_75 rfl rfl ?_
  refine v_iload 3 79 hF dX5_hill_77 rfl rfl ?_
  refine v_icmp_ge 82 167 hF dX5_hill_79 rfl (by decide) (fun _ => ?_) (fun _ => ?_)
  · refine v_iload 4 169 hF dX5_hill_167 rfl rfl ?_
    exact v_iret hF dX5_hill_169
  · refine v_iload_n 2 83 hF dX5_hill_82 rfl rfl rfl ?_
    refine v_if_lt 86 103 hF dX5_hill_83 rfl (by decide) (fun _ => ?_) (fun _ => ?_)
    · refine v_bipush (-12) 105 hF dX5_hill_103 rfl (by decide) ?_
      exact v_iret hF dX5_hill_105
    · refine v_iload_n 2 87 hF dX5_hill_86 rfl rfl rfl ?_
      refine v_aload_n 0 88 hF dX5_hill_87 rfl rfl rfl ?_
      refine v_getR (b := 14) 91 hF dX5_hill_88 rfl fl_X5_60 hs.1 rfl ?_
      refine v_iload_n 1 92 hF dX5_hill_91 rfl rfl rfl ?_
      refine v_iald 93 hF dX5_hill_92 rfl (hs.2.2.2.2.2.2.2.2.2.2.2.2.2.2.1) ?_
      refine v_iconst (3) 94 hF dX5_hill_93 rfl (by decide) ?_
      refine v_iload 5 96 hF dX5_hill_94 rfl rfl ?_
      refine v_imul 97 hF dX5_hill_96 rfl ?_
      refine v_isub 98 hF dX5_hill_97 rfl ?_
      refine v_iconst (3) 99 hF dX5_hill_98 rfl (by decide) ?_
      refine v_isub 100 hF dX5_hill_99 rfl ?_
      refine v_icmp_le 103 106 hF dX5_hill_100 rfl (by decide) (fun _ => ?_) (fun _ => ?_)
      · refine v_bipush (40) 108 hF dX5_hill_106 rfl (by decide) ?_
        refine v_iload_n 1 109 hF dX5_hill_108 rfl rfl rfl ?_
        refine v_imul 110 hF dX5_hill_109 rfl ?_
        refine v_iload_n 2 111 hF dX5_hill_110 rfl rfl rfl ?_
        refine v_iadd 112 hF dX5_hill_111 rfl ?_
        refine v_iconst (3) 113 hF dX5_hill_112 rfl (by decide) ?_
        refine v_iload 5 115 hF dX5_hill_113 rfl rfl ?_
        refine v_imul 116 hF dX5_hill_115 rfl ?_
        refine v_iadd 117 hF dX5_hill_116 rfl ?_
        refine v_istore (lo' := fun y3 => [(7, .int y3), (0, .ref (G.2.2.2.2 0)), (1, .int x1), (3, .int x3), (4, .int x4), (5, .int x5), (6, .int x6)]) 119 hF dX5_hill_117 rfl (by decide) (fun _ => rfl) (fun y3 => ?_)
        refine v_iload 5 121 hF dX5_hill_119 rfl rfl ?_
        refine v_aload_n 1 122 hF dX5_hill_121 rfl rfl rfl ?_
        refine v_aload_n 1 123 hF dX5_hill_122 rfl rfl rfl ?_
        refine v_getR (b := 15) 126 hF dX5_hill_123 rfl fl_X5_63 hs.1 rfl ?_
        refine v_iload 0 128 hF dX5_hill_126 rfl rfl ?_
        refine v_iald 129 hF dX5_hill_128 rfl (hs.2.2.2.2.2.2.2.2.2.2.2.2.2.2.2) ?_
        refine v_aload_n 1 130 hF dX5_hill_129 rfl rfl rfl ?_
        refine v_getR (b := 15) 133 hF dX5_hill_130 rfl fl_X5_63 hs.1 rfl ?_
        refine v_iload 0 135 hF dX5_hill_133 rfl rfl ?_
        refine v_iconst (1) 136 hF dX5_hill_135 rfl (by decide) ?_
        refine v_iadd 137 hF dX5_hill_136 rfl ?_
        refine v_iald 138 hF dX5_hill_137 rfl (hs.2.2.2.2.2.2.2.2.2.2.2.2.2.2.2) ?_
        refine v_aload_n 1 139 hF dX5_hill_138 rfl rfl rfl ?_
        refine v_getR (b := 15) 142 hF dX5_hill_139 rfl fl_X5_63 hs.1 rfl ?_
        refine v_iload 0 144 hF dX5_hill_142 rfl rfl ?_
        refine v_iconst (2) 145 hF dX5_hill_144 rfl (by decide) ?_
        refine v_iadd 146 hF dX5_hill_145 rfl ?_
        refine v_iald 147 hF dX5_hill_146 rfl (hs.2.2.2.2.2.2.2.2.2.2.2.2.2.2.2) ?_
        refine v_callI ([.int ((M 15 y3.toNatClampNeg)), .int ((M 15 ((y3 + (1 : Int32))).toNatClampNeg)), .int ((M 15 ((y3 + (2 : Int32))).toNatClampNeg))]) ([.int x5]) 150 hF dX5_hill_147 rfl cw_X5_352 rfl (hs.1) (c_X5_person (G := G) hs M ((M 15 y3.toNatClampNeg)) ((M 15 ((y3 + (1 : Int32))).toNatClampNeg)) ((M 15 ((y3 + (2 : Int32))).toNatClampNeg))) ⟨rfl, rfl, Nat.le_of_ble_eq_true rfl, Nat.le_of_ble_eq_true rfl⟩ rfl rfl (Nat.le_of_ble_eq_true rfl) (fun r5 M4 => ?_)
        refine v_if_lt 153 157 hF dX5_hill_150 rfl (by decide) (fun _ => ?_) (fun _ => ?_)
        · refine v_iconst (0) 158 hF dX5_hill_157 rfl (by decide) ?_
          refine VR.pick [1, 2, 3, 4, 6] rfl ?_
          exact v_X5_hill_J158 hF hs _ h75 x1 x3 x4 x6 ((0 : Int32)) x5 M4
        · refine v_iconst (1) 154 hF dX5_hill_153 rfl (by decide) ?_
          refine v_goto 158 hF dX5_hill_154 (by decide) ?_
          refine VR.pick [1, 2, 3, 4, 6] rfl ?_
          exact v_X5_hill_J158 hF hs _ h75 x1 x3 x4 x6 ((1 : Int32)) x5 M4
      · refine v_bipush (-12) 105 hF dX5_hill_103 rfl (by decide) ?_
        exact v_iret hF dX5_hill_105
theorem v_X5_hill_L75 {X : Cx} {G : Gx} {sh : List Sh} (hF : FX X G sh 8 cX5_hill (yX5_hill).cls (some .int) rmX5_hill) (hs : ModAt sh) : ∀ (n : Nat), ∀ (x1 : Int32) (x3 : Int32) (x4 : Int32) (x5 : Int32) (x6 : Int32) (M : Mm), VR X G sh 8 rvI M 75 [(0, .ref (G.2.2.2.2 0)), (1, .int x1), (3, .int x3), (4, .int x4), (5, .int x5), (6, .int x6)] [] (m_X5_hill_L75  n x1 x3 x4 x5 x6 M) := by
  intro n
  induction n with
  | zero => intro x1 x3 x4 x5 x6 M; exact VR.none
  | succ n ih => exact v_X5_hill_B75 hF hs _ ih
set_option maxRecDepth 100000 in
set_option maxHeartbeats 4000000 in
theorem v_X5_hill_J57 {X : Cx} {G : Gx} {sh : List Sh} (hF : FX X G sh 8 cX5_hill (yX5_hill).cls (some .int) rmX5_hill) (hs : ModAt sh) : ∀ (x1 : Int32) (x3 : Int32) (x4 : Int32) (M : Mm), VR X G sh 8 rvI M 57 [(0, .ref (G.2.2.2.2 0)), (1, .int x1), (3, .int x3), (4, .int x4)] [] (m_X5_hill_J57  x1 x3 x4 M) := by
  intro x1 x3 x4 M
  unfold m_X5_hill_J57
  refine v_aload_n 0 58 hF dX5_hill_57 rfl rfl rfl ?_
  refine v_getR (b := 12) 61 hF dX5_hill_58 rfl fl_X5_53 hs.1 rfl ?_
  refine v_iload_n 1 62 hF dX5_hill_61 rfl rfl rfl ?_
  refine v_zald 63 hF dX5_hill_62 rfl (hs.2.2.2.2.2.2.2.2.2.2.2.2.1) ?_
  refine v_if_ne 66 69 hF dX5_hill_63 rfl (by decide) (fun _ => ?_) (fun _ => ?_)
  · refine v_iconst (0) 70 hF dX5_hill_69 rfl (by decide) ?_
    refine v_istore (lo' := fun y6 => [(5, .int y6), (0, .ref (G.2.2.2.2 0)), (1, .int x1), (3, .int x3), (4, .int x4)]) 72 hF dX5_hill_70 rfl (by decide) (fun _ => rfl) (fun y6 => ?_)
    refine v_iconst (0) 73 hF dX5_hill_72 rfl (by decide) ?_
    refine v_istore (lo' := fun y7 => [(6, .int y7), (5, .int y6), (0, .ref (G.2.2.2.2 0)), (1, .int x1), (3, .int x3), (4, .int x4)]) 75 hF dX5_hill_73 rfl (by decide) (fun _ => rfl) (fun y7 => ?_)
    refine VR.pick [2, 3, 4, 5, 1, 0] rfl ?_
    exact v_X5_hill_L75 hF hs FU x1 x3 x4 y6 y7 M
  · refine v_bipush (-11) 68 hF dX5_hill_66 rfl (by decide) ?_
    exact v_iret hF dX5_hill_68
set_option maxRecDepth 100000 in
set_option maxHeartbeats 4000000 in
theorem c_X5_hill {G : Gx} {sh : List Sh} (hs : ModAt sh) (M : Mm) (x1 : Int32) (x2 : Int32) (x3 : Int32) (x4 : Int32) : CT yX5_hill cX5_hill 8 (some .int) rmX5_hill G sh [.ref (G.2.2.2.2 0), .int x1, .int x2, .int x3, .int x4] rvI M (m_X5_hill  x1 x2 x3 x4 M) := by
  refine CT.of (by decide +kernel) (Nat.le_of_ble_eq_true rfl) (fun X hF => ?_)
  show VR X G sh 8 rvI M 0 [(0, .ref (G.2.2.2.2 0)), (1, .int x1), (2, .int x2), (3, .int x3), (4, .int x4)] [] _
  unfold m_X5_hill
  refine v_iload_n 1 1 hF dX5_hill_0 rfl rfl rfl ?_
  refine v_staI ([.int x1]) ([]) 4 hF dX5_hill_1 rfl cw_X5_319 (c_X5_isSheet (G := G) (sh := sh) M x1) ⟨rfl, rfl, Nat.le_of_ble_eq_true rfl, Nat.le_of_ble_eq_true rfl⟩ rfl rfl (Nat.le_of_ble_eq_true rfl) (fun r9 M8 => ?_)
  refine v_if_eq 7 32 hF dX5_hill_4 rfl (by decide) (fun _ => ?_) (fun _ => ?_)
  · refine v_bipush (-2) 34 hF dX5_hill_32 rfl (by decide) ?_
    exact v_iret hF dX5_hill_34
  · refine v_iload_n 2 8 hF dX5_hill_7 rfl rfl rfl ?_
    refine v_i2l 9 hF dX5_hill_8 rfl ?_
    refine v_lconst 0 10 hF dX5_hill_9 rfl (by decide) ?_
    refine v_ldc2 (2) 13 hF dX5_hill_10 rfl cc_X5_350 ?_
    refine v_staI ([.long (((x2).toInt64)), .long ((0 : Int64)), .long ((2 : Int64))]) ([]) 16 hF dX5_hill_13 rfl cw_X5_76 (c_X5_in (G := G) (sh := sh) M8 (((x2).toInt64)) ((0 : Int64)) ((2 : Int64))) ⟨rfl, rfl, Nat.le_of_ble_eq_true rfl, Nat.le_of_ble_eq_true rfl⟩ rfl rfl (Nat.le_of_ble_eq_true rfl) (fun r11 M10 => ?_)
    refine v_if_eq 19 32 hF dX5_hill_16 rfl (by decide) (fun _ => ?_) (fun _ => ?_)
    · refine v_bipush (-2) 34 hF dX5_hill_32 rfl (by decide) ?_
      exact v_iret hF dX5_hill_34
    · refine v_iload 4 21 hF dX5_hill_19 rfl rfl ?_
      refine v_i2l 22 hF dX5_hill_21 rfl ?_
      refine v_lconst 0 23 hF dX5_hill_22 rfl (by decide) ?_
      refine v_ldc2 (5) 26 hF dX5_hill_23 rfl cc_X5_114 ?_
      refine v_staI ([.long (((x4).toInt64)), .long ((0 : Int64)), .long ((5 : Int64))]) ([]) 29 hF dX5_hill_26 rfl cw_X5_76 (c_X5_in (G := G) (sh := sh) M10 (((x4).toInt64)) ((0 : Int64)) ((5 : Int64))) ⟨rfl, rfl, Nat.le_of_ble_eq_true rfl, Nat.le_of_ble_eq_true rfl⟩ rfl rfl (Nat.le_of_ble_eq_true rfl) (fun r13 M12 => ?_)
      refine v_if_ne 32 35 hF dX5_hill_29 rfl (by decide) (fun _ => ?_) (fun _ => ?_)
      · refine v_aload_n 0 36 hF dX5_hill_35 rfl rfl rfl ?_
        refine v_getR (b := 12) 39 hF dX5_hill_36 rfl fl_X5_53 hs.1 rfl ?_
        refine v_iload_n 1 40 hF dX5_hill_39 rfl rfl rfl ?_
        refine v_zald 41 hF dX5_hill_40 rfl (hs.2.2.2.2.2.2.2.2.2.2.2.2.1) ?_
        refine v_if_eq 44 57 hF dX5_hill_41 rfl (by decide) (fun _ => ?_) (fun _ => ?_)
        · refine VR.pick [0, 1, 3, 4] rfl ?_
          exact v_X5_hill_J57 hF hs x1 x3 x4 M12
        · refine v_aload_n 0 45 hF dX5_hill_44 rfl rfl rfl ?_
          refine v_getR (b := 13) 48 hF dX5_hill_45 rfl fl_X5_57 hs.1 rfl ?_
          refine v_iload_n 1 49 hF dX5_hill_48 rfl rfl rfl ?_
          refine v_iald 50 hF dX5_hill_49 rfl (hs.2.2.2.2.2.2.2.2.2.2.2.2.2.1) ?_
          refine v_iload_n 2 51 hF dX5_hill_50 rfl rfl rfl ?_
          refine v_icmp_eq 54 57 hF dX5_hill_51 rfl (by decide) (fun _ => ?_) (fun _ => ?_)
          · refine VR.pick [0, 1, 3, 4] rfl ?_
            exact v_X5_hill_J57 hF hs x1 x3 x4 M12
          · refine v_bipush (-13) 56 hF dX5_hill_54 rfl (by decide) ?_
            exact v_iret hF dX5_hill_56
      · refine v_bipush (-2) 34 hF dX5_hill_32 rfl (by decide) ?_
        exact v_iret hF dX5_hill_34
abbrev rmX5_over : Room := { frames := 0, cells := 0, slots := 0, locals := 0 }
def m_X5_over (x0 : Int32) (M : Mm) : Option (Int32 × Mm) := if x0 = 0 then (some ((-1 : Int32), M)) else (if x0 = (3 : Int32) then (some ((1 : Int32), M)) else (if x0 = (4 : Int32) then (some ((2 : Int32), M)) else (some ((0 : Int32), M))))
set_option maxRecDepth 100000 in
set_option maxHeartbeats 4000000 in
theorem c_X5_over {G : Gx} {sh : List Sh} (M : Mm) (x0 : Int32) : CT yX5_over cX5_over 1 (some .int) rmX5_over G sh [.int x0] rvI M (m_X5_over  x0 M) := by
  refine CT.of (by decide +kernel) (Nat.le_of_ble_eq_true rfl) (fun X hF => ?_)
  show VR X G sh 1 rvI M 0 [(0, .int x0)] [] _
  unfold m_X5_over
  refine v_iload_n 0 1 hF dX5_over_0 rfl rfl rfl ?_
  refine v_if_ne 4 8 hF dX5_over_1 rfl (by decide) (fun _ => ?_) (fun _ => ?_)
  · refine v_iload_n 0 9 hF dX5_over_8 rfl rfl rfl ?_
    refine v_iconst (3) 10 hF dX5_over_9 rfl (by decide) ?_
    refine v_icmp_ne 13 17 hF dX5_over_10 rfl (by decide) (fun _ => ?_) (fun _ => ?_)
    · refine v_iload_n 0 18 hF dX5_over_17 rfl rfl rfl ?_
      refine v_iconst (4) 19 hF dX5_over_18 rfl (by decide) ?_
      refine v_icmp_ne 22 26 hF dX5_over_19 rfl (by decide) (fun _ => ?_) (fun _ => ?_)
      · refine v_iconst (0) 27 hF dX5_over_26 rfl (by decide) ?_
        exact v_iret hF dX5_over_27
      · refine v_iconst (2) 23 hF dX5_over_22 rfl (by decide) ?_
        refine v_goto 27 hF dX5_over_23 (by decide) ?_
        exact v_iret hF dX5_over_27
    · refine v_iconst (1) 14 hF dX5_over_13 rfl (by decide) ?_
      refine v_goto 27 hF dX5_over_14 (by decide) ?_
      exact v_iret hF dX5_over_27
  · refine v_iconst (-1) 5 hF dX5_over_4 rfl (by decide) ?_
    refine v_goto 27 hF dX5_over_5 (by decide) ?_
    exact v_iret hF dX5_over_27
abbrev rmX5_taken : Room := { frames := 2, cells := 0, slots := 0, locals := 46 }
def m_X5_taken_J55 (x1 : Int32) (x2 : Int32) (x3 : Int32) (M : Mm) : Option (Int32 × Mm) := if x3 = x2 then (gd (inr (((3 : Int32) * x1)) 15) (some ((M 4 (((3 : Int32) * x1)).toNatClampNeg), M))) else (some ((-13 : Int32), M))
def m_X5_taken_B37 (n37 : Int32 → Int32 → Int32 → Mm → Option (Int32 × Mm)) (x1 : Int32) (x2 : Int32) (x3 : Int32) (M : Mm) : Option (Int32 × Mm) := if x3 = (-1 : Int32) then (m_X5_taken_J55 x1 x2 x3 M) else (if x3 = x2 then (m_X5_taken_J55 x1 x2 x3 M) else (bd (m_X5_over x3 M) fun r2 M1 => lt1 r2 fun y3 => n37 x1 x2 y3 M1))
def m_X5_taken_L37 : Nat → Int32 → Int32 → Int32 → Mm → Option (Int32 × Mm)
  | 0 => fun _ _ _ _ => none
  | n + 1 => m_X5_taken_B37  (m_X5_taken_L37  n)
def m_X5_taken (x1 : Int32) (x2 : Int32) (M : Mm) : Option (Int32 × Mm) := bd (m_X5_in (((x2).toInt64)) ((0 : Int64)) ((5 : Int64)) M) fun r5 M4 => if r5 = 0 then (some ((-2 : Int32), M4)) else (bd (m_X5_isOne x1 M4) fun r7 M6 => if r7 = 0 then (some ((-11 : Int32), M6)) else (gd (inr ((((3 : Int32) * x1) + (1 : Int32))) 15) (lt1 ((M6 4 ((((3 : Int32) * x1) + (1 : Int32))).toNatClampNeg)) fun y8 => m_X5_taken_L37 FU x1 x2 y8 M6)))
set_option maxRecDepth 100000 in
set_option maxHeartbeats 4000000 in
theorem v_X5_taken_J55 {X : Cx} {G : Gx} {sh : List Sh} (hF : FX X G sh 4 cX5_taken (yX5_taken).cls (some .int) rmX5_taken) (hs : ModAt sh) : ∀ (x1 : Int32) (x2 : Int32) (x3 : Int32) (M : Mm), VR X G sh 4 rvI M 55 [(0, .ref (G.2.2.2.2 0)), (1, .int x1), (2, .int x2), (3, .int x3)] [] (m_X5_taken_J55  x1 x2 x3 M) := by
  intro x1 x2 x3 M
  unfold m_X5_taken_J55
  refine v_iload_n 3 56 hF dX5_taken_55 rfl rfl rfl ?_
  refine v_iload_n 2 57 hF dX5_taken_56 rfl rfl rfl ?_
  refine v_icmp_ne 60 71 hF dX5_taken_57 rfl (by decide) (fun _ => ?_) (fun _ => ?_)
  · refine v_bipush (-13) 73 hF dX5_taken_71 rfl (by decide) ?_
    exact v_iret hF dX5_taken_73
  · refine v_aload_n 0 61 hF dX5_taken_60 rfl rfl rfl ?_
    refine v_getR (b := 4) 64 hF dX5_taken_61 rfl fl_X5_26 hs.1 rfl ?_
    refine v_iconst (3) 65 hF dX5_taken_64 rfl (by decide) ?_
    refine v_iload_n 1 66 hF dX5_taken_65 rfl rfl rfl ?_
    refine v_imul 67 hF dX5_taken_66 rfl ?_
    refine v_iald 68 hF dX5_taken_67 rfl (hs.2.2.2.2.1) ?_
    refine v_goto 73 hF dX5_taken_68 (by decide) ?_
    exact v_iret hF dX5_taken_73
set_option maxRecDepth 100000 in
set_option maxHeartbeats 4000000 in
theorem v_X5_taken_B37 {X : Cx} {G : Gx} {sh : List Sh} (hF : FX X G sh 4 cX5_taken (yX5_taken).cls (some .int) rmX5_taken) (hs : ModAt sh) (n37 : Int32 → Int32 → Int32 → Mm → Option (Int32 × Mm)) (h37 : ∀ (x1 : Int32) (x2 : Int32) (x3 : Int32) (M : Mm), VR X G sh 4 rvI M 37 [(0, .ref (G.2.2.2.2 0)), (1, .int x1), (2, .int x2), (3, .int x3)] [] (n37 x1 x2 x3 M)) : ∀ (x1 : Int32) (x2 : Int32) (x3 : Int32) (M : Mm), VR X G sh 4 rvI M 37 [(0, .ref (G.2.2.2.2 0)), (1, .int x1), (2, .int x2), (3, .int x3)] [] (m_X5_taken_B37  n37 x1 x2 x3 M) := by
  intro x1 x2 x3 M
  unfold m_X5_taken_B37
  refine v_iload_n 3 38 hF dX5_taken_37 rfl rfl rfl ?_
  refine v_iconst (-1) 39 hF dX5_taken_38 rfl (by decide) ?_
  refine v_icmp_eq 42 55 hF dX5_taken_39 rfl (by decide) (fun _ => ?_) (fun _ => ?_)
  · refine VR.pick [0, 1, 2, 3] rfl ?_
    exact v_X5_taken_J55 hF hs x1 x2 x3 M
  · refine v_iload_n 3 43 hF dX5_taken_42 rfl rfl rfl ?_
    refine v_iload_n 2 44 hF dX5_taken_43 rfl rfl rfl ?_
    refine v_icmp_eq 47 55 hF dX5_taken_44 rfl (by decide) (fun _ => ?_) (fun _ => ?_)
    · refine VR.pick [0, 1, 2, 3] rfl ?_
      exact v_X5_taken_J55 hF hs x1 x2 x3 M
    · refine v_iload_n 3 48 hF dX5_taken_47 rfl rfl rfl ?_
      refine v_staI ([.int x3]) ([]) 51 hF dX5_taken_48 rfl cw_X5_355 (c_X5_over (G := G) (sh := sh) M x3) ⟨rfl, rfl, Nat.le_of_ble_eq_true rfl, Nat.le_of_ble_eq_true rfl⟩ rfl rfl (Nat.le_of_ble_eq_true rfl) (fun r2 M1 => ?_)
      refine v_istore_n (lo' := fun y3 => [(3, .int y3), (0, .ref (G.2.2.2.2 0)), (1, .int x1), (2, .int x2)]) 52 hF dX5_taken_51 rfl rfl (by decide) (fun _ => rfl) (fun y3 => ?_)
      refine v_goto 37 hF dX5_taken_52 (by decide) ?_
      refine VR.pick [1, 2, 3, 0] rfl ?_
      exact h37 x1 x2 y3 M1
theorem v_X5_taken_L37 {X : Cx} {G : Gx} {sh : List Sh} (hF : FX X G sh 4 cX5_taken (yX5_taken).cls (some .int) rmX5_taken) (hs : ModAt sh) : ∀ (n : Nat), ∀ (x1 : Int32) (x2 : Int32) (x3 : Int32) (M : Mm), VR X G sh 4 rvI M 37 [(0, .ref (G.2.2.2.2 0)), (1, .int x1), (2, .int x2), (3, .int x3)] [] (m_X5_taken_L37  n x1 x2 x3 M) := by
  intro n
  induction n with
  | zero => intro x1 x2 x3 M; exact VR.none
  | succ n ih => exact v_X5_taken_B37 hF hs _ ih
set_option maxRecDepth 100000 in
set_option maxHeartbeats 4000000 in
theorem c_X5_taken {G : Gx} {sh : List Sh} (hs : ModAt sh) (M : Mm) (x1 : Int32) (x2 : Int32) : CT yX5_taken cX5_taken 4 (some .int) rmX5_taken G sh [.ref (G.2.2.2.2 0), .int x1, .int x2] rvI M (m_X5_taken  x1 x2 M) := by
  refine CT.of (by decide +kernel) (Nat.le_of_ble_eq_true rfl) (fun X hF => ?_)
  show VR X G sh 4 rvI M 0 [(0, .ref (G.2.2.2.2 0)), (1, .int x1), (2, .int x2)] [] _
  unfold m_X5_taken
  refine v_iload_n 2 1 hF dX5_taken_0 rfl rfl rfl ?_
  refine v_i2l 2 hF dX5_taken_1 rfl ?_
  refine v_lconst 0 3 hF dX5_taken_2 rfl (by decide) ?_
  refine v_ldc2 (5) 6 hF dX5_taken_3 rfl cc_X5_114 ?_
  refine v_staI ([.long (((x2).toInt64)), .long ((0 : Int64)), .long ((5 : Int64))]) ([]) 9 hF dX5_taken_6 rfl cw_X5_76 (c_X5_in (G := G) (sh := sh) M (((x2).toInt64)) ((0 : Int64)) ((5 : Int64))) ⟨rfl, rfl, Nat.le_of_ble_eq_true rfl, Nat.le_of_ble_eq_true rfl⟩ rfl rfl (Nat.le_of_ble_eq_true rfl) (fun r5 M4 => ?_)
  refine v_if_ne 12 15 hF dX5_taken_9 rfl (by decide) (fun _ => ?_) (fun _ => ?_)
  · refine v_aload_n 0 16 hF dX5_taken_15 rfl rfl rfl ?_
    refine v_iload_n 1 17 hF dX5_taken_16 rfl rfl rfl ?_
    refine v_callI ([.int x1]) ([]) 20 hF dX5_taken_17 rfl cw_X5_83 rfl (hs.1) (c_X5_isOne (G := G) hs M4 x1) ⟨rfl, rfl, Nat.le_of_ble_eq_true rfl, Nat.le_of_ble_eq_true rfl⟩ rfl rfl (Nat.le_of_ble_eq_true rfl) (fun r7 M6 => ?_)
    refine v_if_ne 23 26 hF dX5_taken_20 rfl (by decide) (fun _ => ?_) (fun _ => ?_)
    · refine v_aload_n 0 27 hF dX5_taken_26 rfl rfl rfl ?_
      refine v_getR (b := 4) 30 hF dX5_taken_27 rfl fl_X5_26 hs.1 rfl ?_
      refine v_iconst (3) 31 hF dX5_taken_30 rfl (by decide) ?_
      refine v_iload_n 1 32 hF dX5_taken_31 rfl rfl rfl ?_
      refine v_imul 33 hF dX5_taken_32 rfl ?_
      refine v_iconst (1) 34 hF dX5_taken_33 rfl (by decide) ?_
      refine v_iadd 35 hF dX5_taken_34 rfl ?_
      refine v_iald 36 hF dX5_taken_35 rfl (hs.2.2.2.2.1) ?_
      refine v_istore_n (lo' := fun y8 => [(3, .int y8), (0, .ref (G.2.2.2.2 0)), (1, .int x1), (2, .int x2)]) 37 hF dX5_taken_36 rfl rfl (by decide) (fun _ => rfl) (fun y8 => ?_)
      refine VR.pick [1, 2, 3, 0] rfl ?_
      exact v_X5_taken_L37 hF hs FU x1 x2 y8 M6
    · refine v_bipush (-11) 25 hF dX5_taken_23 rfl (by decide) ?_
      exact v_iret hF dX5_taken_25
  · refine v_bipush (-2) 14 hF dX5_taken_12 rfl (by decide) ?_
    exact v_iret hF dX5_taken_14
