abbrev rmX5_wayOf : Room := { frames := 1, cells := 0, slots := 0, locals := 22 }
def m_X5_wayOf_B57 (n57 : Int32 → Int32 → Int32 → Mm → Option (Int32 × Mm)) (x2 : Int32) (x3 : Int32) (x5 : Int32) (M : Mm) : Option (Int32 × Mm) := if (M 0 10) ≤ x5 then (bd (m_X5_bitsOf x3 M) fun r2 M1 => if r2 = (M1 0 10) then (some (x2, M1)) else (some ((-1 : Int32), M1))) else (gd (inr x5 5) (lt1 ((x3 ||| (shl ((1 : Int32)) ((M 8 x5.toNatClampNeg))))) fun y3 => gd (inr x5 5) (lt1 (((((10 : Int32) * x2) + (M 8 x5.toNatClampNeg)) + (1 : Int32))) fun y4 => lt1 (x5 + 1) fun y5 => n57 y4 y3 y5 M)))
def m_X5_wayOf_L57 : Nat → Int32 → Int32 → Int32 → Mm → Option (Int32 × Mm)
  | 0 => fun _ _ _ _ => none
  | n + 1 => m_X5_wayOf_B57  (m_X5_wayOf_L57  n)
def m_X5_wayOf_B15 (n15 : Int32 → Int32 → Int32 → Int32 → Mm → Option (Int32 × Mm)) (x2 : Int32) (x3 : Int32) (x4 : Int32) (x5 : Int32) (M : Mm) : Option (Int32 × Mm) := if x5 < 0 then (lt1 ((0 : Int32)) fun y6 => m_X5_wayOf_L57 FU x2 x3 y6 M) else (gd (!(decide ((M 0 10) = 0))) (gd (inr ((irm x4 ((M 0 10)))) 5) (gd (inr x5 5) (lt1 (up M 8 x5.toNatClampNeg ((M 7 ((irm x4 ((M 0 10)))).toNatClampNeg))) fun M7 => gd (!(decide ((M7 0 10) = 0))) (lt1 ((x4 / (M7 0 10))) fun y8 => lt1 (x5 + (-1)) fun y9 => n15 x2 x3 y8 y9 M7)))))
def m_X5_wayOf_L15 : Nat → Int32 → Int32 → Int32 → Int32 → Mm → Option (Int32 × Mm)
  | 0 => fun _ _ _ _ _ => none
  | n + 1 => m_X5_wayOf_B15  (m_X5_wayOf_L15  n)
def m_X5_wayOf (x1 : Int32) (M : Mm) : Option (Int32 × Mm) := lt1 ((0 : Int32)) fun y10 => lt1 ((0 : Int32)) fun y11 => lt1 x1 fun y12 => lt1 (((M 0 10) - (1 : Int32))) fun y13 => m_X5_wayOf_L15 FU y10 y11 y12 y13 M
set_option maxRecDepth 100000 in
set_option maxHeartbeats 4000000 in
theorem v_X5_wayOf_B57 {X : Cx} {G : Gx} {sh : List Sh} (hF : FX X G sh 6 cX5_wayOf (yX5_wayOf).cls (some .int) rmX5_wayOf) (hs : ModAt sh) (n57 : Int32 → Int32 → Int32 → Mm → Option (Int32 × Mm)) (h57 : ∀ (x2 : Int32) (x3 : Int32) (x5 : Int32) (M : Mm), VR X G sh 6 rvI M 57 [(0, .ref (G.2.2.2.2 0)), (2, .int x2), (3, .int x3), (5, .int x5)] [] (n57 x2 x3 x5 M)) : ∀ (x2 : Int32) (x3 : Int32) (x5 : Int32) (M : Mm), VR X G sh 6 rvI M 57 [(0, .ref (G.2.2.2.2 0)), (2, .int x2), (3, .int x3), (5, .int x5)] [] (m_X5_wayOf_B57  n57 x2 x3 x5 M) := by
  intro x2 x3 x5 M
  unfold m_X5_wayOf_B57
  refine v_iload 3 59 hF dX5_wayOf_57 rfl rfl ?_
  refine v_aload_n 0 60 hF dX5_wayOf_59 rfl rfl rfl ?_
  refine v_getI 63 hF dX5_wayOf_60 rfl fl_X5_73 hs.1 rfl ?_
  refine v_icmp_ge 66 99 hF dX5_wayOf_63 rfl (by decide) (fun _ => ?_) (fun _ => ?_)
  · refine v_iload_n 2 100 hF dX5_wayOf_99 rfl rfl rfl ?_
    refine v_staI ([.int x3]) ([]) 103 hF dX5_wayOf_100 rfl cw_X5_246 (c_X5_bitsOf (G := G) (sh := sh) M x3) ⟨rfl, rfl, Nat.le_of_ble_eq_true rfl, Nat.le_of_ble_eq_true rfl⟩ rfl rfl (Nat.le_of_ble_eq_true rfl) (fun r2 M1 => ?_)
    refine v_aload_n 0 104 hF dX5_wayOf_103 rfl rfl rfl ?_
    refine v_getI 107 hF dX5_wayOf_104 rfl fl_X5_73 hs.1 rfl ?_
    refine v_icmp_ne 110 114 hF dX5_wayOf_107 rfl (by decide) (fun _ => ?_) (fun _ => ?_)
    · refine v_iconst (-1) 115 hF dX5_wayOf_114 rfl (by decide) ?_
      exact v_iret hF dX5_wayOf_115
    · refine v_iload_n 1 111 hF dX5_wayOf_110 rfl rfl rfl ?_
      refine v_goto 115 hF dX5_wayOf_111 (by decide) ?_
      exact v_iret hF dX5_wayOf_115
  · refine v_iload_n 2 67 hF dX5_wayOf_66 rfl rfl rfl ?_
    refine v_iconst (1) 68 hF dX5_wayOf_67 rfl (by decide) ?_
    refine v_aload_n 0 69 hF dX5_wayOf_68 rfl rfl rfl ?_
    refine v_getR (b := 8) 72 hF dX5_wayOf_69 rfl fl_X5_38 hs.1 rfl ?_
    refine v_iload 3 74 hF dX5_wayOf_72 rfl rfl ?_
    refine v_iald 75 hF dX5_wayOf_74 rfl (hs.2.2.2.2.2.2.2.2.1) ?_
    refine v_ishl 76 hF dX5_wayOf_75 rfl ?_
    refine v_ior 77 hF dX5_wayOf_76 rfl ?_
    refine v_istore_n (lo' := fun y3 => [(3, .int y3), (0, .ref (G.2.2.2.2 0)), (2, .int x2), (5, .int x5)]) 78 hF dX5_wayOf_77 rfl rfl (by decide) (fun _ => rfl) (fun y3 => ?_)
    refine v_bipush (10) 80 hF dX5_wayOf_78 rfl (by decide) ?_
    refine v_iload_n 2 81 hF dX5_wayOf_80 rfl rfl rfl ?_
    refine v_imul 82 hF dX5_wayOf_81 rfl ?_
    refine v_aload_n 1 83 hF dX5_wayOf_82 rfl rfl rfl ?_
    refine v_getR (b := 8) 86 hF dX5_wayOf_83 rfl fl_X5_38 hs.1 rfl ?_
    refine v_iload 3 88 hF dX5_wayOf_86 rfl rfl ?_
    refine v_iald 89 hF dX5_wayOf_88 rfl (hs.2.2.2.2.2.2.2.2.1) ?_
    refine v_iadd 90 hF dX5_wayOf_89 rfl ?_
    refine v_iconst (1) 91 hF dX5_wayOf_90 rfl (by decide) ?_
    refine v_iadd 92 hF dX5_wayOf_91 rfl ?_
    refine v_istore_n (lo' := fun y4 => [(2, .int y4), (3, .int y3), (0, .ref (G.2.2.2.2 0)), (5, .int x5)]) 93 hF dX5_wayOf_92 rfl rfl (by decide) (fun _ => rfl) (fun y4 => ?_)
    refine v_iinc (v := (x5 + 1)) (lo' := fun y5 => [(5, .int y5), (2, .int y4), (3, .int y3), (0, .ref (G.2.2.2.2 0))]) 3 96 hF dX5_wayOf_93 rfl rfl rfl (by decide) (fun _ => rfl) (fun y5 => ?_)
    refine v_goto 57 hF dX5_wayOf_96 (by decide) ?_
    refine VR.pick [3, 1, 2, 0] rfl ?_
    exact h57 y4 y3 y5 M
theorem v_X5_wayOf_L57 {X : Cx} {G : Gx} {sh : List Sh} (hF : FX X G sh 6 cX5_wayOf (yX5_wayOf).cls (some .int) rmX5_wayOf) (hs : ModAt sh) : ∀ (n : Nat), ∀ (x2 : Int32) (x3 : Int32) (x5 : Int32) (M : Mm), VR X G sh 6 rvI M 57 [(0, .ref (G.2.2.2.2 0)), (2, .int x2), (3, .int x3), (5, .int x5)] [] (m_X5_wayOf_L57  n x2 x3 x5 M) := by
  intro n
  induction n with
  | zero => intro x2 x3 x5 M; exact VR.none
  | succ n ih => exact v_X5_wayOf_B57 hF hs _ ih
set_option maxRecDepth 100000 in
set_option maxHeartbeats 4000000 in
theorem v_X5_wayOf_B15 {X : Cx} {G : Gx} {sh : List Sh} (hF : FX X G sh 6 cX5_wayOf (yX5_wayOf).cls (some .int) rmX5_wayOf) (hs : ModAt sh) (n15 : Int32 → Int32 → Int32 → Int32 → Mm → Option (Int32 × Mm)) (h15 : ∀ (x2 : Int32) (x3 : Int32) (x4 : Int32) (x5 : Int32) (M : Mm), VR X G sh 6 rvI M 15 [(0, .ref (G.2.2.2.2 0)), (2, .int x2), (3, .int x3), (4, .int x4), (5, .int x5)] [] (n15 x2 x3 x4 x5 M)) : ∀ (x2 : Int32) (x3 : Int32) (x4 : Int32) (x5 : Int32) (M : Mm), VR X G sh 6 rvI M 15 [(0, .ref (G.2.2.2.2 0)), (2, .int x2), (3, .int x3), (4, .int x4), (5, .int x5)] [] (m_X5_wayOf_B15  n15 x2 x3 x4 x5 M) := by
  intro x2 x3 x4 x5 M
  unfold m_X5_wayOf_B15
  refine v_iload 4 17 hF dX5_wayOf_15 rfl rfl ?_
  refine v_if_lt 20 54 hF dX5_wayOf_17 rfl (by decide) (fun _ => ?_) (fun _ => ?_)
  · refine v_iconst (0) 55 hF dX5_wayOf_54 rfl (by decide) ?_
    refine v_istore (lo' := fun y6 => [(5, .int y6), (0, .ref (G.2.2.2.2 0)), (2, .int x2), (3, .int x3), (4, .int x4)]) 57 hF dX5_wayOf_55 rfl (by decide) (fun _ => rfl) (fun y6 => ?_)
    refine VR.pick [1, 2, 3, 0] rfl ?_
    exact v_X5_wayOf_L57 hF hs FU x2 x3 y6 M
  · refine v_aload_n 0 21 hF dX5_wayOf_20 rfl rfl rfl ?_
    refine v_getR (b := 8) 24 hF dX5_wayOf_21 rfl fl_X5_38 hs.1 rfl ?_
    refine v_iload 4 26 hF dX5_wayOf_24 rfl rfl ?_
    refine v_aload_n 0 27 hF dX5_wayOf_26 rfl rfl rfl ?_
    refine v_getR (b := 7) 30 hF dX5_wayOf_27 rfl fl_X5_35 hs.1 rfl ?_
    refine v_iload 3 32 hF dX5_wayOf_30 rfl rfl ?_
    refine v_aload_n 0 33 hF dX5_wayOf_32 rfl rfl rfl ?_
    refine v_getI 36 hF dX5_wayOf_33 rfl fl_X5_73 hs.1 rfl ?_
    refine v_irem 37 hF dX5_wayOf_36 rfl ?_
    refine v_iald 38 hF dX5_wayOf_37 rfl (hs.2.2.2.2.2.2.2.1) ?_
    refine v_iast 39 hF dX5_wayOf_38 rfl (hs.2.2.2.2.2.2.2.2.1) (fun M7 => ?_)
    refine v_iload 3 41 hF dX5_wayOf_39 rfl rfl ?_
    refine v_aload_n 0 42 hF dX5_wayOf_41 rfl rfl rfl ?_
    refine v_getI 45 hF dX5_wayOf_42 rfl fl_X5_73 hs.1 rfl ?_
    refine v_idiv 46 hF dX5_wayOf_45 rfl ?_
    refine v_istore (lo' := fun y8 => [(4, .int y8), (0, .ref (G.2.2.2.2 0)), (2, .int x2), (3, .int x3), (5, .int x5)]) 48 hF dX5_wayOf_46 rfl (by decide) (fun _ => rfl) (fun y8 => ?_)
    refine v_iinc (v := (x5 + (-1))) (lo' := fun y9 => [(5, .int y9), (4, .int y8), (0, .ref (G.2.2.2.2 0)), (2, .int x2), (3, .int x3)]) 4 51 hF dX5_wayOf_48 rfl rfl rfl (by decide) (fun _ => rfl) (fun y9 => ?_)
    refine v_goto 15 hF dX5_wayOf_51 (by decide) ?_
    refine VR.pick [2, 3, 4, 1, 0] rfl ?_
    exact h15 x2 x3 y8 y9 M7
theorem v_X5_wayOf_L15 {X : Cx} {G : Gx} {sh : List Sh} (hF : FX X G sh 6 cX5_wayOf (yX5_wayOf).cls (some .int) rmX5_wayOf) (hs : ModAt sh) : ∀ (n : Nat), ∀ (x2 : Int32) (x3 : Int32) (x4 : Int32) (x5 : Int32) (M : Mm), VR X G sh 6 rvI M 15 [(0, .ref (G.2.2.2.2 0)), (2, .int x2), (3, .int x3), (4, .int x4), (5, .int x5)] [] (m_X5_wayOf_L15  n x2 x3 x4 x5 M) := by
  intro n
  induction n with
  | zero => intro x2 x3 x4 x5 M; exact VR.none
  | succ n ih => exact v_X5_wayOf_B15 hF hs _ ih
set_option maxRecDepth 100000 in
set_option maxHeartbeats 4000000 in
theorem c_X5_wayOf {G : Gx} {sh : List Sh} (hs : ModAt sh) (M : Mm) (x1 : Int32) : CT yX5_wayOf cX5_wayOf 6 (some .int) rmX5_wayOf G sh [.ref (G.2.2.2.2 0), .int x1] rvI M (m_X5_wayOf  x1 M) := by
  refine CT.of (by decide +kernel) (Nat.le_of_ble_eq_true rfl) (fun X hF => ?_)
  show VR X G sh 6 rvI M 0 [(0, .ref (G.2.2.2.2 0)), (1, .int x1)] [] _
  unfold m_X5_wayOf
  refine v_iconst (0) 1 hF dX5_wayOf_0 rfl (by decide) ?_
  refine v_istore_n (lo' := fun y10 => [(2, .int y10), (0, .ref (G.2.2.2.2 0)), (1, .int x1)]) 2 hF dX5_wayOf_1 rfl rfl (by decide) (fun _ => rfl) (fun y10 => ?_)
  refine v_iconst (0) 3 hF dX5_wayOf_2 rfl (by decide) ?_
  refine v_istore_n (lo' := fun y11 => [(3, .int y11), (2, .int y10), (0, .ref (G.2.2.2.2 0)), (1, .int x1)]) 4 hF dX5_wayOf_3 rfl rfl (by decide) (fun _ => rfl) (fun y11 => ?_)
  refine v_iload_n 3 5 hF dX5_wayOf_4 rfl rfl rfl ?_
  refine v_istore (lo' := fun y12 => [(4, .int y12), (3, .int y11), (2, .int y10), (0, .ref (G.2.2.2.2 0)), (1, .int x1)]) 7 hF dX5_wayOf_5 rfl (by decide) (fun _ => rfl) (fun y12 => ?_)
  refine v_aload_n 3 8 hF dX5_wayOf_7 rfl rfl rfl ?_
  refine v_getI 11 hF dX5_wayOf_8 rfl fl_X5_73 hs.1 rfl ?_
  refine v_iconst (1) 12 hF dX5_wayOf_11 rfl (by decide) ?_
  refine v_isub 13 hF dX5_wayOf_12 rfl ?_
  refine v_istore (lo' := fun y13 => [(5, .int y13), (4, .int y12), (3, .int y11), (2, .int y10), (0, .ref (G.2.2.2.2 0)), (1, .int x1)]) 15 hF dX5_wayOf_13 rfl (by decide) (fun _ => rfl) (fun y13 => ?_)
  refine VR.pick [4, 3, 2, 1, 0] rfl ?_
  exact v_X5_wayOf_L15 hF hs FU y10 y11 y12 y13 M
abbrev rmX5_live : Room := { frames := 72, cells := 0, slots := 0, locals := 3158 }
def m_X5_live_B221 (n221 : Int32 → Int32 → Int32 → Int32 → Mm → Option (Int32 × Mm)) (x2 : Int32) (x5 : Int32) (x6 : Int32) (x7 : Int32) (M : Mm) : Option (Int32 × Mm) := if (15 : Int32) ≤ x7 then (if x2 = 0 then (some (x5, M)) else (some (x6, M))) else (gd (inr x7 15) (gd (inr x7 15) (lt1 (up M 4 x7.toNatClampNeg ((M 9 x7.toNatClampNeg))) fun M1 => lt1 (x7 + 1) fun y2 => n221 x2 x5 x6 y2 M1)))
def m_X5_live_L221 : Nat → Int32 → Int32 → Int32 → Int32 → Mm → Option (Int32 × Mm)
  | 0 => fun _ _ _ _ _ => none
  | n + 1 => m_X5_live_B221  (m_X5_live_L221  n)
def m_X5_live_J212 (n133 : Int32 → Int32 → Int32 → Int32 → Int32 → Int32 → Mm → Option (Int32 × Mm)) (x1 : Int32) (x2 : Int32) (x4 : Int32) (x5 : Int32) (x6 : Int32) (x7 : Int32) (M : Mm) : Option (Int32 × Mm) := lt1 (x7 + 1) fun y3 => n133 x1 x2 x4 x5 x6 y3 M
def m_X5_live_B157 (n133 : Int32 → Int32 → Int32 → Int32 → Int32 → Int32 → Mm → Option (Int32 × Mm)) (n157 : Int32 → Int32 → Int32 → Int32 → Int32 → Int32 → Int32 → Int32 → Mm → Option (Int32 × Mm)) (x1 : Int32) (x2 : Int32) (x4 : Int32) (x5 : Int32) (x6 : Int32) (x7 : Int32) (x8 : Int32) (x9 : Int32) (M : Mm) : Option (Int32 × Mm) := if (M 0 10) ≤ x9 then (bd (m_X5_homeBehind x1 M) fun r5 M4 => lt1 r5 fun y6 => if y6 ≤ x6 then (m_X5_live_J212 n133 x1 x2 x4 x5 x6 x7 M4) else (lt1 x8 fun y7 => lt1 y6 fun y8 => m_X5_live_J212 n133 x1 x2 x4 y7 y8 x7 M4)) else (gd (inr x9 5) (gd (inr ((((3 : Int32) * x9) + (2 : Int32))) 15) (lt1 (up M 4 ((((3 : Int32) * x9) + (2 : Int32))).toNatClampNeg ((M 8 x9.toNatClampNeg))) fun M9 => lt1 (x9 + 1) fun y10 => n157 x1 x2 x4 x5 x6 x7 x8 y10 M9)))
def m_X5_live_L157 (n133 : Int32 → Int32 → Int32 → Int32 → Int32 → Int32 → Mm → Option (Int32 × Mm)) : Nat → Int32 → Int32 → Int32 → Int32 → Int32 → Int32 → Int32 → Int32 → Mm → Option (Int32 × Mm)
  | 0 => fun _ _ _ _ _ _ _ _ _ => none
  | n + 1 => m_X5_live_B157  n133 (m_X5_live_L157  n133 n)
def m_X5_live_B133 (n133 : Int32 → Int32 → Int32 → Int32 → Int32 → Int32 → Mm → Option (Int32 × Mm)) (x1 : Int32) (x2 : Int32) (x4 : Int32) (x5 : Int32) (x6 : Int32) (x7 : Int32) (M : Mm) : Option (Int32 × Mm) := if x4 ≤ x7 then (lt1 ((0 : Int32)) fun y11 => m_X5_live_L221 FU x2 x5 x6 y11 M) else (bd (m_X5_wayOf x7 M) fun r13 M12 => lt1 r13 fun y14 => if y14 = (-1 : Int32) then (m_X5_live_J212 n133 x1 x2 x4 x5 x6 x7 M12) else (lt1 ((0 : Int32)) fun y15 => m_X5_live_L157 n133 FU x1 x2 x4 x5 x6 x7 y14 y15 M12))
def m_X5_live_L133 : Nat → Int32 → Int32 → Int32 → Int32 → Int32 → Int32 → Mm → Option (Int32 × Mm)
  | 0 => fun _ _ _ _ _ _ _ => none
  | n + 1 => m_X5_live_B133  (m_X5_live_L133  n)
def m_X5_live_B100 (n100 : Int32 → Int32 → Int32 → Int32 → Mm → Option (Int32 × Mm)) (x1 : Int32) (x2 : Int32) (x4 : Int32) (x5 : Int32) (M : Mm) : Option (Int32 × Mm) := if (M 0 10) ≤ x5 then (lt1 ((0 : Int32)) fun y16 => lt1 ((-1 : Int32)) fun y17 => lt1 ((0 : Int32)) fun y18 => m_X5_live_L133 FU x1 x2 x4 y16 y17 y18 M) else (lt1 ((x4 * (M 0 10))) fun y19 => lt1 (x5 + 1) fun y20 => n100 x1 x2 y19 y20 M)
def m_X5_live_L100 : Nat → Int32 → Int32 → Int32 → Int32 → Mm → Option (Int32 × Mm)
  | 0 => fun _ _ _ _ _ => none
  | n + 1 => m_X5_live_B100  (m_X5_live_L100  n)
def m_X5_live_B67 (n67 : Int32 → Int32 → Int32 → Mm → Option (Int32 × Mm)) (x1 : Int32) (x2 : Int32) (x4 : Int32) (M : Mm) : Option (Int32 × Mm) := if (15 : Int32) ≤ x4 then (lt1 ((1 : Int32)) fun y21 => lt1 ((0 : Int32)) fun y22 => m_X5_live_L100 FU x1 x2 y21 y22 M) else (gd (inr x4 15) (gd (inr x4 15) (lt1 (up M 9 x4.toNatClampNeg ((M 4 x4.toNatClampNeg))) fun M23 => lt1 (x4 + 1) fun y24 => n67 x1 x2 y24 M23)))
def m_X5_live_L67 : Nat → Int32 → Int32 → Int32 → Mm → Option (Int32 × Mm)
  | 0 => fun _ _ _ _ => none
  | n + 1 => m_X5_live_B67  (m_X5_live_L67  n)
def m_X5_live_J58 (n30 : Int32 → Int32 → Int32 → Int32 → Mm → Option (Int32 × Mm)) (x1 : Int32) (x2 : Int32) (x3 : Int32) (x4 : Int32) (M : Mm) : Option (Int32 × Mm) := lt1 (x4 + 1) fun y25 => n30 x1 x2 x3 y25 M
def m_X5_live_B30 (n30 : Int32 → Int32 → Int32 → Int32 → Mm → Option (Int32 × Mm)) (x1 : Int32) (x2 : Int32) (x3 : Int32) (x4 : Int32) (M : Mm) : Option (Int32 × Mm) := if (8 : Int32) ≤ x4 then (lt1 ((0 : Int32)) fun y26 => m_X5_live_L67 FU x1 x2 y26 M) else (bd (m_X5_whoIn x4 M) fun r28 M27 => if r28 = (-1 : Int32) then (m_X5_live_J58 n30 x1 x2 x3 x4 M27) else (gd (inr x3 5) (lt1 (up M27 7 x3.toNatClampNeg x4) fun M29 => lt1 (x3 + 1) fun y30 => m_X5_live_J58 n30 x1 x2 y30 x4 M29)))
def m_X5_live_L30 : Nat → Int32 → Int32 → Int32 → Int32 → Mm → Option (Int32 × Mm)
  | 0 => fun _ _ _ _ _ => none
  | n + 1 => m_X5_live_B30  (m_X5_live_L30  n)
def m_X5_live (x1 : Int32) (x2 : Int32) (M : Mm) : Option (Int32 × Mm) := bd (m_X5_in (((x1).toInt64)) ((0 : Int64)) ((20 : Int64)) M) fun r32 M31 => if r32 = 0 then (some ((-2 : Int32), M31)) else (bd (m_X5_in (((x2).toInt64)) ((0 : Int64)) ((1 : Int64)) M31) fun r34 M33 => if r34 = 0 then (some ((-2 : Int32), M33)) else (lt1 ((0 : Int32)) fun y35 => lt1 ((0 : Int32)) fun y36 => m_X5_live_L30 FU x1 x2 y35 y36 M33))
set_option maxRecDepth 100000 in
set_option maxHeartbeats 4000000 in
theorem v_X5_live_B221 {X : Cx} {G : Gx} {sh : List Sh} (hF : FX X G sh 10 cX5_live (yX5_live).cls (some .int) rmX5_live) (hs : ModAt sh) (n221 : Int32 → Int32 → Int32 → Int32 → Mm → Option (Int32 × Mm)) (h221 : ∀ (x2 : Int32) (x5 : Int32) (x6 : Int32) (x7 : Int32) (M : Mm), VR X G sh 10 rvI M 221 [(0, .ref (G.2.2.2.2 0)), (2, .int x2), (5, .int x5), (6, .int x6), (7, .int x7)] [] (n221 x2 x5 x6 x7 M)) : ∀ (x2 : Int32) (x5 : Int32) (x6 : Int32) (x7 : Int32) (M : Mm), VR X G sh 10 rvI M 221 [(0, .ref (G.2.2.2.2 0)), (2, .int x2), (5, .int x5), (6, .int x6), (7, .int x7)] [] (m_X5_live_B221  n221 x2 x5 x6 x7 M) := by
  intro x2 x5 x6 x7 M
  unfold m_X5_live_B221
  refine v_iload 4 223 hF dX5_live_221 rfl rfl ?_
  refine v_bipush (15) 225 hF dX5_live_223 rfl (by decide) ?_
  refine v_icmp_ge 228 248 hF dX5_live_225 rfl (by decide) (fun _ => ?_) (fun _ => ?_)
  · refine v_iload_n 1 249 hF dX5_live_248 rfl rfl rfl ?_
    refine v_if_ne 252 257 hF dX5_live_249 rfl (by decide) (fun _ => ?_) (fun _ => ?_)
    · refine v_iload 3 259 hF dX5_live_257 rfl rfl ?_
      exact v_iret hF dX5_live_259
    · refine v_iload 2 254 hF dX5_live_252 rfl rfl ?_
      refine v_goto 259 hF dX5_live_254 (by decide) ?_
      exact v_iret hF dX5_live_259
  · refine v_aload_n 0 229 hF dX5_live_228 rfl rfl rfl ?_
    refine v_getR (b := 4) 232 hF dX5_live_229 rfl fl_X5_26 hs.1 rfl ?_
    refine v_iload 4 234 hF dX5_live_232 rfl rfl ?_
    refine v_aload_n 0 235 hF dX5_live_234 rfl rfl rfl ?_
    refine v_getR (b := 9) 238 hF dX5_live_235 rfl fl_X5_41 hs.1 rfl ?_
    refine v_iload 4 240 hF dX5_live_238 rfl rfl ?_
    refine v_iald 241 hF dX5_live_240 rfl (hs.2.2.2.2.2.2.2.2.2.1) ?_
    refine v_iast 242 hF dX5_live_241 rfl (hs.2.2.2.2.1) (fun M1 => ?_)
    refine v_iinc (v := (x7 + 1)) (lo' := fun y2 => [(7, .int y2), (0, .ref (G.2.2.2.2 0)), (2, .int x2), (5, .int x5), (6, .int x6)]) 4 245 hF dX5_live_242 rfl rfl rfl (by decide) (fun _ => rfl) (fun y2 => ?_)
    refine v_goto 221 hF dX5_live_245 (by decide) ?_
    refine VR.pick [1, 2, 3, 4, 0] rfl ?_
    exact h221 x2 x5 x6 y2 M1
theorem v_X5_live_L221 {X : Cx} {G : Gx} {sh : List Sh} (hF : FX X G sh 10 cX5_live (yX5_live).cls (some .int) rmX5_live) (hs : ModAt sh) : ∀ (n : Nat), ∀ (x2 : Int32) (x5 : Int32) (x6 : Int32) (x7 : Int32) (M : Mm), VR X G sh 10 rvI M 221 [(0, .ref (G.2.2.2.2 0)), (2, .int x2), (5, .int x5), (6, .int x6), (7, .int x7)] [] (m_X5_live_L221  n x2 x5 x6 x7 M) := by
  intro n
  induction n with
  | zero => intro x2 x5 x6 x7 M; exact VR.none
  | succ n ih => exact v_X5_live_B221 hF hs _ ih
set_option maxRecDepth 100000 in
set_option maxHeartbeats 4000000 in
theorem v_X5_live_J212 {X : Cx} {G : Gx} {sh : List Sh} (hF : FX X G sh 10 cX5_live (yX5_live).cls (some .int) rmX5_live) (hs : ModAt sh) (n133 : Int32 → Int32 → Int32 → Int32 → Int32 → Int32 → Mm → Option (Int32 × Mm)) (h133 : ∀ (x1 : Int32) (x2 : Int32) (x4 : Int32) (x5 : Int32) (x6 : Int32) (x7 : Int32) (M : Mm), VR X G sh 10 rvI M 133 [(0, .ref (G.2.2.2.2 0)), (1, .int x1), (2, .int x2), (4, .int x4), (5, .int x5), (6, .int x6), (7, .int x7)] [] (n133 x1 x2 x4 x5 x6 x7 M)) : ∀ (x1 : Int32) (x2 : Int32) (x4 : Int32) (x5 : Int32) (x6 : Int32) (x7 : Int32) (M : Mm), VR X G sh 10 rvI M 212 [(0, .ref (G.2.2.2.2 0)), (1, .int x1), (2, .int x2), (4, .int x4), (5, .int x5), (6, .int x6), (7, .int x7)] [] (m_X5_live_J212  n133 x1 x2 x4 x5 x6 x7 M) := by
  intro x1 x2 x4 x5 x6 x7 M
  unfold m_X5_live_J212
  refine v_iinc (v := (x7 + 1)) (lo' := fun y3 => [(7, .int y3), (0, .ref (G.2.2.2.2 0)), (1, .int x1), (2, .int x2), (4, .int x4), (5, .int x5), (6, .int x6)]) 6 215 hF dX5_live_212 rfl rfl rfl (by decide) (fun _ => rfl) (fun y3 => ?_)
  refine v_goto 133 hF dX5_live_215 (by decide) ?_
  refine VR.pick [1, 2, 3, 4, 5, 6, 0] rfl ?_
  exact h133 x1 x2 x4 x5 x6 y3 M
set_option maxRecDepth 100000 in
set_option maxHeartbeats 4000000 in
theorem v_X5_live_B157 {X : Cx} {G : Gx} {sh : List Sh} (hF : FX X G sh 10 cX5_live (yX5_live).cls (some .int) rmX5_live) (hs : ModAt sh) (n133 : Int32 → Int32 → Int32 → Int32 → Int32 → Int32 → Mm → Option (Int32 × Mm)) (h133 : ∀ (x1 : Int32) (x2 : Int32) (x4 : Int32) (x5 : Int32) (x6 : Int32) (x7 : Int32) (M : Mm), VR X G sh 10 rvI M 133 [(0, .ref (G.2.2.2.2 0)), (1, .int x1), (2, .int x2), (4, .int x4), (5, .int x5), (6, .int x6), (7, .int x7)] [] (n133 x1 x2 x4 x5 x6 x7 M)) (n157 : Int32 → Int32 → Int32 → Int32 → Int32 → Int32 → Int32 → Int32 → Mm → Option (Int32 × Mm)) (h157 : ∀ (x1 : Int32) (x2 : Int32) (x4 : Int32) (x5 : Int32) (x6 : Int32) (x7 : Int32) (x8 : Int32) (x9 : Int32) (M : Mm), VR X G sh 10 rvI M 157 [(0, .ref (G.2.2.2.2 0)), (1, .int x1), (2, .int x2), (4, .int x4), (5, .int x5), (6, .int x6), (7, .int x7), (8, .int x8), (9, .int x9)] [] (n157 x1 x2 x4 x5 x6 x7 x8 x9 M)) : ∀ (x1 : Int32) (x2 : Int32) (x4 : Int32) (x5 : Int32) (x6 : Int32) (x7 : Int32) (x8 : Int32) (x9 : Int32) (M : Mm), VR X G sh 10 rvI M 157 [(0, .ref (G.2.2.2.2 0)), (1, .int x1), (2, .int x2), (4, .int x4), (5, .int x5), (6, .int x6), (7, .int x7), (8, .int x8), (9, .int x9)] [] (m_X5_live_B157  n133 n157 x1 x2 x4 x5 x6 x7 x8 x9 M) := by
  intro x1 x2 x4 x5 x6 x7 x8 x9 M
  unfold m_X5_live_B157
  refine v_iload 8 159 hF dX5_live_157 rfl rfl ?_
  refine v_aload_n 0 160 hF dX5_live_159 rfl rfl rfl ?_
  refine v_getI 163 hF dX5_live_160 rfl fl_X5_73 hs.1 rfl ?_
  refine v_icmp_ge 166 190 hF dX5_live_163 rfl (by decide) (fun _ => ?_) (fun _ => ?_)
  · refine v_aload_n 0 191 hF dX5_live_190 rfl rfl rfl ?_
    refine v_iload_n 1 192 hF dX5_live_191 rfl rfl rfl ?_
    refine v_callI ([.int x1]) ([]) 195 hF dX5_live_192 rfl cw_X5_304 rfl (hs.1) (c_X5_homeBehind (G := G) hs M x1) ⟨rfl, rfl, Nat.le_of_ble_eq_true rfl, Nat.le_of_ble_eq_true rfl⟩ rfl rfl (Nat.le_of_ble_eq_true rfl) (fun r5 M4 => ?_)
    refine v_istore (lo' := fun y6 => [(9, .int y6), (0, .ref (G.2.2.2.2 0)), (1, .int x1), (2, .int x2), (4, .int x4), (5, .int x5), (6, .int x6), (7, .int x7), (8, .int x8)]) 197 hF dX5_live_195 rfl (by decide) (fun _ => rfl) (fun y6 => ?_)
    refine v_iload 0 199 hF dX5_live_197 rfl rfl ?_
    refine v_iload 6 201 hF dX5_live_199 rfl rfl ?_
    refine v_icmp_le 204 212 hF dX5_live_201 rfl (by decide) (fun _ => ?_) (fun _ => ?_)
    · refine VR.pick [1, 2, 3, 4, 5, 6, 7] rfl ?_
      exact v_X5_live_J212 hF hs _ h133 x1 x2 x4 x5 x6 x7 M4
    · refine v_iload 8 206 hF dX5_live_204 rfl rfl ?_
      refine v_istore (lo' := fun y7 => [(5, .int y7), (9, .int y6), (0, .ref (G.2.2.2.2 0)), (1, .int x1), (2, .int x2), (4, .int x4), (6, .int x6), (7, .int x7), (8, .int x8)]) 208 hF dX5_live_206 rfl (by decide) (fun _ => rfl) (fun y7 => ?_)
      refine v_iload 1 210 hF dX5_live_208 rfl rfl ?_
      refine v_istore (lo' := fun y8 => [(6, .int y8), (5, .int y7), (9, .int y6), (0, .ref (G.2.2.2.2 0)), (1, .int x1), (2, .int x2), (4, .int x4), (7, .int x7), (8, .int x8)]) 212 hF dX5_live_210 rfl (by decide) (fun _ => rfl) (fun y8 => ?_)
      refine VR.pick [3, 4, 5, 6, 1, 0, 7] rfl ?_
      exact v_X5_live_J212 hF hs _ h133 x1 x2 x4 y7 y8 x7 M4
  · refine v_aload_n 0 167 hF dX5_live_166 rfl rfl rfl ?_
    refine v_getR (b := 4) 170 hF dX5_live_167 rfl fl_X5_26 hs.1 rfl ?_
    refine v_iconst (3) 171 hF dX5_live_170 rfl (by decide) ?_
    refine v_iload 8 173 hF dX5_live_171 rfl rfl ?_
    refine v_imul 174 hF dX5_live_173 rfl ?_
    refine v_iconst (2) 175 hF dX5_live_174 rfl (by decide) ?_
    refine v_iadd 176 hF dX5_live_175 rfl ?_
    refine v_aload_n 0 177 hF dX5_live_176 rfl rfl rfl ?_
    refine v_getR (b := 8) 180 hF dX5_live_177 rfl fl_X5_38 hs.1 rfl ?_
    refine v_iload 8 182 hF dX5_live_180 rfl rfl ?_
    refine v_iald 183 hF dX5_live_182 rfl (hs.2.2.2.2.2.2.2.2.1) ?_
    refine v_iast 184 hF dX5_live_183 rfl (hs.2.2.2.2.1) (fun M9 => ?_)
    refine v_iinc (v := (x9 + 1)) (lo' := fun y10 => [(9, .int y10), (0, .ref (G.2.2.2.2 0)), (1, .int x1), (2, .int x2), (4, .int x4), (5, .int x5), (6, .int x6), (7, .int x7), (8, .int x8)]) 8 187 hF dX5_live_184 rfl rfl rfl (by decide) (fun _ => rfl) (fun y10 => ?_)
    refine v_goto 157 hF dX5_live_187 (by decide) ?_
    refine VR.pick [1, 2, 3, 4, 5, 6, 7, 8, 0] rfl ?_
    exact h157 x1 x2 x4 x5 x6 x7 x8 y10 M9
theorem v_X5_live_L157 {X : Cx} {G : Gx} {sh : List Sh} (hF : FX X G sh 10 cX5_live (yX5_live).cls (some .int) rmX5_live) (hs : ModAt sh) (n133 : Int32 → Int32 → Int32 → Int32 → Int32 → Int32 → Mm → Option (Int32 × Mm)) (h133 : ∀ (x1 : Int32) (x2 : Int32) (x4 : Int32) (x5 : Int32) (x6 : Int32) (x7 : Int32) (M : Mm), VR X G sh 10 rvI M 133 [(0, .ref (G.2.2.2.2 0)), (1, .int x1), (2, .int x2), (4, .int x4), (5, .int x5), (6, .int x6), (7, .int x7)] [] (n133 x1 x2 x4 x5 x6 x7 M)) : ∀ (n : Nat), ∀ (x1 : Int32) (x2 : Int32) (x4 : Int32) (x5 : Int32) (x6 : Int32) (x7 : Int32) (x8 : Int32) (x9 : Int32) (M : Mm), VR X G sh 10 rvI M 157 [(0, .ref (G.2.2.2.2 0)), (1, .int x1), (2, .int x2), (4, .int x4), (5, .int x5), (6, .int x6), (7, .int x7), (8, .int x8), (9, .int x9)] [] (m_X5_live_L157  n133 n x1 x2 x4 x5 x6 x7 x8 x9 M) := by
  intro n
  induction n with
  | zero => intro x1 x2 x4 x5 x6 x7 x8 x9 M; exact VR.none
  | succ n ih => exact v_X5_live_B157 hF hs _ h133 _ ih
set_option maxRecDepth 100000 in
set_option maxHeartbeats 4000000 in
theorem v_X5_live_B133 {X : Cx} {G : Gx} {sh : List Sh} (hF : FX X G sh 10 cX5_live (yX5_live).cls (some .int) rmX5_live) (hs : ModAt sh) (n133 : Int32 → Int32 → Int32 → Int32 → Int32 → Int32 → Mm → Option (Int32 × Mm)) (h133 : ∀ (x1 : Int32) (x2 : Int32) (x4 : Int32) (x5 : Int32) (x6 : Int32) (x7 : Int32) (M : Mm), VR X G sh 10 rvI M 133 [(0, .ref (G.2.2.2.2 0)), (1, .int x1), (2, .int x2), (4, .int x4), (5, .int x5), (6, .int x6), (7, .int x7)] [] (n133 x1 x2 x4 x5 x6 x7 M)) : ∀ (x1 : Int32) (x2 : Int32) (x4 : Int32) (x5 : Int32) (x6 : Int32) (x7 : Int32) (M : Mm), VR X G sh 10 rvI M 133 [(0, .ref (G.2.2.2.2 0)), (1, .int x1), (2, .int x2), (4, .int x4), (5, .int x5), (6, .int x6), (7, .int x7)] [] (m_X5_live_B133  n133 x1 x2 x4 x5 x6 x7 M) := by
  intro x1 x2 x4 x5 x6 x7 M
  unfold m_X5_live_B133
  refine v_iload 6 135 hF dX5_live_133 rfl rfl ?_
  refine v_iload 3 137 hF dX5_live_135 rfl rfl ?_
  refine v_icmp_ge 140 218 hF dX5_live_137 rfl (by decide) (fun _ => ?_) (fun _ => ?_)
  · refine v_iconst (0) 219 hF dX5_live_218 rfl (by decide) ?_
    refine v_istore (lo' := fun y11 => [(7, .int y11), (0, .ref (G.2.2.2.2 0)), (1, .int x1), (2, .int x2), (4, .int x4), (5, .int x5), (6, .int x6)]) 221 hF dX5_live_219 rfl (by decide) (fun _ => rfl) (fun y11 => ?_)
    refine VR.pick [1, 3, 5, 6, 0] rfl ?_
    exact v_X5_live_L221 hF hs FU x2 x5 x6 y11 M
  · refine v_aload_n 0 141 hF dX5_live_140 rfl rfl rfl ?_
    refine v_iload 6 143 hF dX5_live_141 rfl rfl ?_
    refine v_callI ([.int x7]) ([]) 146 hF dX5_live_143 rfl cw_X5_301 rfl (hs.1) (c_X5_wayOf (G := G) hs M x7) ⟨rfl, rfl, Nat.le_of_ble_eq_true rfl, Nat.le_of_ble_eq_true rfl⟩ rfl rfl (Nat.le_of_ble_eq_true rfl) (fun r13 M12 => ?_)
    refine v_istore (lo' := fun y14 => [(8, .int y14), (0, .ref (G.2.2.2.2 0)), (1, .int x1), (2, .int x2), (4, .int x4), (5, .int x5), (6, .int x6), (7, .int x7)]) 148 hF dX5_live_146 rfl (by decide) (fun _ => rfl) (fun y14 => ?_)
    refine v_iload 0 150 hF dX5_live_148 rfl rfl ?_
    refine v_iconst (-1) 151 hF dX5_live_150 rfl (by decide) ?_
    refine v_icmp_eq 154 212 hF dX5_live_151 rfl (by decide) (fun _ => ?_) (fun _ => ?_)
    · refine VR.pick [1, 2, 3, 4, 5, 6, 7] rfl ?_
      exact v_X5_live_J212 hF hs _ h133 x1 x2 x4 x5 x6 x7 M12
    · refine v_iconst (0) 155 hF dX5_live_154 rfl (by decide) ?_
      refine v_istore (lo' := fun y15 => [(9, .int y15), (8, .int y14), (0, .ref (G.2.2.2.2 0)), (1, .int x1), (2, .int x2), (4, .int x4), (5, .int x5), (6, .int x6), (7, .int x7)]) 157 hF dX5_live_155 rfl (by decide) (fun _ => rfl) (fun y15 => ?_)
      refine VR.pick [2, 3, 4, 5, 6, 7, 8, 1, 0] rfl ?_
      exact v_X5_live_L157 hF hs _ h133 FU x1 x2 x4 x5 x6 x7 y14 y15 M12
theorem v_X5_live_L133 {X : Cx} {G : Gx} {sh : List Sh} (hF : FX X G sh 10 cX5_live (yX5_live).cls (some .int) rmX5_live) (hs : ModAt sh) : ∀ (n : Nat), ∀ (x1 : Int32) (x2 : Int32) (x4 : Int32) (x5 : Int32) (x6 : Int32) (x7 : Int32) (M : Mm), VR X G sh 10 rvI M 133 [(0, .ref (G.2.2.2.2 0)), (1, .int x1), (2, .int x2), (4, .int x4), (5, .int x5), (6, .int x6), (7, .int x7)] [] (m_X5_live_L133  n x1 x2 x4 x5 x6 x7 M) := by
  intro n
  induction n with
  | zero => intro x1 x2 x4 x5 x6 x7 M; exact VR.none
  | succ n ih => exact v_X5_live_B133 hF hs _ ih
set_option maxRecDepth 100000 in
set_option maxHeartbeats 4000000 in
theorem v_X5_live_B100 {X : Cx} {G : Gx} {sh : List Sh} (hF : FX X G sh 10 cX5_live (yX5_live).cls (some .int) rmX5_live) (hs : ModAt sh) (n100 : Int32 → Int32 → Int32 → Int32 → Mm → Option (Int32 × Mm)) (h100 : ∀ (x1 : Int32) (x2 : Int32) (x4 : Int32) (x5 : Int32) (M : Mm), VR X G sh 10 rvI M 100 [(0, .ref (G.2.2.2.2 0)), (1, .int x1), (2, .int x2), (4, .int x4), (5, .int x5)] [] (n100 x1 x2 x4 x5 M)) : ∀ (x1 : Int32) (x2 : Int32) (x4 : Int32) (x5 : Int32) (M : Mm), VR X G sh 10 rvI M 100 [(0, .ref (G.2.2.2.2 0)), (1, .int x1), (2, .int x2), (4, .int x4), (5, .int x5)] [] (m_X5_live_B100  n100 x1 x2 x4 x5 M) := by
  intro x1 x2 x4 x5 M
  unfold m_X5_live_B100
  refine v_iload 4 102 hF dX5_live_100 rfl rfl ?_
  refine v_aload_n 0 103 hF dX5_live_102 rfl rfl rfl ?_
  refine v_getI 106 hF dX5_live_103 rfl fl_X5_73 hs.1 rfl ?_
  refine v_icmp_ge 109 124 hF dX5_live_106 rfl (by decide) (fun _ => ?_) (fun _ => ?_)
  · refine v_iconst (0) 125 hF dX5_live_124 rfl (by decide) ?_
    refine v_istore (lo' := fun y16 => [(5, .int y16), (0, .ref (G.2.2.2.2 0)), (1, .int x1), (2, .int x2), (4, .int x4)]) 127 hF dX5_live_125 rfl (by decide) (fun _ => rfl) (fun y16 => ?_)
    refine v_iconst (-1) 128 hF dX5_live_127 rfl (by decide) ?_
    refine v_istore (lo' := fun y17 => [(6, .int y17), (5, .int y16), (0, .ref (G.2.2.2.2 0)), (1, .int x1), (2, .int x2), (4, .int x4)]) 130 hF dX5_live_128 rfl (by decide) (fun _ => rfl) (fun y17 => ?_)
    refine v_iconst (0) 131 hF dX5_live_130 rfl (by decide) ?_
    refine v_istore (lo' := fun y18 => [(7, .int y18), (6, .int y17), (5, .int y16), (0, .ref (G.2.2.2.2 0)), (1, .int x1), (2, .int x2), (4, .int x4)]) 133 hF dX5_live_131 rfl (by decide) (fun _ => rfl) (fun y18 => ?_)
    refine VR.pick [3, 4, 5, 6, 2, 1, 0] rfl ?_
    exact v_X5_live_L133 hF hs FU x1 x2 x4 y16 y17 y18 M
  · refine v_iload 3 111 hF dX5_live_109 rfl rfl ?_
    refine v_aload_n 0 112 hF dX5_live_111 rfl rfl rfl ?_
    refine v_getI 115 hF dX5_live_112 rfl fl_X5_73 hs.1 rfl ?_
    refine v_imul 116 hF dX5_live_115 rfl ?_
    refine v_istore (lo' := fun y19 => [(4, .int y19), (0, .ref (G.2.2.2.2 0)), (1, .int x1), (2, .int x2), (5, .int x5)]) 118 hF dX5_live_116 rfl (by decide) (fun _ => rfl) (fun y19 => ?_)
    refine v_iinc (v := (x5 + 1)) (lo' := fun y20 => [(5, .int y20), (4, .int y19), (0, .ref (G.2.2.2.2 0)), (1, .int x1), (2, .int x2)]) 4 121 hF dX5_live_118 rfl rfl rfl (by decide) (fun _ => rfl) (fun y20 => ?_)
    refine v_goto 100 hF dX5_live_121 (by decide) ?_
    refine VR.pick [2, 3, 4, 1, 0] rfl ?_
    exact h100 x1 x2 y19 y20 M
theorem v_X5_live_L100 {X : Cx} {G : Gx} {sh : List Sh} (hF : FX X G sh 10 cX5_live (yX5_live).cls (some .int) rmX5_live) (hs : ModAt sh) : ∀ (n : Nat), ∀ (x1 : Int32) (x2 : Int32) (x4 : Int32) (x5 : Int32) (M : Mm), VR X G sh 10 rvI M 100 [(0, .ref (G.2.2.2.2 0)), (1, .int x1), (2, .int x2), (4, .int x4), (5, .int x5)] [] (m_X5_live_L100  n x1 x2 x4 x5 M) := by
  intro n
  induction n with
  | zero => intro x1 x2 x4 x5 M; exact VR.none
  | succ n ih => exact v_X5_live_B100 hF hs _ ih
set_option maxRecDepth 100000 in
set_option maxHeartbeats 4000000 in
theorem v_X5_live_B67 {X : Cx} {G : Gx} {sh : List Sh} (hF : FX X G sh 10 cX5_live (yX5_live).cls (some .int) rmX5_live) (hs : ModAt sh) (n67 : Int32 → Int32 → Int32 → Mm → Option (Int32 × Mm)) (h67 : ∀ (x1 : Int32) (x2 : Int32) (x4 : Int32) (M : Mm), VR X G sh 10 rvI M 67 [(0, .ref (G.2.2.2.2 0)), (1, .int x1), (2, .int x2), (4, .int x4)] [] (n67 x1 x2 x4 M)) : ∀ (x1 : Int32) (x2 : Int32) (x4 : Int32) (M : Mm), VR X G sh 10 rvI M 67 [(0, .ref (G.2.2.2.2 0)), (1, .int x1), (2, .int x2), (4, .int x4)] [] (m_X5_live_B67  n67 x1 x2 x4 M) := by
  intro x1 x2 x4 M
  unfold m_X5_live_B67
  refine v_iload 3 69 hF dX5_live_67 rfl rfl ?_
  refine v_bipush (15) 71 hF dX5_live_69 rfl (by decide) ?_
  refine v_icmp_ge 74 94 hF dX5_live_71 rfl (by decide) (fun _ => ?_) (fun _ => ?_)
  · refine v_iconst (1) 95 hF dX5_live_94 rfl (by decide) ?_
    refine v_istore (lo' := fun y21 => [(4, .int y21), (0, .ref (G.2.2.2.2 0)), (1, .int x1), (2, .int x2)]) 97 hF dX5_live_95 rfl (by decide) (fun _ => rfl) (fun y21 => ?_)
    refine v_iconst (0) 98 hF dX5_live_97 rfl (by decide) ?_
    refine v_istore (lo' := fun y22 => [(5, .int y22), (4, .int y21), (0, .ref (G.2.2.2.2 0)), (1, .int x1), (2, .int x2)]) 100 hF dX5_live_98 rfl (by decide) (fun _ => rfl) (fun y22 => ?_)
    refine VR.pick [2, 3, 4, 1, 0] rfl ?_
    exact v_X5_live_L100 hF hs FU x1 x2 y21 y22 M
  · refine v_aload_n 0 75 hF dX5_live_74 rfl rfl rfl ?_
    refine v_getR (b := 9) 78 hF dX5_live_75 rfl fl_X5_41 hs.1 rfl ?_
    refine v_iload 3 80 hF dX5_live_78 rfl rfl ?_
    refine v_aload_n 0 81 hF dX5_live_80 rfl rfl rfl ?_
    refine v_getR (b := 4) 84 hF dX5_live_81 rfl fl_X5_26 hs.1 rfl ?_
    refine v_iload 3 86 hF dX5_live_84 rfl rfl ?_
    refine v_iald 87 hF dX5_live_86 rfl (hs.2.2.2.2.1) ?_
    refine v_iast 88 hF dX5_live_87 rfl (hs.2.2.2.2.2.2.2.2.2.1) (fun M23 => ?_)
    refine v_iinc (v := (x4 + 1)) (lo' := fun y24 => [(4, .int y24), (0, .ref (G.2.2.2.2 0)), (1, .int x1), (2, .int x2)]) 3 91 hF dX5_live_88 rfl rfl rfl (by decide) (fun _ => rfl) (fun y24 => ?_)
    refine v_goto 67 hF dX5_live_91 (by decide) ?_
    refine VR.pick [1, 2, 3, 0] rfl ?_
    exact h67 x1 x2 y24 M23
theorem v_X5_live_L67 {X : Cx} {G : Gx} {sh : List Sh} (hF : FX X G sh 10 cX5_live (yX5_live).cls (some .int) rmX5_live) (hs : ModAt sh) : ∀ (n : Nat), ∀ (x1 : Int32) (x2 : Int32) (x4 : Int32) (M : Mm), VR X G sh 10 rvI M 67 [(0, .ref (G.2.2.2.2 0)), (1, .int x1), (2, .int x2), (4, .int x4)] [] (m_X5_live_L67  n x1 x2 x4 M) := by
  intro n
  induction n with
  | zero => intro x1 x2 x4 M; exact VR.none
  | succ n ih => exact v_X5_live_B67 hF hs _ ih
set_option maxRecDepth 100000 in
set_option maxHeartbeats 4000000 in
theorem v_X5_live_J58 {X : Cx} {G : Gx} {sh : List Sh} (hF : FX X G sh 10 cX5_live (yX5_live).cls (some .int) rmX5_live) (hs : ModAt sh) (n30 : Int32 → Int32 → Int32 → Int32 → Mm → Option (Int32 × Mm)) (h30 : ∀ (x1 : Int32) (x2 : Int32) (x3 : Int32) (x4 : Int32) (M : Mm), VR X G sh 10 rvI M 30 [(0, .ref (G.2.2.2.2 0)), (1, .int x1), (2, .int x2), (3, .int x3), (4, .int x4)] [] (n30 x1 x2 x3 x4 M)) : ∀ (x1 : Int32) (x2 : Int32) (x3 : Int32) (x4 : Int32) (M : Mm), VR X G sh 10 rvI M 58 [(0, .ref (G.2.2.2.2 0)), (1, .int x1), (2, .int x2), (3, .int x3), (4, .int x4)] [] (m_X5_live_J58  n30 x1 x2 x3 x4 M) := by
  intro x1 x2 x3 x4 M
  unfold m_X5_live_J58
  refine v_iinc (v := (x4 + 1)) (lo' := fun y25 => [(4, .int y25), (0, .ref (G.2.2.2.2 0)), (1, .int x1), (2, .int x2), (3, .int x3)]) 4 61 hF dX5_live_58 rfl rfl rfl (by decide) (fun _ => rfl) (fun y25 => ?_)
  refine v_goto 30 hF dX5_live_61 (by decide) ?_
  refine VR.pick [1, 2, 3, 4, 0] rfl ?_
  exact h30 x1 x2 x3 y25 M
set_option maxRecDepth 100000 in
set_option maxHeartbeats 4000000 in
theorem v_X5_live_B30 {X : Cx} {G : Gx} {sh : List Sh} (hF : FX X G sh 10 cX5_live (yX5_live).cls (some .int) rmX5_live) (hs : ModAt sh) (n30 : Int32 → Int32 → Int32 → Int32 → Mm → Option (Int32 × Mm)) (h30 : ∀ (x1 : Int32) (x2 : Int32) (x3 : Int32) (x4 : Int32) (M : Mm), VR X G sh 10 rvI M 30 [(0, .ref (G.2.2.2.2 0)), (1, .int x1), (2, .int x2), (3, .int x3), (4, .int x4)] [] (n30 x1 x2 x3 x4 M)) : ∀ (x1 : Int32) (x2 : Int32) (x3 : Int32) (x4 : Int32) (M : Mm), VR X G sh 10 rvI M 30 [(0, .ref (G.2.2.2.2 0)), (1, .int x1), (2, .int x2), (3, .int x3), (4, .int x4)] [] (m_X5_live_B30  n30 x1 x2 x3 x4 M) := by
  intro x1 x2 x3 x4 M
  unfold m_X5_live_B30
  refine v_iload 4 32 hF dX5_live_30 rfl rfl ?_
  refine v_bipush (8) 34 hF dX5_live_32 rfl (by decide) ?_
  refine v_icmp_ge 37 64 hF dX5_live_34 rfl (by decide) (fun _ => ?_) (fun _ => ?_)
  · refine v_iconst (0) 65 hF dX5_live_64 rfl (by decide) ?_
    refine v_istore (lo' := fun y26 => [(4, .int y26), (0, .ref (G.2.2.2.2 0)), (1, .int x1), (2, .int x2), (3, .int x3)]) 67 hF dX5_live_65 rfl (by decide) (fun _ => rfl) (fun y26 => ?_)
    refine VR.pick [1, 2, 3, 0] rfl ?_
    exact v_X5_live_L67 hF hs FU x1 x2 y26 M
  · refine v_aload_n 0 38 hF dX5_live_37 rfl rfl rfl ?_
    refine v_iload 4 40 hF dX5_live_38 rfl rfl ?_
    refine v_callI ([.int x4]) ([]) 43 hF dX5_live_40 rfl cw_X5_120 rfl (hs.1) (c_X5_whoIn (G := G) hs M x4) ⟨rfl, rfl, Nat.le_of_ble_eq_true rfl, Nat.le_of_ble_eq_true rfl⟩ rfl rfl (Nat.le_of_ble_eq_true rfl) (fun r28 M27 => ?_)
    refine v_iconst (-1) 44 hF dX5_live_43 rfl (by decide) ?_
    refine v_icmp_eq 47 58 hF dX5_live_44 rfl (by decide) (fun _ => ?_) (fun _ => ?_)
    · refine VR.pick [0, 1, 2, 3, 4] rfl ?_
      exact v_X5_live_J58 hF hs _ h30 x1 x2 x3 x4 M27
    · refine v_aload_n 0 48 hF dX5_live_47 rfl rfl rfl ?_
      refine v_getR (b := 7) 51 hF dX5_live_48 rfl fl_X5_35 hs.1 rfl ?_
      refine v_iload_n 3 52 hF dX5_live_51 rfl rfl rfl ?_
      refine v_iload 4 54 hF dX5_live_52 rfl rfl ?_
      refine v_iast 55 hF dX5_live_54 rfl (hs.2.2.2.2.2.2.2.1) (fun M29 => ?_)
      refine v_iinc (v := (x3 + 1)) (lo' := fun y30 => [(3, .int y30), (0, .ref (G.2.2.2.2 0)), (1, .int x1), (2, .int x2), (4, .int x4)]) 3 58 hF dX5_live_55 rfl rfl rfl (by decide) (fun _ => rfl) (fun y30 => ?_)
      refine VR.pick [1, 2, 3, 0, 4] rfl ?_
      exact v_X5_live_J58 hF hs _ h30 x1 x2 y30 x4 M29
theorem v_X5_live_L30 {X : Cx} {G : Gx} {sh : List Sh} (hF : FX X G sh 10 cX5_live (yX5_live).cls (some .int) rmX5_live) (hs : ModAt sh) : ∀ (n : Nat), ∀ (x1 : Int32) (x2 : Int32) (x3 : Int32) (x4 : Int32) (M : Mm), VR X G sh 10 rvI M 30 [(0, .ref (G.2.2.2.2 0)), (1, .int x1), (2, .int x2), (3, .int x3), (4, .int x4)] [] (m_X5_live_L30  n x1 x2 x3 x4 M) := by
  intro n
  induction n with
  | zero => intro x1 x2 x3 x4 M; exact VR.none
  | succ n ih => exact v_X5_live_B30 hF hs _ ih
set_option maxRecDepth 100000 in
set_option maxHeartbeats 4000000 in
theorem c_X5_live {G : Gx} {sh : List Sh} (hs : ModAt sh) (M : Mm) (x1 : Int32) (x2 : Int32) : CT yX5_live cX5_live 10 (some .int) rmX5_live G sh [.ref (G.2.2.2.2 0), .int x1, .int x2] rvI M (m_X5_live  x1 x2 M) := by
  refine CT.of (by decide +kernel) (Nat.le_of_ble_eq_true rfl) (fun X hF => ?_)
  show VR X G sh 10 rvI M 0 [(0, .ref (G.2.2.2.2 0)), (1, .int x1), (2, .int x2)] [] _
  unfold m_X5_live
  refine v_iload_n 1 1 hF dX5_live_0 rfl rfl rfl ?_
  refine v_i2l 2 hF dX5_live_1 rfl ?_
  refine v_lconst 0 3 hF dX5_live_2 rfl (by decide) ?_
  refine v_ldc2 (20) 6 hF dX5_live_3 rfl cc_X5_299 ?_
  refine v_staI ([.long (((x1).toInt64)), .long ((0 : Int64)), .long ((20 : Int64))]) ([]) 9 hF dX5_live_6 rfl cw_X5_76 (c_X5_in (G := G) (sh := sh) M (((x1).toInt64)) ((0 : Int64)) ((20 : Int64))) ⟨rfl, rfl, Nat.le_of_ble_eq_true rfl, Nat.le_of_ble_eq_true rfl⟩ rfl rfl (Nat.le_of_ble_eq_true rfl) (fun r32 M31 => ?_)
  refine v_if_eq 12 22 hF dX5_live_9 rfl (by decide) (fun _ => ?_) (fun _ => ?_)
  · refine v_bipush (-2) 24 hF dX5_live_22 rfl (by decide) ?_
    exact v_iret hF dX5_live_24
  · refine v_iload_n 2 13 hF dX5_live_12 rfl rfl rfl ?_
    refine v_i2l 14 hF dX5_live_13 rfl ?_
    refine v_lconst 0 15 hF dX5_live_14 rfl (by decide) ?_
    refine v_lconst 1 16 hF dX5_live_15 rfl (by decide) ?_
    refine v_staI ([.long (((x2).toInt64)), .long ((0 : Int64)), .long ((1 : Int64))]) ([]) 19 hF dX5_live_16 rfl cw_X5_76 (c_X5_in (G := G) (sh := sh) M31 (((x2).toInt64)) ((0 : Int64)) ((1 : Int64))) ⟨rfl, rfl, Nat.le_of_ble_eq_true rfl, Nat.le_of_ble_eq_true rfl⟩ rfl rfl (Nat.le_of_ble_eq_true rfl) (fun r34 M33 => ?_)
    refine v_if_ne 22 25 hF dX5_live_19 rfl (by decide) (fun _ => ?_) (fun _ => ?_)
    · refine v_iconst (0) 26 hF dX5_live_25 rfl (by decide) ?_
      refine v_istore_n (lo' := fun y35 => [(3, .int y35), (0, .ref (G.2.2.2.2 0)), (1, .int x1), (2, .int x2)]) 27 hF dX5_live_26 rfl rfl (by decide) (fun _ => rfl) (fun y35 => ?_)
      refine v_iconst (0) 28 hF dX5_live_27 rfl (by decide) ?_
      refine v_istore (lo' := fun y36 => [(4, .int y36), (3, .int y35), (0, .ref (G.2.2.2.2 0)), (1, .int x1), (2, .int x2)]) 30 hF dX5_live_28 rfl (by decide) (fun _ => rfl) (fun y36 => ?_)
      refine VR.pick [2, 3, 4, 1, 0] rfl ?_
      exact v_X5_live_L30 hF hs FU x1 x2 y35 y36 M33
    · refine v_bipush (-2) 24 hF dX5_live_22 rfl (by decide) ?_
      exact v_iret hF dX5_live_24
abbrev rmX5_hide : Room := { frames := 72, cells := 0, slots := 0, locals := 3161 }
def m_X5_hide_J129 (x5 : Int32) (M : Mm) : Option (Int32 × Mm) := some (x5, M)
def m_X5_hide_J107 (n48 : Int32 → Int32 → Int32 → Int32 → Int32 → Int32 → Mm → Option (Int32 × Mm)) (x1 : Int32) (x2 : Int32) (x3 : Int32) (x4 : Int32) (x5 : Int32) (x6 : Int32) (M : Mm) : Option (Int32 × Mm) := lt1 (x6 + 1) fun y1 => n48 x1 x2 x3 x4 x5 y1 M
def m_X5_hide_J105 (n48 : Int32 → Int32 → Int32 → Int32 → Int32 → Int32 → Mm → Option (Int32 × Mm)) (x1 : Int32) (x2 : Int32) (x3 : Int32) (x4 : Int32) (x6 : Int32) (s0 : Int32) (M : Mm) : Option (Int32 × Mm) := lt1 s0 fun y2 => m_X5_hide_J107 n48 x1 x2 x3 x4 y2 x6 M
def m_X5_hide_J78 (n48 : Int32 → Int32 → Int32 → Int32 → Int32 → Int32 → Mm → Option (Int32 × Mm)) (x1 : Int32) (x2 : Int32) (x3 : Int32) (x4 : Int32) (x5 : Int32) (x6 : Int32) (M : Mm) : Option (Int32 × Mm) := lt1 (up M 0 13 x6) fun M3 => bd (m_X5_run x1 x3 ((2 : Int32)) M3) fun r5 M4 => if ((shr r5 x2) &&& (1 : Int32)) = 0 then (m_X5_hide_J105 n48 x1 x2 x3 x4 x6 x6 M4) else (m_X5_hide_J105 n48 x1 x2 x3 x4 x6 x5 M4)
def m_X5_hide_B48 (n48 : Int32 → Int32 → Int32 → Int32 → Int32 → Int32 → Mm → Option (Int32 × Mm)) (x1 : Int32) (x2 : Int32) (x3 : Int32) (x4 : Int32) (x5 : Int32) (x6 : Int32) (M : Mm) : Option (Int32 × Mm) := if (shl ((1 : Int32)) ((M 0 10))) ≤ x6 then (lt1 (up M 0 13 ((0 : Int32))) fun M6 => if x4 = 0 then (m_X5_hide_J129 x5 M6) else (if x5 = (-1 : Int32) then (m_X5_hide_J129 x5 M6) else (bd (m_X5_bitsOf x5 M6) fun r8 M7 => some (r8, M7)))) else (if x5 = (-1 : Int32) then (m_X5_hide_J78 n48 x1 x2 x3 x4 x5 x6 M) else (bd (m_X5_bitsOf x6 M) fun r10 M9 => bd (m_X5_bitsOf x5 M9) fun r12 M11 => if r12 ≤ r10 then (m_X5_hide_J107 n48 x1 x2 x3 x4 x5 x6 M11) else (m_X5_hide_J78 n48 x1 x2 x3 x4 x5 x6 M11)))
def m_X5_hide_L48 : Nat → Int32 → Int32 → Int32 → Int32 → Int32 → Int32 → Mm → Option (Int32 × Mm)
  | 0 => fun _ _ _ _ _ _ _ => none
  | n + 1 => m_X5_hide_B48  (m_X5_hide_L48  n)
def m_X5_hide (x1 : Int32) (x2 : Int32) (x3 : Int32) (x4 : Int32) (M : Mm) : Option (Int32 × Mm) := bd (m_X5_isLetter x1 M) fun r14 M13 => if r14 = 0 then (some ((-2 : Int32), M13)) else (bd (m_X5_isOne x2 M13) fun r16 M15 => if r16 = 0 then (some ((-2 : Int32), M15)) else (bd (m_X5_in (((x3).toInt64)) ((0 : Int64)) ((40 : Int64)) M15) fun r18 M17 => if r18 = 0 then (some ((-2 : Int32), M17)) else (bd (m_X5_in (((x4).toInt64)) ((0 : Int64)) ((1 : Int64)) M17) fun r20 M19 => if r20 = 0 then (some ((-2 : Int32), M19)) else (lt1 ((-1 : Int32)) fun y21 => lt1 ((0 : Int32)) fun y22 => m_X5_hide_L48 FU x1 x2 x3 x4 y21 y22 M19))))
set_option maxRecDepth 100000 in
set_option maxHeartbeats 4000000 in
theorem v_X5_hide_J129 {X : Cx} {G : Gx} {sh : List Sh} (hF : FX X G sh 7 cX5_hide (yX5_hide).cls (some .int) rmX5_hide) (hs : ModAt sh) : ∀ (x5 : Int32) (M : Mm), VR X G sh 7 rvI M 129 [(0, .ref (G.2.2.2.2 0)), (5, .int x5)] [] (m_X5_hide_J129  x5 M) := by
  intro x5 M
  unfold m_X5_hide_J129
  refine v_iload 1 131 hF dX5_hide_129 rfl rfl ?_
  refine v_goto 139 hF dX5_hide_131 (by decide) ?_
  exact v_iret hF dX5_hide_139
set_option maxRecDepth 100000 in
set_option maxHeartbeats 4000000 in
theorem v_X5_hide_J107 {X : Cx} {G : Gx} {sh : List Sh} (hF : FX X G sh 7 cX5_hide (yX5_hide).cls (some .int) rmX5_hide) (hs : ModAt sh) (n48 : Int32 → Int32 → Int32 → Int32 → Int32 → Int32 → Mm → Option (Int32 × Mm)) (h48 : ∀ (x1 : Int32) (x2 : Int32) (x3 : Int32) (x4 : Int32) (x5 : Int32) (x6 : Int32) (M : Mm), VR X G sh 7 rvI M 48 [(0, .ref (G.2.2.2.2 0)), (1, .int x1), (2, .int x2), (3, .int x3), (4, .int x4), (5, .int x5), (6, .int x6)] [] (n48 x1 x2 x3 x4 x5 x6 M)) : ∀ (x1 : Int32) (x2 : Int32) (x3 : Int32) (x4 : Int32) (x5 : Int32) (x6 : Int32) (M : Mm), VR X G sh 7 rvI M 107 [(0, .ref (G.2.2.2.2 0)), (1, .int x1), (2, .int x2), (3, .int x3), (4, .int x4), (5, .int x5), (6, .int x6)] [] (m_X5_hide_J107  n48 x1 x2 x3 x4 x5 x6 M) := by
  intro x1 x2 x3 x4 x5 x6 M
  unfold m_X5_hide_J107
  refine v_iinc (v := (x6 + 1)) (lo' := fun y1 => [(6, .int y1), (0, .ref (G.2.2.2.2 0)), (1, .int x1), (2, .int x2), (3, .int x3), (4, .int x4), (5, .int x5)]) 6 110 hF dX5_hide_107 rfl rfl rfl (by decide) (fun _ => rfl) (fun y1 => ?_)
  refine v_goto 48 hF dX5_hide_110 (by decide) ?_
  refine VR.pick [1, 2, 3, 4, 5, 6, 0] rfl ?_
  exact h48 x1 x2 x3 x4 x5 y1 M
set_option maxRecDepth 100000 in
set_option maxHeartbeats 4000000 in
theorem v_X5_hide_J105 {X : Cx} {G : Gx} {sh : List Sh} (hF : FX X G sh 7 cX5_hide (yX5_hide).cls (some .int) rmX5_hide) (hs : ModAt sh) (n48 : Int32 → Int32 → Int32 → Int32 → Int32 → Int32 → Mm → Option (Int32 × Mm)) (h48 : ∀ (x1 : Int32) (x2 : Int32) (x3 : Int32) (x4 : Int32) (x5 : Int32) (x6 : Int32) (M : Mm), VR X G sh 7 rvI M 48 [(0, .ref (G.2.2.2.2 0)), (1, .int x1), (2, .int x2), (3, .int x3), (4, .int x4), (5, .int x5), (6, .int x6)] [] (n48 x1 x2 x3 x4 x5 x6 M)) : ∀ (x1 : Int32) (x2 : Int32) (x3 : Int32) (x4 : Int32) (x6 : Int32) (s0 : Int32) (M : Mm), VR X G sh 7 rvI M 105 [(0, .ref (G.2.2.2.2 0)), (1, .int x1), (2, .int x2), (3, .int x3), (4, .int x4), (6, .int x6)] [.int s0] (m_X5_hide_J105  n48 x1 x2 x3 x4 x6 s0 M) := by
  intro x1 x2 x3 x4 x6 s0 M
  unfold m_X5_hide_J105
  refine v_istore (lo' := fun y2 => [(5, .int y2), (0, .ref (G.2.2.2.2 0)), (1, .int x1), (2, .int x2), (3, .int x3), (4, .int x4), (6, .int x6)]) 107 hF dX5_hide_105 rfl (by decide) (fun _ => rfl) (fun y2 => ?_)
  refine VR.pick [1, 2, 3, 4, 5, 0, 6] rfl ?_
  exact v_X5_hide_J107 hF hs _ h48 x1 x2 x3 x4 y2 x6 M
set_option maxRecDepth 100000 in
set_option maxHeartbeats 4000000 in
theorem v_X5_hide_J78 {X : Cx} {G : Gx} {sh : List Sh} (hF : FX X G sh 7 cX5_hide (yX5_hide).cls (some .int) rmX5_hide) (hs : ModAt sh) (n48 : Int32 → Int32 → Int32 → Int32 → Int32 → Int32 → Mm → Option (Int32 × Mm)) (h48 : ∀ (x1 : Int32) (x2 : Int32) (x3 : Int32) (x4 : Int32) (x5 : Int32) (x6 : Int32) (M : Mm), VR X G sh 7 rvI M 48 [(0, .ref (G.2.2.2.2 0)), (1, .int x1), (2, .int x2), (3, .int x3), (4, .int x4), (5, .int x5), (6, .int x6)] [] (n48 x1 x2 x3 x4 x5 x6 M)) : ∀ (x1 : Int32) (x2 : Int32) (x3 : Int32) (x4 : Int32) (x5 : Int32) (x6 : Int32) (M : Mm), VR X G sh 7 rvI M 78 [(0, .ref (G.2.2.2.2 0)), (1, .int x1), (2, .int x2), (3, .int x3), (4, .int x4), (5, .int x5), (6, .int x6)] [] (m_X5_hide_J78  n48 x1 x2 x3 x4 x5 x6 M) := by
  intro x1 x2 x3 x4 x5 x6 M
  unfold m_X5_hide_J78
  refine v_aload_n 0 79 hF dX5_hide_78 rfl rfl rfl ?_
  refine v_iload 6 81 hF dX5_hide_79 rfl rfl ?_
  refine v_putI 84 hF dX5_hide_81 rfl fl_X5_253 fp_X5_13 hs.1 rfl (fun M3 => ?_)
  refine v_aload_n 0 85 hF dX5_hide_84 rfl rfl rfl ?_
  refine v_iload_n 1 86 hF dX5_hide_85 rfl rfl rfl ?_
  refine v_iload_n 3 87 hF dX5_hide_86 rfl rfl rfl ?_
  refine v_iconst (2) 88 hF dX5_hide_87 rfl (by decide) ?_
  refine v_callI ([.int x1, .int x3, .int ((2 : Int32))]) ([]) 91 hF dX5_hide_88 rfl cw_X5_307 rfl (hs.1) (c_X5_run (G := G) hs M3 x1 x3 ((2 : Int32))) ⟨rfl, rfl, Nat.le_of_ble_eq_true rfl, Nat.le_of_ble_eq_true rfl⟩ rfl rfl (Nat.le_of_ble_eq_true rfl) (fun r5 M4 => ?_)
  refine v_iload_n 2 92 hF dX5_hide_91 rfl rfl rfl ?_
  refine v_ishr 93 hF dX5_hide_92 rfl ?_
  refine v_iconst (1) 94 hF dX5_hide_93 rfl (by decide) ?_
  refine v_iand 95 hF dX5_hide_94 rfl ?_
  refine v_if_ne 98 103 hF dX5_hide_95 rfl (by decide) (fun _ => ?_) (fun _ => ?_)
  · refine v_iload 5 105 hF dX5_hide_103 rfl rfl ?_
    refine VR.pick [0, 1, 2, 3, 4, 6] rfl ?_
    exact v_X5_hide_J105 hF hs _ h48 x1 x2 x3 x4 x6 x5 M4
  · refine v_iload 6 100 hF dX5_hide_98 rfl rfl ?_
    refine v_goto 105 hF dX5_hide_100 (by decide) ?_
    refine VR.pick [0, 1, 2, 3, 4, 6] rfl ?_
    exact v_X5_hide_J105 hF hs _ h48 x1 x2 x3 x4 x6 x6 M4
set_option maxRecDepth 100000 in
set_option maxHeartbeats 4000000 in
theorem v_X5_hide_B48 {X : Cx} {G : Gx} {sh : List Sh} (hF : FX X G sh 7 cX5_hide (yX5_hide).cls (some .int) rmX5_hide) (hs : ModAt sh) (n48 : Int32 → Int32 → Int32 → Int32 → Int32 → Int32 → Mm → Option (Int32 × Mm)) (h48 : ∀ (x1 : Int32) (x2 : Int32) (x3 : Int32) (x4 : Int32) (x5 : Int32) (x6 : Int32) (M : Mm), VR X G sh 7 rvI M 48 [(0, .ref (G.2.2.2.2 0)), (1, .int x1), (2, .int x2), (3, .int x3), (4, .int x4), (5, .int x5), (6, .int x6)] [] (n48 x1 x2 x3 x4 x5 x6 M)) : ∀ (x1 : Int32) (x2 : Int32) (x3 : Int32) (x4 : Int32) (x5 : Int32) (x6 : Int32) (M : Mm), VR X G sh 7 rvI M 48 [(0, .ref (G.2.2.2.2 0)), (1, .int x1), (2, .int x2), (3, .int x3), (4, .int x4), (5, .int x5), (6, .int x6)] [] (m_X5_hide_B48  n48 x1 x2 x3 x4 x5 x6 M) := by
  intro x1 x2 x3 x4 x5 x6 M
  unfold m_X5_hide_B48
  refine v_iload 6 50 hF dX5_hide_48 rfl rfl ?_
  refine v_iconst (1) 51 hF dX5_hide_50 rfl (by decide) ?_
  refine v_aload_n 0 52 hF dX5_hide_51 rfl rfl rfl ?_
  refine v_getI 55 hF dX5_hide_52 rfl fl_X5_73 hs.1 rfl ?_
  refine v_ishl 56 hF dX5_hide_55 rfl ?_
  refine v_icmp_ge 59 113 hF dX5_hide_56 rfl (by decide) (fun _ => ?_) (fun _ => ?_)
  · refine v_aload_n 0 114 hF dX5_hide_113 rfl rfl rfl ?_
    refine v_iconst (0) 115 hF dX5_hide_114 rfl (by decide) ?_
    refine v_putI 118 hF dX5_hide_115 rfl fl_X5_253 fp_X5_13 hs.1 rfl (fun M6 => ?_)
    refine v_iload 4 120 hF dX5_hide_118 rfl rfl ?_
    refine v_if_eq 123 129 hF dX5_hide_120 rfl (by decide) (fun _ => ?_) (fun _ => ?_)
    · refine VR.pick [0, 5] rfl ?_
      exact v_X5_hide_J129 hF hs x5 M6
    · refine v_iload 5 125 hF dX5_hide_123 rfl rfl ?_
      refine v_iconst (-1) 126 hF dX5_hide_125 rfl (by decide) ?_
      refine v_icmp_ne 129 134 hF dX5_hide_126 rfl (by decide) (fun _ => ?_) (fun _ => ?_)
      · refine v_iload 5 136 hF dX5_hide_134 rfl rfl ?_
        refine v_staI ([.int x5]) ([]) 139 hF dX5_hide_136 rfl cw_X5_246 (c_X5_bitsOf (G := G) (sh := sh) M6 x5) ⟨rfl, rfl, Nat.le_of_ble_eq_true rfl, Nat.le_of_ble_eq_true rfl⟩ rfl rfl (Nat.le_of_ble_eq_true rfl) (fun r8 M7 => ?_)
        exact v_iret hF dX5_hide_139
      · refine VR.pick [0, 5] rfl ?_
        exact v_X5_hide_J129 hF hs x5 M6
  · refine v_iload 5 61 hF dX5_hide_59 rfl rfl ?_
    refine v_iconst (-1) 62 hF dX5_hide_61 rfl (by decide) ?_
    refine v_icmp_eq 65 78 hF dX5_hide_62 rfl (by decide) (fun _ => ?_) (fun _ => ?_)
    · refine VR.pick [0, 1, 2, 3, 4, 5, 6] rfl ?_
      exact v_X5_hide_J78 hF hs _ h48 x1 x2 x3 x4 x5 x6 M
    · refine v_iload 6 67 hF dX5_hide_65 rfl rfl ?_
      refine v_staI ([.int x6]) ([]) 70 hF dX5_hide_67 rfl cw_X5_246 (c_X5_bitsOf (G := G) (sh := sh) M x6) ⟨rfl, rfl, Nat.le_of_ble_eq_true rfl, Nat.le_of_ble_eq_true rfl⟩ rfl rfl (Nat.le_of_ble_eq_true rfl) (fun r10 M9 => ?_)
      refine v_iload 5 72 hF dX5_hide_70 rfl rfl ?_
      refine v_staI ([.int x5]) ([.int r10]) 75 hF dX5_hide_72 rfl cw_X5_246 (c_X5_bitsOf (G := G) (sh := sh) M9 x5) ⟨rfl, rfl, Nat.le_of_ble_eq_true rfl, Nat.le_of_ble_eq_true rfl⟩ rfl rfl (Nat.le_of_ble_eq_true rfl) (fun r12 M11 => ?_)
      refine v_icmp_ge 78 107 hF dX5_hide_75 rfl (by decide) (fun _ => ?_) (fun _ => ?_)
      · refine VR.pick [0, 1, 2, 3, 4, 5, 6] rfl ?_
        exact v_X5_hide_J107 hF hs _ h48 x1 x2 x3 x4 x5 x6 M11
      · refine VR.pick [0, 1, 2, 3, 4, 5, 6] rfl ?_
        exact v_X5_hide_J78 hF hs _ h48 x1 x2 x3 x4 x5 x6 M11
theorem v_X5_hide_L48 {X : Cx} {G : Gx} {sh : List Sh} (hF : FX X G sh 7 cX5_hide (yX5_hide).cls (some .int) rmX5_hide) (hs : ModAt sh) : ∀ (n : Nat), ∀ (x1 : Int32) (x2 : Int32) (x3 : Int32) (x4 : Int32) (x5 : Int32) (x6 : Int32) (M : Mm), VR X G sh 7 rvI M 48 [(0, .ref (G.2.2.2.2 0)), (1, .int x1), (2, .int x2), (3, .int x3), (4, .int x4), (5, .int x5), (6, .int x6)] [] (m_X5_hide_L48  n x1 x2 x3 x4 x5 x6 M) := by
  intro n
  induction n with
  | zero => intro x1 x2 x3 x4 x5 x6 M; exact VR.none
  | succ n ih => exact v_X5_hide_B48 hF hs _ ih
set_option maxRecDepth 100000 in
set_option maxHeartbeats 4000000 in
theorem c_X5_hide {G : Gx} {sh : List Sh} (hs : ModAt sh) (M : Mm) (x1 : Int32) (x2 : Int32) (x3 : Int32) (x4 : Int32) : CT yX5_hide cX5_hide 7 (some .int) rmX5_hide G sh [.ref (G.2.2.2.2 0), .int x1, .int x2, .int x3, .int x4] rvI M (m_X5_hide  x1 x2 x3 x4 M) := by
  refine CT.of (by decide +kernel) (Nat.le_of_ble_eq_true rfl) (fun X hF => ?_)
  show VR X G sh 7 rvI M 0 [(0, .ref (G.2.2.2.2 0)), (1, .int x1), (2, .int x2), (3, .int x3), (4, .int x4)] [] _
  unfold m_X5_hide
  refine v_aload_n 0 1 hF dX5_hide_0 rfl rfl rfl ?_
  refine v_iload_n 1 2 hF dX5_hide_1 rfl rfl rfl ?_
  refine v_callI ([.int x1]) ([]) 5 hF dX5_hide_2 rfl cw_X5_87 rfl (hs.1) (c_X5_isLetter (G := G) hs M x1) ⟨rfl, rfl, Nat.le_of_ble_eq_true rfl, Nat.le_of_ble_eq_true rfl⟩ rfl rfl (Nat.le_of_ble_eq_true rfl) (fun r14 M13 => ?_)
  refine v_if_eq 8 39 hF dX5_hide_5 rfl (by decide) (fun _ => ?_) (fun _ => ?_)
  · refine v_bipush (-2) 41 hF dX5_hide_39 rfl (by decide) ?_
    exact v_iret hF dX5_hide_41
  · refine v_aload_n 0 9 hF dX5_hide_8 rfl rfl rfl ?_
    refine v_iload_n 2 10 hF dX5_hide_9 rfl rfl rfl ?_
    refine v_callI ([.int x2]) ([]) 13 hF dX5_hide_10 rfl cw_X5_83 rfl (hs.1) (c_X5_isOne (G := G) hs M13 x2) ⟨rfl, rfl, Nat.le_of_ble_eq_true rfl, Nat.le_of_ble_eq_true rfl⟩ rfl rfl (Nat.le_of_ble_eq_true rfl) (fun r16 M15 => ?_)
    refine v_if_eq 16 39 hF dX5_hide_13 rfl (by decide) (fun _ => ?_) (fun _ => ?_)
    · refine v_bipush (-2) 41 hF dX5_hide_39 rfl (by decide) ?_
      exact v_iret hF dX5_hide_41
    · refine v_iload_n 3 17 hF dX5_hide_16 rfl rfl rfl ?_
      refine v_i2l 18 hF dX5_hide_17 rfl ?_
      refine v_lconst 0 19 hF dX5_hide_18 rfl (by decide) ?_
      refine v_ldc2 (40) 22 hF dX5_hide_19 rfl cc_X5_294 ?_
      refine v_staI ([.long (((x3).toInt64)), .long ((0 : Int64)), .long ((40 : Int64))]) ([]) 25 hF dX5_hide_22 rfl cw_X5_76 (c_X5_in (G := G) (sh := sh) M15 (((x3).toInt64)) ((0 : Int64)) ((40 : Int64))) ⟨rfl, rfl, Nat.le_of_ble_eq_true rfl, Nat.le_of_ble_eq_true rfl⟩ rfl rfl (Nat.le_of_ble_eq_true rfl) (fun r18 M17 => ?_)
      refine v_if_eq 28 39 hF dX5_hide_25 rfl (by decide) (fun _ => ?_) (fun _ => ?_)
      · refine v_bipush (-2) 41 hF dX5_hide_39 rfl (by decide) ?_
        exact v_iret hF dX5_hide_41
      · refine v_iload 4 30 hF dX5_hide_28 rfl rfl ?_
        refine v_i2l 31 hF dX5_hide_30 rfl ?_
        refine v_lconst 0 32 hF dX5_hide_31 rfl (by decide) ?_
        refine v_lconst 1 33 hF dX5_hide_32 rfl (by decide) ?_
        refine v_staI ([.long (((x4).toInt64)), .long ((0 : Int64)), .long ((1 : Int64))]) ([]) 36 hF dX5_hide_33 rfl cw_X5_76 (c_X5_in (G := G) (sh := sh) M17 (((x4).toInt64)) ((0 : Int64)) ((1 : Int64))) ⟨rfl, rfl, Nat.le_of_ble_eq_true rfl, Nat.le_of_ble_eq_true rfl⟩ rfl rfl (Nat.le_of_ble_eq_true rfl) (fun r20 M19 => ?_)
        refine v_if_ne 39 42 hF dX5_hide_36 rfl (by decide) (fun _ => ?_) (fun _ => ?_)
        · refine v_iconst (-1) 43 hF dX5_hide_42 rfl (by decide) ?_
          refine v_istore (lo' := fun y21 => [(5, .int y21), (0, .ref (G.2.2.2.2 0)), (1, .int x1), (2, .int x2), (3, .int x3), (4, .int x4)]) 45 hF dX5_hide_43 rfl (by decide) (fun _ => rfl) (fun y21 => ?_)
          refine v_iconst (0) 46 hF dX5_hide_45 rfl (by decide) ?_
          refine v_istore (lo' := fun y22 => [(6, .int y22), (5, .int y21), (0, .ref (G.2.2.2.2 0)), (1, .int x1), (2, .int x2), (3, .int x3), (4, .int x4)]) 48 hF dX5_hide_46 rfl (by decide) (fun _ => rfl) (fun y22 => ?_)
          refine VR.pick [2, 3, 4, 5, 6, 1, 0] rfl ?_
          exact v_X5_hide_L48 hF hs FU x1 x2 x3 x4 y21 y22 M19
        · refine v_bipush (-2) 41 hF dX5_hide_39 rfl (by decide) ?_
          exact v_iret hF dX5_hide_41
abbrev rmX5_tell : Room := { frames := 72, cells := 0, slots := 0, locals := 3161 }
def m_X5_tell_J117 (n64 : Int32 → Int32 → Int32 → Int32 → Int32 → Mm → Option (Int32 × Mm)) (x1 : Int32) (x2 : Int32) (x3 : Int32) (x4 : Int32) (x5 : Int32) (M : Mm) : Option (Int32 × Mm) := lt1 (x5 + (-1)) fun y1 => n64 x1 x2 x3 x4 y1 M
def m_X5_tell_J105 (n64 : Int32 → Int32 → Int32 → Int32 → Int32 → Mm → Option (Int32 × Mm)) (x1 : Int32) (x2 : Int32) (x3 : Int32) (x5 : Int32) (s0 : Int32) (M : Mm) : Option (Int32 × Mm) := lt1 s0 fun y2 => lt1 (up M 0 12 (((M 0 12) - (1 : Int32)))) fun M3 => m_X5_tell_J117 n64 x1 x2 x3 y2 x5 M3
def m_X5_tell_B64 (n64 : Int32 → Int32 → Int32 → Int32 → Int32 → Mm → Option (Int32 × Mm)) (x1 : Int32) (x2 : Int32) (x3 : Int32) (x4 : Int32) (x5 : Int32) (M : Mm) : Option (Int32 × Mm) := if x5 < 0 then (some (x4, M)) else (if x5 = x1 then (m_X5_tell_J117 n64 x1 x2 x3 x4 x5 M) else (bd (m_X5_sends x1 x5 M) fun _ M4 => bd (m_X5_run (((M4 0 12) - (1 : Int32))) x3 ((2 : Int32)) M4) fun r6 M5 => if r6 = x2 then (m_X5_tell_J105 n64 x1 x2 x3 x5 x5 M5) else (m_X5_tell_J105 n64 x1 x2 x3 x5 x4 M5)))
def m_X5_tell_L64 : Nat → Int32 → Int32 → Int32 → Int32 → Int32 → Mm → Option (Int32 × Mm)
  | 0 => fun _ _ _ _ _ _ => none
  | n + 1 => m_X5_tell_B64  (m_X5_tell_L64  n)
def m_X5_tell (x1 : Int32) (x2 : Int32) (x3 : Int32) (M : Mm) : Option (Int32 × Mm) := bd (m_X5_isOne x1 M) fun r8 M7 => if r8 = 0 then (some ((-2 : Int32), M7)) else (bd (m_X5_in (((x2).toInt64)) ((0 : Int64)) (((((shl ((1 : Int32)) ((M7 0 10))) - (1 : Int32))).toInt64)) M7) fun r10 M9 => if r10 = 0 then (some ((-2 : Int32), M9)) else (bd (m_X5_in (((x3).toInt64)) ((0 : Int64)) ((20 : Int64)) M9) fun r12 M11 => if r12 = 0 then (some ((-2 : Int32), M11)) else (if (M11 0 12) = (8 : Int32) then (some ((-4 : Int32), M11)) else (lt1 ((-1 : Int32)) fun y13 => lt1 (((M11 0 10) - (1 : Int32))) fun y14 => m_X5_tell_L64 FU x1 x2 x3 y13 y14 M11))))
set_option maxRecDepth 100000 in
set_option maxHeartbeats 4000000 in
theorem v_X5_tell_J117 {X : Cx} {G : Gx} {sh : List Sh} (hF : FX X G sh 6 cX5_tell (yX5_tell).cls (some .int) rmX5_tell) (hs : ModAt sh) (n64 : Int32 → Int32 → Int32 → Int32 → Int32 → Mm → Option (Int32 × Mm)) (h64 : ∀ (x1 : Int32) (x2 : Int32) (x3 : Int32) (x4 : Int32) (x5 : Int32) (M : Mm), VR X G sh 6 rvI M 64 [(0, .ref (G.2.2.2.2 0)), (1, .int x1), (2, .int x2), (3, .int x3), (4, .int x4), (5, .int x5)] [] (n64 x1 x2 x3 x4 x5 M)) : ∀ (x1 : Int32) (x2 : Int32) (x3 : Int32) (x4 : Int32) (x5 : Int32) (M : Mm), VR X G sh 6 rvI M 117 [(0, .ref (G.2.2.2.2 0)), (1, .int x1), (2, .int x2), (3, .int x3), (4, .int x4), (5, .int x5)] [] (m_X5_tell_J117  n64 x1 x2 x3 x4 x5 M) := by
  intro x1 x2 x3 x4 x5 M
  unfold m_X5_tell_J117
  refine v_iinc (v := (x5 + (-1))) (lo' := fun y1 => [(5, .int y1), (0, .ref (G.2.2.2.2 0)), (1, .int x1), (2, .int x2), (3, .int x3), (4, .int x4)]) 5 120 hF dX5_tell_117 rfl rfl rfl (by decide) (fun _ => rfl) (fun y1 => ?_)
  refine v_goto 64 hF dX5_tell_120 (by decide) ?_
  refine VR.pick [1, 2, 3, 4, 5, 0] rfl ?_
  exact h64 x1 x2 x3 x4 y1 M
set_option maxRecDepth 100000 in
set_option maxHeartbeats 4000000 in
theorem v_X5_tell_J105 {X : Cx} {G : Gx} {sh : List Sh} (hF : FX X G sh 6 cX5_tell (yX5_tell).cls (some .int) rmX5_tell) (hs : ModAt sh) (n64 : Int32 → Int32 → Int32 → Int32 → Int32 → Mm → Option (Int32 × Mm)) (h64 : ∀ (x1 : Int32) (x2 : Int32) (x3 : Int32) (x4 : Int32) (x5 : Int32) (M : Mm), VR X G sh 6 rvI M 64 [(0, .ref (G.2.2.2.2 0)), (1, .int x1), (2, .int x2), (3, .int x3), (4, .int x4), (5, .int x5)] [] (n64 x1 x2 x3 x4 x5 M)) : ∀ (x1 : Int32) (x2 : Int32) (x3 : Int32) (x5 : Int32) (s0 : Int32) (M : Mm), VR X G sh 6 rvI M 105 [(0, .ref (G.2.2.2.2 0)), (1, .int x1), (2, .int x2), (3, .int x3), (5, .int x5)] [.int s0] (m_X5_tell_J105  n64 x1 x2 x3 x5 s0 M) := by
  intro x1 x2 x3 x5 s0 M
  unfold m_X5_tell_J105
  refine v_istore (lo' := fun y2 => [(4, .int y2), (0, .ref (G.2.2.2.2 0)), (1, .int x1), (2, .int x2), (3, .int x3), (5, .int x5)]) 107 hF dX5_tell_105 rfl (by decide) (fun _ => rfl) (fun y2 => ?_)
  refine v_aload_n 1 108 hF dX5_tell_107 rfl rfl rfl ?_
  refine v_dupR 109 hF dX5_tell_108 rfl ?_
  refine v_getI 112 hF dX5_tell_109 rfl fl_X5_80 hs.1 rfl ?_
  refine v_iconst (1) 113 hF dX5_tell_112 rfl (by decide) ?_
  refine v_isub 114 hF dX5_tell_113 rfl ?_
  refine v_putI 117 hF dX5_tell_114 rfl fl_X5_80 fp_X5_12 hs.1 rfl (fun M3 => ?_)
  refine VR.pick [1, 2, 3, 4, 0, 5] rfl ?_
  exact v_X5_tell_J117 hF hs _ h64 x1 x2 x3 y2 x5 M3
set_option maxRecDepth 100000 in
set_option maxHeartbeats 4000000 in
theorem v_X5_tell_B64 {X : Cx} {G : Gx} {sh : List Sh} (hF : FX X G sh 6 cX5_tell (yX5_tell).cls (some .int) rmX5_tell) (hs : ModAt sh) (n64 : Int32 → Int32 → Int32 → Int32 → Int32 → Mm → Option (Int32 × Mm)) (h64 : ∀ (x1 : Int32) (x2 : Int32) (x3 : Int32) (x4 : Int32) (x5 : Int32) (M : Mm), VR X G sh 6 rvI M 64 [(0, .ref (G.2.2.2.2 0)), (1, .int x1), (2, .int x2), (3, .int x3), (4, .int x4), (5, .int x5)] [] (n64 x1 x2 x3 x4 x5 M)) : ∀ (x1 : Int32) (x2 : Int32) (x3 : Int32) (x4 : Int32) (x5 : Int32) (M : Mm), VR X G sh 6 rvI M 64 [(0, .ref (G.2.2.2.2 0)), (1, .int x1), (2, .int x2), (3, .int x3), (4, .int x4), (5, .int x5)] [] (m_X5_tell_B64  n64 x1 x2 x3 x4 x5 M) := by
  intro x1 x2 x3 x4 x5 M
  unfold m_X5_tell_B64
  refine v_iload 5 66 hF dX5_tell_64 rfl rfl ?_
  refine v_if_lt 69 123 hF dX5_tell_66 rfl (by decide) (fun _ => ?_) (fun _ => ?_)
  · refine v_iload 4 125 hF dX5_tell_123 rfl rfl ?_
    exact v_iret hF dX5_tell_125
  · refine v_iload 5 71 hF dX5_tell_69 rfl rfl ?_
    refine v_iload_n 1 72 hF dX5_tell_71 rfl rfl rfl ?_
    refine v_icmp_eq 75 117 hF dX5_tell_72 rfl (by decide) (fun _ => ?_) (fun _ => ?_)
    · refine VR.pick [0, 1, 2, 3, 4, 5] rfl ?_
      exact v_X5_tell_J117 hF hs _ h64 x1 x2 x3 x4 x5 M
    · refine v_aload_n 0 76 hF dX5_tell_75 rfl rfl rfl ?_
      refine v_iload_n 1 77 hF dX5_tell_76 rfl rfl rfl ?_
      refine v_iload 5 79 hF dX5_tell_77 rfl rfl ?_
      refine v_callV ([.int x1, .int x5]) ([]) 82 hF dX5_tell_79 rfl cw_X5_268 rfl (hs.1) (c_X5_sends (G := G) hs M x1 x5) ⟨rfl, rfl, Nat.le_of_ble_eq_true rfl, Nat.le_of_ble_eq_true rfl⟩ rfl rfl (Nat.le_of_ble_eq_true rfl) (fun _ M4 => ?_)
      refine v_aload_n 0 83 hF dX5_tell_82 rfl rfl rfl ?_
      refine v_aload_n 0 84 hF dX5_tell_83 rfl rfl rfl ?_
      refine v_getI 87 hF dX5_tell_84 rfl fl_X5_80 hs.1 rfl ?_
      refine v_iconst (1) 88 hF dX5_tell_87 rfl (by decide) ?_
      refine v_isub 89 hF dX5_tell_88 rfl ?_
      refine v_iload_n 3 90 hF dX5_tell_89 rfl rfl rfl ?_
      refine v_iconst (2) 91 hF dX5_tell_90 rfl (by decide) ?_
      refine v_callI ([.int (((M4 0 12) - (1 : Int32))), .int x3, .int ((2 : Int32))]) ([]) 94 hF dX5_tell_91 rfl cw_X5_307 rfl (hs.1) (c_X5_run (G := G) hs M4 (((M4 0 12) - (1 : Int32))) x3 ((2 : Int32))) ⟨rfl, rfl, Nat.le_of_ble_eq_true rfl, Nat.le_of_ble_eq_true rfl⟩ rfl rfl (Nat.le_of_ble_eq_true rfl) (fun r6 M5 => ?_)
      refine v_iload_n 2 95 hF dX5_tell_94 rfl rfl rfl ?_
      refine v_icmp_ne 98 103 hF dX5_tell_95 rfl (by decide) (fun _ => ?_) (fun _ => ?_)
      · refine v_iload 4 105 hF dX5_tell_103 rfl rfl ?_
        refine VR.pick [0, 1, 2, 3, 5] rfl ?_
        exact v_X5_tell_J105 hF hs _ h64 x1 x2 x3 x5 x4 M5
      · refine v_iload 5 100 hF dX5_tell_98 rfl rfl ?_
        refine v_goto 105 hF dX5_tell_100 (by decide) ?_
        refine VR.pick [0, 1, 2, 3, 5] rfl ?_
        exact v_X5_tell_J105 hF hs _ h64 x1 x2 x3 x5 x5 M5
theorem v_X5_tell_L64 {X : Cx} {G : Gx} {sh : List Sh} (hF : FX X G sh 6 cX5_tell (yX5_tell).cls (some .int) rmX5_tell) (hs : ModAt sh) : ∀ (n : Nat), ∀ (x1 : Int32) (x2 : Int32) (x3 : Int32) (x4 : Int32) (x5 : Int32) (M : Mm), VR X G sh 6 rvI M 64 [(0, .ref (G.2.2.2.2 0)), (1, .int x1), (2, .int x2), (3, .int x3), (4, .int x4), (5, .int x5)] [] (m_X5_tell_L64  n x1 x2 x3 x4 x5 M) := by
  intro n
  induction n with
  | zero => intro x1 x2 x3 x4 x5 M; exact VR.none
  | succ n ih => exact v_X5_tell_B64 hF hs _ ih
set_option maxRecDepth 100000 in
set_option maxHeartbeats 4000000 in
theorem c_X5_tell {G : Gx} {sh : List Sh} (hs : ModAt sh) (M : Mm) (x1 : Int32) (x2 : Int32) (x3 : Int32) : CT yX5_tell cX5_tell 6 (some .int) rmX5_tell G sh [.ref (G.2.2.2.2 0), .int x1, .int x2, .int x3] rvI M (m_X5_tell  x1 x2 x3 M) := by
  refine CT.of (by decide +kernel) (Nat.le_of_ble_eq_true rfl) (fun X hF => ?_)
  show VR X G sh 6 rvI M 0 [(0, .ref (G.2.2.2.2 0)), (1, .int x1), (2, .int x2), (3, .int x3)] [] _
  unfold m_X5_tell
  refine v_aload_n 0 1 hF dX5_tell_0 rfl rfl rfl ?_
  refine v_iload_n 1 2 hF dX5_tell_1 rfl rfl rfl ?_
  refine v_callI ([.int x1]) ([]) 5 hF dX5_tell_2 rfl cw_X5_83 rfl (hs.1) (c_X5_isOne (G := G) hs M x1) ⟨rfl, rfl, Nat.le_of_ble_eq_true rfl, Nat.le_of_ble_eq_true rfl⟩ rfl rfl (Nat.le_of_ble_eq_true rfl) (fun r8 M7 => ?_)
  refine v_if_eq 8 38 hF dX5_tell_5 rfl (by decide) (fun _ => ?_) (fun _ => ?_)
  · refine v_bipush (-2) 40 hF dX5_tell_38 rfl (by decide) ?_
    exact v_iret hF dX5_tell_40
  · refine v_iload_n 2 9 hF dX5_tell_8 rfl rfl rfl ?_
    refine v_i2l 10 hF dX5_tell_9 rfl ?_
    refine v_lconst 0 11 hF dX5_tell_10 rfl (by decide) ?_
    refine v_iconst (1) 12 hF dX5_tell_11 rfl (by decide) ?_
    refine v_aload_n 0 13 hF dX5_tell_12 rfl rfl rfl ?_
    refine v_getI 16 hF dX5_tell_13 rfl fl_X5_73 hs.1 rfl ?_
    refine v_ishl 17 hF dX5_tell_16 rfl ?_
    refine v_iconst (1) 18 hF dX5_tell_17 rfl (by decide) ?_
    refine v_isub 19 hF dX5_tell_18 rfl ?_
    refine v_i2l 20 hF dX5_tell_19 rfl ?_
    refine v_staI ([.long (((x2).toInt64)), .long ((0 : Int64)), .long (((((shl ((1 : Int32)) ((M7 0 10))) - (1 : Int32))).toInt64))]) ([]) 23 hF dX5_tell_20 rfl cw_X5_76 (c_X5_in (G := G) (sh := sh) M7 (((x2).toInt64)) ((0 : Int64)) (((((shl ((1 : Int32)) ((M7 0 10))) - (1 : Int32))).toInt64))) ⟨rfl, rfl, Nat.le_of_ble_eq_true rfl, Nat.le_of_ble_eq_true rfl⟩ rfl rfl (Nat.le_of_ble_eq_true rfl) (fun r10 M9 => ?_)
    refine v_if_eq 26 38 hF dX5_tell_23 rfl (by decide) (fun _ => ?_) (fun _ => ?_)
    · refine v_bipush (-2) 40 hF dX5_tell_38 rfl (by decide) ?_
      exact v_iret hF dX5_tell_40
    · refine v_iload_n 3 27 hF dX5_tell_26 rfl rfl rfl ?_
      refine v_i2l 28 hF dX5_tell_27 rfl ?_
      refine v_lconst 0 29 hF dX5_tell_28 rfl (by decide) ?_
      refine v_ldc2 (20) 32 hF dX5_tell_29 rfl cc_X5_299 ?_
      refine v_staI ([.long (((x3).toInt64)), .long ((0 : Int64)), .long ((20 : Int64))]) ([]) 35 hF dX5_tell_32 rfl cw_X5_76 (c_X5_in (G := G) (sh := sh) M9 (((x3).toInt64)) ((0 : Int64)) ((20 : Int64))) ⟨rfl, rfl, Nat.le_of_ble_eq_true rfl, Nat.le_of_ble_eq_true rfl⟩ rfl rfl (Nat.le_of_ble_eq_true rfl) (fun r12 M11 => ?_)
      refine v_if_ne 38 41 hF dX5_tell_35 rfl (by decide) (fun _ => ?_) (fun _ => ?_)
      · refine v_aload_n 0 42 hF dX5_tell_41 rfl rfl rfl ?_
        refine v_getI 45 hF dX5_tell_42 rfl fl_X5_80 hs.1 rfl ?_
        refine v_bipush (8) 47 hF dX5_tell_45 rfl (by decide) ?_
        refine v_icmp_ne 50 53 hF dX5_tell_47 rfl (by decide) (fun _ => ?_) (fun _ => ?_)
        · refine v_iconst (-1) 54 hF dX5_tell_53 rfl (by decide) ?_
          refine v_istore (lo' := fun y13 => [(4, .int y13), (0, .ref (G.2.2.2.2 0)), (1, .int x1), (2, .int x2), (3, .int x3)]) 56 hF dX5_tell_54 rfl (by decide) (fun _ => rfl) (fun y13 => ?_)
          refine v_aload_n 1 57 hF dX5_tell_56 rfl rfl rfl ?_
          refine v_getI 60 hF dX5_tell_57 rfl fl_X5_73 hs.1 rfl ?_
          refine v_iconst (1) 61 hF dX5_tell_60 rfl (by decide) ?_
          refine v_isub 62 hF dX5_tell_61 rfl ?_
          refine v_istore (lo' := fun y14 => [(5, .int y14), (4, .int y13), (0, .ref (G.2.2.2.2 0)), (1, .int x1), (2, .int x2), (3, .int x3)]) 64 hF dX5_tell_62 rfl (by decide) (fun _ => rfl) (fun y14 => ?_)
          refine VR.pick [2, 3, 4, 5, 1, 0] rfl ?_
          exact v_X5_tell_L64 hF hs FU x1 x2 x3 y13 y14 M11
        · refine v_bipush (-4) 52 hF dX5_tell_50 rfl (by decide) ?_
          exact v_iret hF dX5_tell_52
      · refine v_bipush (-2) 40 hF dX5_tell_38 rfl (by decide) ?_
        exact v_iret hF dX5_tell_40
abbrev rmX5_lowest : Room := { frames := 0, cells := 0, slots := 0, locals := 0 }
def m_X5_lowest_B6 (n6 : Int64 → Int64 → Int32 → Int64 → Int64 → Mm → Option (Int64 × Mm)) (x0 : Int64) (x2 : Int64) (x4 : Int32) (x5 : Int64) (x7 : Int64) (M : Mm) : Option (Int64 × Mm) := if (lg_cmp x7 ((0 : Int64))) = 0 then (if x4 = 0 then (gd (!(decide (x5 = 0))) (some ((x0 / x5), M))) else (gd (!(decide (x5 = 0))) (some ((x2 / x5), M)))) else (gd (!(decide (x7 = 0))) (lt1 ((lrm x5 x7)) fun y1 => lt1 x7 fun y2 => lt1 y1 fun y3 => n6 x0 x2 x4 y2 y3 M))
def m_X5_lowest_L6 : Nat → Int64 → Int64 → Int32 → Int64 → Int64 → Mm → Option (Int64 × Mm)
  | 0 => fun _ _ _ _ _ _ => none
  | n + 1 => m_X5_lowest_B6  (m_X5_lowest_L6  n)
def m_X5_lowest (x0 : Int64) (x2 : Int64) (x4 : Int32) (M : Mm) : Option (Int64 × Mm) := lt1 x0 fun y4 => lt1 x2 fun y5 => m_X5_lowest_L6 FU x0 x2 x4 y4 y5 M
set_option maxRecDepth 100000 in
set_option maxHeartbeats 4000000 in
theorem v_X5_lowest_B6 {X : Cx} {G : Gx} {sh : List Sh} (hF : FX X G sh 11 cX5_lowest (yX5_lowest).cls (some .long) rmX5_lowest) (n6 : Int64 → Int64 → Int32 → Int64 → Int64 → Mm → Option (Int64 × Mm)) (h6 : ∀ (x0 : Int64) (x2 : Int64) (x4 : Int32) (x5 : Int64) (x7 : Int64) (M : Mm), VR X G sh 11 rvJ M 6 [(0, .long x0), (2, .long x2), (4, .int x4), (5, .long x5), (7, .long x7)] [] (n6 x0 x2 x4 x5 x7 M)) : ∀ (x0 : Int64) (x2 : Int64) (x4 : Int32) (x5 : Int64) (x7 : Int64) (M : Mm), VR X G sh 11 rvJ M 6 [(0, .long x0), (2, .long x2), (4, .int x4), (5, .long x5), (7, .long x7)] [] (m_X5_lowest_B6  n6 x0 x2 x4 x5 x7 M) := by
  intro x0 x2 x4 x5 x7 M
  unfold m_X5_lowest_B6
  refine v_lload 4 8 hF dX5_lowest_6 rfl rfl ?_
  refine v_lconst 0 9 hF dX5_lowest_8 rfl (by decide) ?_
  refine v_lcmp 10 hF dX5_lowest_9 rfl ?_
  refine v_if_eq 13 31 hF dX5_lowest_10 rfl (by decide) (fun _ => ?_) (fun _ => ?_)
  · refine v_iload 2 33 hF dX5_lowest_31 rfl rfl ?_
    refine v_if_ne 36 43 hF dX5_lowest_33 rfl (by decide) (fun _ => ?_) (fun _ => ?_)
    · refine v_lload_n 1 44 hF dX5_lowest_43 rfl rfl rfl ?_
      refine v_lload 3 46 hF dX5_lowest_44 rfl rfl ?_
      refine v_ldiv 47 hF dX5_lowest_46 rfl ?_
      exact v_lret hF dX5_lowest_47
    · refine v_lload_n 0 37 hF dX5_lowest_36 rfl rfl rfl ?_
      refine v_lload 3 39 hF dX5_lowest_37 rfl rfl ?_
      refine v_ldiv 40 hF dX5_lowest_39 rfl ?_
      refine v_goto 47 hF dX5_lowest_40 (by decide) ?_
      exact v_lret hF dX5_lowest_47
  · refine v_lload 3 15 hF dX5_lowest_13 rfl rfl ?_
    refine v_lload 4 17 hF dX5_lowest_15 rfl rfl ?_
    refine v_lrem 18 hF dX5_lowest_17 rfl ?_
    refine v_lstore (lo' := fun y1 => [(9, .long y1), (0, .long x0), (2, .long x2), (4, .int x4), (5, .long x5), (7, .long x7)]) 20 hF dX5_lowest_18 rfl (by decide) (fun _ => rfl) (fun y1 => ?_)
    refine v_lload 5 22 hF dX5_lowest_20 rfl rfl ?_
    refine v_lstore (lo' := fun y2 => [(5, .long y2), (9, .long y1), (0, .long x0), (2, .long x2), (4, .int x4), (7, .long x7)]) 24 hF dX5_lowest_22 rfl (by decide) (fun _ => rfl) (fun y2 => ?_)
    refine v_lload 1 26 hF dX5_lowest_24 rfl rfl ?_
    refine v_lstore (lo' := fun y3 => [(7, .long y3), (5, .long y2), (9, .long y1), (0, .long x0), (2, .long x2), (4, .int x4)]) 28 hF dX5_lowest_26 rfl (by decide) (fun _ => rfl) (fun y3 => ?_)
    refine v_goto 6 hF dX5_lowest_28 (by decide) ?_
    refine VR.pick [3, 4, 5, 1, 0] rfl ?_
    exact h6 x0 x2 x4 y2 y3 M
theorem v_X5_lowest_L6 {X : Cx} {G : Gx} {sh : List Sh} (hF : FX X G sh 11 cX5_lowest (yX5_lowest).cls (some .long) rmX5_lowest) : ∀ (n : Nat), ∀ (x0 : Int64) (x2 : Int64) (x4 : Int32) (x5 : Int64) (x7 : Int64) (M : Mm), VR X G sh 11 rvJ M 6 [(0, .long x0), (2, .long x2), (4, .int x4), (5, .long x5), (7, .long x7)] [] (m_X5_lowest_L6  n x0 x2 x4 x5 x7 M) := by
  intro n
  induction n with
  | zero => intro x0 x2 x4 x5 x7 M; exact VR.none
  | succ n ih => exact v_X5_lowest_B6 hF  _ ih
set_option maxRecDepth 100000 in
set_option maxHeartbeats 4000000 in
theorem c_X5_lowest {G : Gx} {sh : List Sh} (M : Mm) (x0 : Int64) (x2 : Int64) (x4 : Int32) : CT yX5_lowest cX5_lowest 11 (some .long) rmX5_lowest G sh [.long x0, .long x2, .int x4] rvJ M (m_X5_lowest  x0 x2 x4 M) := by
  refine CT.of (by decide +kernel) (Nat.le_of_ble_eq_true rfl) (fun X hF => ?_)
  show VR X G sh 11 rvJ M 0 [(0, .long x0), (2, .long x2), (4, .int x4)] [] _
  unfold m_X5_lowest
  refine v_lload_n 0 1 hF dX5_lowest_0 rfl rfl rfl ?_
  refine v_lstore (lo' := fun y4 => [(5, .long y4), (0, .long x0), (2, .long x2), (4, .int x4)]) 3 hF dX5_lowest_1 rfl (by decide) (fun _ => rfl) (fun y4 => ?_)
  refine v_lload_n 2 4 hF dX5_lowest_3 rfl rfl rfl ?_
  refine v_lstore (lo' := fun y5 => [(7, .long y5), (5, .long y4), (0, .long x0), (2, .long x2), (4, .int x4)]) 6 hF dX5_lowest_4 rfl (by decide) (fun _ => rfl) (fun y5 => ?_)
  refine VR.pick [2, 3, 4, 1, 0] rfl ?_
  exact v_X5_lowest_L6 hF FU x0 x2 x4 y4 y5 M
abbrev rmX5_mean : Room := { frames := 1, cells := 0, slots := 0, locals := 30 }
def m_X5_mean_B25 (n25 : Int32 → Int32 → Int32 → Mm → Option (Int64 × Mm)) (x1 : Int32) (x2 : Int32) (x3 : Int32) (M : Mm) : Option (Int64 × Mm) := if (M 0 12) ≤ x3 then (bd (m_X5_lowest (((x2).toInt64)) ((((M 0 12)).toInt64)) x1 M) fun r2 M1 => some (r2, M1)) else (gd (inr (((5 : Int32) * x3)) 40) (lt1 ((x2 + (M 5 (((5 : Int32) * x3)).toNatClampNeg))) fun y3 => lt1 (x3 + 1) fun y4 => n25 x1 y3 y4 M))
def m_X5_mean_L25 : Nat → Int32 → Int32 → Int32 → Mm → Option (Int64 × Mm)
  | 0 => fun _ _ _ _ => none
  | n + 1 => m_X5_mean_B25  (m_X5_mean_L25  n)
def m_X5_mean (x1 : Int32) (M : Mm) : Option (Int64 × Mm) := bd (m_X5_in (((x1).toInt64)) ((0 : Int64)) ((1 : Int64)) M) fun r6 M5 => if r6 = 0 then (some ((-4611686018427387904 : Int64), M5)) else (if (M5 0 12) = 0 then (some ((-4611686018427387904 : Int64), M5)) else (lt1 ((0 : Int32)) fun y7 => lt1 ((0 : Int32)) fun y8 => m_X5_mean_L25 FU x1 y7 y8 M5))
set_option maxRecDepth 100000 in
set_option maxHeartbeats 4000000 in
theorem v_X5_mean_B25 {X : Cx} {G : Gx} {sh : List Sh} (hF : FX X G sh 4 cX5_mean (yX5_mean).cls (some .long) rmX5_mean) (hs : ModAt sh) (n25 : Int32 → Int32 → Int32 → Mm → Option (Int64 × Mm)) (h25 : ∀ (x1 : Int32) (x2 : Int32) (x3 : Int32) (M : Mm), VR X G sh 4 rvJ M 25 [(0, .ref (G.2.2.2.2 0)), (1, .int x1), (2, .int x2), (3, .int x3)] [] (n25 x1 x2 x3 M)) : ∀ (x1 : Int32) (x2 : Int32) (x3 : Int32) (M : Mm), VR X G sh 4 rvJ M 25 [(0, .ref (G.2.2.2.2 0)), (1, .int x1), (2, .int x2), (3, .int x3)] [] (m_X5_mean_B25  n25 x1 x2 x3 M) := by
  intro x1 x2 x3 M
  unfold m_X5_mean_B25
  refine v_iload_n 3 26 hF dX5_mean_25 rfl rfl rfl ?_
  refine v_aload_n 0 27 hF dX5_mean_26 rfl rfl rfl ?_
  refine v_getI 30 hF dX5_mean_27 rfl fl_X5_80 hs.1 rfl ?_
  refine v_icmp_ge 33 50 hF dX5_mean_30 rfl (by decide) (fun _ => ?_) (fun _ => ?_)
  · refine v_iload_n 2 51 hF dX5_mean_50 rfl rfl rfl ?_
    refine v_i2l 52 hF dX5_mean_51 rfl ?_
    refine v_aload_n 0 53 hF dX5_mean_52 rfl rfl rfl ?_
    refine v_getI 56 hF dX5_mean_53 rfl fl_X5_80 hs.1 rfl ?_
    refine v_i2l 57 hF dX5_mean_56 rfl ?_
    refine v_iload_n 1 58 hF dX5_mean_57 rfl rfl rfl ?_
    refine v_staJ ([.long (((x2).toInt64)), .long ((((M 0 12)).toInt64)), .int x1]) ([]) 61 hF dX5_mean_58 rfl cw_X5_312 (c_X5_lowest (G := G) (sh := sh) M (((x2).toInt64)) ((((M 0 12)).toInt64)) x1) ⟨rfl, rfl, Nat.le_of_ble_eq_true rfl, Nat.le_of_ble_eq_true rfl⟩ rfl rfl (Nat.le_of_ble_eq_true rfl) (fun r2 M1 => ?_)
    exact v_lret hF dX5_mean_61
  · refine v_iload_n 2 34 hF dX5_mean_33 rfl rfl rfl ?_
    refine v_aload_n 0 35 hF dX5_mean_34 rfl rfl rfl ?_
    refine v_getR (b := 5) 38 hF dX5_mean_35 rfl fl_X5_29 hs.1 rfl ?_
    refine v_iconst (5) 39 hF dX5_mean_38 rfl (by decide) ?_
    refine v_iload_n 3 40 hF dX5_mean_39 rfl rfl rfl ?_
    refine v_imul 41 hF dX5_mean_40 rfl ?_
    refine v_iald 42 hF dX5_mean_41 rfl (hs.2.2.2.2.2.1) ?_
    refine v_iadd 43 hF dX5_mean_42 rfl ?_
    refine v_istore_n (lo' := fun y3 => [(2, .int y3), (0, .ref (G.2.2.2.2 0)), (1, .int x1), (3, .int x3)]) 44 hF dX5_mean_43 rfl rfl (by decide) (fun _ => rfl) (fun y3 => ?_)
    refine v_iinc (v := (x3 + 1)) (lo' := fun y4 => [(3, .int y4), (2, .int y3), (0, .ref (G.2.2.2.2 0)), (1, .int x1)]) 3 47 hF dX5_mean_44 rfl rfl rfl (by decide) (fun _ => rfl) (fun y4 => ?_)
    refine v_goto 25 hF dX5_mean_47 (by decide) ?_
    refine VR.pick [2, 3, 1, 0] rfl ?_
    exact h25 x1 y3 y4 M
theorem v_X5_mean_L25 {X : Cx} {G : Gx} {sh : List Sh} (hF : FX X G sh 4 cX5_mean (yX5_mean).cls (some .long) rmX5_mean) (hs : ModAt sh) : ∀ (n : Nat), ∀ (x1 : Int32) (x2 : Int32) (x3 : Int32) (M : Mm), VR X G sh 4 rvJ M 25 [(0, .ref (G.2.2.2.2 0)), (1, .int x1), (2, .int x2), (3, .int x3)] [] (m_X5_mean_L25  n x1 x2 x3 M) := by
  intro n
  induction n with
  | zero => intro x1 x2 x3 M; exact VR.none
  | succ n ih => exact v_X5_mean_B25 hF hs _ ih
set_option maxRecDepth 100000 in
set_option maxHeartbeats 4000000 in
theorem c_X5_mean {G : Gx} {sh : List Sh} (hs : ModAt sh) (M : Mm) (x1 : Int32) : CT yX5_mean cX5_mean 4 (some .long) rmX5_mean G sh [.ref (G.2.2.2.2 0), .int x1] rvJ M (m_X5_mean  x1 M) := by
  refine CT.of (by decide +kernel) (Nat.le_of_ble_eq_true rfl) (fun X hF => ?_)
  show VR X G sh 4 rvJ M 0 [(0, .ref (G.2.2.2.2 0)), (1, .int x1)] [] _
  unfold m_X5_mean
  refine v_iload_n 1 1 hF dX5_mean_0 rfl rfl rfl ?_
  refine v_i2l 2 hF dX5_mean_1 rfl ?_
  refine v_lconst 0 3 hF dX5_mean_2 rfl (by decide) ?_
  refine v_lconst 1 4 hF dX5_mean_3 rfl (by decide) ?_
  refine v_staI ([.long (((x1).toInt64)), .long ((0 : Int64)), .long ((1 : Int64))]) ([]) 7 hF dX5_mean_4 rfl cw_X5_76 (c_X5_in (G := G) (sh := sh) M (((x1).toInt64)) ((0 : Int64)) ((1 : Int64))) ⟨rfl, rfl, Nat.le_of_ble_eq_true rfl, Nat.le_of_ble_eq_true rfl⟩ rfl rfl (Nat.le_of_ble_eq_true rfl) (fun r6 M5 => ?_)
  refine v_if_eq 10 17 hF dX5_mean_7 rfl (by decide) (fun _ => ?_) (fun _ => ?_)
  · refine v_ldc2 (-4611686018427387904) 20 hF dX5_mean_17 rfl cc_X5_310 ?_
    exact v_lret hF dX5_mean_20
  · refine v_aload_n 0 11 hF dX5_mean_10 rfl rfl rfl ?_
    refine v_getI 14 hF dX5_mean_11 rfl fl_X5_80 hs.1 rfl ?_
    refine v_if_ne 17 21 hF dX5_mean_14 rfl (by decide) (fun _ => ?_) (fun _ => ?_)
    · refine v_iconst (0) 22 hF dX5_mean_21 rfl (by decide) ?_
      refine v_istore_n (lo' := fun y7 => [(2, .int y7), (0, .ref (G.2.2.2.2 0)), (1, .int x1)]) 23 hF dX5_mean_22 rfl rfl (by decide) (fun _ => rfl) (fun y7 => ?_)
      refine v_iconst (0) 24 hF dX5_mean_23 rfl (by decide) ?_
      refine v_istore_n (lo' := fun y8 => [(3, .int y8), (2, .int y7), (0, .ref (G.2.2.2.2 0)), (1, .int x1)]) 25 hF dX5_mean_24 rfl rfl (by decide) (fun _ => rfl) (fun y8 => ?_)
      refine VR.pick [2, 3, 1, 0] rfl ?_
      exact v_X5_mean_L25 hF hs FU x1 y7 y8 M5
    · refine v_ldc2 (-4611686018427387904) 20 hF dX5_mean_17 rfl cc_X5_310 ?_
      exact v_lret hF dX5_mean_20
