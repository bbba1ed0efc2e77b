abbrev rmX5_send : Room := { frames := 69, cells := 0, slots := 0, locals := 3090 }
def m_X5_send (x1 : Int32) (x2 : Int32) (M : Mm) : Option (Int32 × Mm) := bd (m_X5_areTwo x1 x2 M) fun r2 M1 => if r2 = 0 then (some ((-2 : Int32), M1)) else (if (M1 0 12) = (8 : Int32) then (some ((-4 : Int32), M1)) else (bd (m_X5_sends x1 x2 M1) fun _ M3 => some (((M3 0 12) - (1 : Int32)), M3)))
set_option maxRecDepth 100000 in
set_option maxHeartbeats 4000000 in
theorem c_X5_send {G : Gx} {sh : List Sh} (hs : ModAt sh) (M : Mm) (x1 : Int32) (x2 : Int32) : CT yX5_send cX5_send 3 (some .int) rmX5_send G sh [.ref (G.2.2.2.2 0), .int x1, .int x2] rvI M (m_X5_send  x1 x2 M) := by
  refine CT.of (by decide +kernel) (Nat.le_of_ble_eq_true rfl) (fun X hF => ?_)
  show VR X G sh 3 rvI M 0 [(0, .ref (G.2.2.2.2 0)), (1, .int x1), (2, .int x2)] [] _
  unfold m_X5_send
  refine v_aload_n 0 1 hF dX5_send_0 rfl rfl rfl ?_
  refine v_iload_n 1 2 hF dX5_send_1 rfl rfl rfl ?_
  refine v_iload_n 2 3 hF dX5_send_2 rfl rfl rfl ?_
  refine v_callI ([.int x1, .int x2]) ([]) 6 hF dX5_send_3 rfl cw_X5_123 rfl (hs.1) (c_X5_areTwo (G := G) hs M x1 x2) ⟨rfl, rfl, Nat.le_of_ble_eq_true rfl, Nat.le_of_ble_eq_true rfl⟩ rfl rfl (Nat.le_of_ble_eq_true rfl) (fun r2 M1 => ?_)
  refine v_if_ne 9 12 hF dX5_send_6 rfl (by decide) (fun _ => ?_) (fun _ => ?_)
  · refine v_aload_n 0 13 hF dX5_send_12 rfl rfl rfl ?_
    refine v_getI 16 hF dX5_send_13 rfl fl_X5_80 hs.1 rfl ?_
    refine v_bipush (8) 18 hF dX5_send_16 rfl (by decide) ?_
    refine v_icmp_ne 21 24 hF dX5_send_18 rfl (by decide) (fun _ => ?_) (fun _ => ?_)
    · refine v_aload_n 0 25 hF dX5_send_24 rfl rfl rfl ?_
      refine v_iload_n 1 26 hF dX5_send_25 rfl rfl rfl ?_
      refine v_iload_n 2 27 hF dX5_send_26 rfl rfl rfl ?_
      refine v_callV ([.int x1, .int x2]) ([]) 30 hF dX5_send_27 rfl cw_X5_268 rfl (hs.1) (c_X5_sends (G := G) hs M1 x1 x2) ⟨rfl, rfl, Nat.le_of_ble_eq_true rfl, Nat.le_of_ble_eq_true rfl⟩ rfl rfl (Nat.le_of_ble_eq_true rfl) (fun _ M3 => ?_)
      refine v_aload_n 0 31 hF dX5_send_30 rfl rfl rfl ?_
      refine v_getI 34 hF dX5_send_31 rfl fl_X5_80 hs.1 rfl ?_
      refine v_iconst (1) 35 hF dX5_send_34 rfl (by decide) ?_
      refine v_isub 36 hF dX5_send_35 rfl ?_
      exact v_iret hF dX5_send_36
    · refine v_bipush (-4) 23 hF dX5_send_21 rfl (by decide) ?_
      exact v_iret hF dX5_send_23
  · refine v_bipush (-2) 11 hF dX5_send_9 rfl (by decide) ?_
    exact v_iret hF dX5_send_11
abbrev rmX5_steps : Room := { frames := 68, cells := 0, slots := 0, locals := 3069 }
def m_X5_steps_J56 (x1 : Int32) (x2 : Int32) (x3 : Int32) (x4 : Int32) (s0 : Int32) (s1 : Int32) (s2 : Int32) (M : Mm) : Option (Unit × Mm) := gd (inr s2 40) (lt1 (up M 5 s2.toNatClampNeg ((s1 ||| s0))) fun M1 => if x3 = (-1 : Int32) then (gd (inr ((x2 + (3 : Int32))) 40) (lt1 (up M1 5 ((x2 + (3 : Int32))).toNatClampNeg x4) fun M11 => some ((), M11))) else (gd (inr ((x2 + (2 : Int32))) 40) (if x3 = (M1 5 ((x2 + (2 : Int32))).toNatClampNeg) then (gd (inr ((x2 + (3 : Int32))) 40) (lt1 (up M1 5 ((x2 + (3 : Int32))).toNatClampNeg ((-1 : Int32))) fun M10 => some ((), M10))) else (bd (m_X5_carries x3 x1 M1) fun r3 M2 => if r3 = 0 then (some ((), M2)) else (gd (inr x2 40) (bd (m_X5_softens x3 x1 M2) fun r5 M4 => bd (m_X5_within (((M2 5 x2.toNatClampNeg) - r5)) ((0 : Int32)) ((99 : Int32)) M4) fun r7 M6 => gd (inr x2 40) (lt1 (up M6 5 x2.toNatClampNeg r7) fun M8 => gd (inr ((x2 + (3 : Int32))) 40) (lt1 (up M8 5 ((x2 + (3 : Int32))).toNatClampNeg x4) fun M9 => some ((), M9)))))))))
def m_X5_steps (x1 : Int32) (M : Mm) : Option (Unit × Mm) := lt1 (((5 : Int32) * x1)) fun y12 => gd (inr ((y12 + (3 : Int32))) 40) (bd (m_X5_whoIn ((M 5 ((y12 + (3 : Int32))).toNatClampNeg)) M) fun r14 M13 => lt1 r14 fun y15 => gd (inr ((y12 + (3 : Int32))) 40) (gd (!(decide ((8 : Int32) = 0))) (lt1 ((irm ((((M13 5 ((y12 + (3 : Int32))).toNatClampNeg) + (8 : Int32)) - (1 : Int32))) ((8 : Int32)))) fun y16 => gd (inr ((y12 + (4 : Int32))) 40) (if y15 = (-1 : Int32) then (m_X5_steps_J56 x1 y12 y15 y16 ((0 : Int32)) ((M13 5 ((y12 + (4 : Int32))).toNatClampNeg)) ((y12 + (4 : Int32))) M13) else (m_X5_steps_J56 x1 y12 y15 y16 ((shl ((1 : Int32)) y15)) ((M13 5 ((y12 + (4 : Int32))).toNatClampNeg)) ((y12 + (4 : Int32))) M13)))))
set_option maxRecDepth 100000 in
set_option maxHeartbeats 4000000 in
theorem v_X5_steps_J56 {X : Cx} {G : Gx} {sh : List Sh} (hF : FX X G sh 5 cX5_steps (yX5_steps).cls none rmX5_steps) (hs : ModAt sh) : ∀ (x1 : Int32) (x2 : Int32) (x3 : Int32) (x4 : Int32) (s0 : Int32) (s1 : Int32) (s2 : Int32) (M : Mm), VR X G sh 5 rvV M 56 [(0, .ref (G.2.2.2.2 0)), (1, .int x1), (2, .int x2), (3, .int x3), (4, .int x4)] [.int s0, .int s1, .int s2, .ref (G.2.2.2.2 5)] (m_X5_steps_J56  x1 x2 x3 x4 s0 s1 s2 M) := by
  intro x1 x2 x3 x4 s0 s1 s2 M
  unfold m_X5_steps_J56
  refine v_ior 57 hF dX5_steps_56 rfl ?_
  refine v_iast 58 hF dX5_steps_57 rfl (hs.2.2.2.2.2.1) (fun M1 => ?_)
  refine v_iload_n 3 59 hF dX5_steps_58 rfl rfl rfl ?_
  refine v_iconst (-1) 60 hF dX5_steps_59 rfl (by decide) ?_
  refine v_icmp_ne 63 76 hF dX5_steps_60 rfl (by decide) (fun _ => ?_) (fun _ => ?_)
  · refine v_iload_n 3 77 hF dX5_steps_76 rfl rfl rfl ?_
    refine v_aload_n 0 78 hF dX5_steps_77 rfl rfl rfl ?_
    refine v_getR (b := 5) 81 hF dX5_steps_78 rfl fl_X5_29 hs.1 rfl ?_
    refine v_iload_n 2 82 hF dX5_steps_81 rfl rfl rfl ?_
    refine v_iconst (2) 83 hF dX5_steps_82 rfl (by decide) ?_
    refine v_iadd 84 hF dX5_steps_83 rfl ?_
    refine v_iald 85 hF dX5_steps_84 rfl (hs.2.2.2.2.2.1) ?_
    refine v_icmp_ne 88 100 hF dX5_steps_85 rfl (by decide) (fun _ => ?_) (fun _ => ?_)
    · refine v_aload_n 0 101 hF dX5_steps_100 rfl rfl rfl ?_
      refine v_iload_n 3 102 hF dX5_steps_101 rfl rfl rfl ?_
      refine v_iload_n 1 103 hF dX5_steps_102 rfl rfl rfl ?_
      refine v_callI ([.int x3, .int x1]) ([]) 106 hF dX5_steps_103 rfl cw_X5_262 rfl (hs.1) (c_X5_carries (G := G) hs M1 x3 x1) ⟨rfl, rfl, Nat.le_of_ble_eq_true rfl, Nat.le_of_ble_eq_true rfl⟩ rfl rfl (Nat.le_of_ble_eq_true rfl) (fun r3 M2 => ?_)
      refine v_if_eq 109 144 hF dX5_steps_106 rfl (by decide) (fun _ => ?_) (fun _ => ?_)
      · exact v_vret hF dX5_steps_144
      · refine v_aload_n 0 110 hF dX5_steps_109 rfl rfl rfl ?_
        refine v_getR (b := 5) 113 hF dX5_steps_110 rfl fl_X5_29 hs.1 rfl ?_
        refine v_iload_n 2 114 hF dX5_steps_113 rfl rfl rfl ?_
        refine v_aload_n 0 115 hF dX5_steps_114 rfl rfl rfl ?_
        refine v_getR (b := 5) 118 hF dX5_steps_115 rfl fl_X5_29 hs.1 rfl ?_
        refine v_iload_n 2 119 hF dX5_steps_118 rfl rfl rfl ?_
        refine v_iald 120 hF dX5_steps_119 rfl (hs.2.2.2.2.2.1) ?_
        refine v_aload_n 0 121 hF dX5_steps_120 rfl rfl rfl ?_
        refine v_iload_n 3 122 hF dX5_steps_121 rfl rfl rfl ?_
        refine v_iload_n 1 123 hF dX5_steps_122 rfl rfl rfl ?_
        refine v_callI ([.int x3, .int x1]) ([.int ((M2 5 x2.toNatClampNeg)), .int x2, .ref (G.2.2.2.2 5)]) 126 hF dX5_steps_123 rfl cw_X5_259 rfl (hs.1) (c_X5_softens (G := G) hs M2 x3 x1) ⟨rfl, rfl, Nat.le_of_ble_eq_true rfl, Nat.le_of_ble_eq_true rfl⟩ rfl rfl (Nat.le_of_ble_eq_true rfl) (fun r5 M4 => ?_)
        refine v_isub 127 hF dX5_steps_126 rfl ?_
        refine v_iconst (0) 128 hF dX5_steps_127 rfl (by decide) ?_
        refine v_bipush (99) 130 hF dX5_steps_128 rfl (by decide) ?_
        refine v_staI ([.int (((M2 5 x2.toNatClampNeg) - r5)), .int ((0 : Int32)), .int ((99 : Int32))]) ([.int x2, .ref (G.2.2.2.2 5)]) 133 hF dX5_steps_130 rfl cw_X5_249 (c_X5_within (G := G) (sh := sh) M4 (((M2 5 x2.toNatClampNeg) - r5)) ((0 : Int32)) ((99 : Int32))) ⟨rfl, rfl, Nat.le_of_ble_eq_true rfl, Nat.le_of_ble_eq_true rfl⟩ rfl rfl (Nat.le_of_ble_eq_true rfl) (fun r7 M6 => ?_)
        refine v_iast 134 hF dX5_steps_133 rfl (hs.2.2.2.2.2.1) (fun M8 => ?_)
        refine v_aload_n 0 135 hF dX5_steps_134 rfl rfl rfl ?_
        refine v_getR (b := 5) 138 hF dX5_steps_135 rfl fl_X5_29 hs.1 rfl ?_
        refine v_iload_n 2 139 hF dX5_steps_138 rfl rfl rfl ?_
        refine v_iconst (3) 140 hF dX5_steps_139 rfl (by decide) ?_
        refine v_iadd 141 hF dX5_steps_140 rfl ?_
        refine v_iload 4 143 hF dX5_steps_141 rfl rfl ?_
        refine v_iast 144 hF dX5_steps_143 rfl (hs.2.2.2.2.2.1) (fun M9 => ?_)
        exact v_vret hF dX5_steps_144
    · refine v_aload_n 0 89 hF dX5_steps_88 rfl rfl rfl ?_
      refine v_getR (b := 5) 92 hF dX5_steps_89 rfl fl_X5_29 hs.1 rfl ?_
      refine v_iload_n 2 93 hF dX5_steps_92 rfl rfl rfl ?_
      refine v_iconst (3) 94 hF dX5_steps_93 rfl (by decide) ?_
      refine v_iadd 95 hF dX5_steps_94 rfl ?_
      refine v_iconst (-1) 96 hF dX5_steps_95 rfl (by decide) ?_
      refine v_iast 97 hF dX5_steps_96 rfl (hs.2.2.2.2.2.1) (fun M10 => ?_)
      refine v_goto 144 hF dX5_steps_97 (by decide) ?_
      exact v_vret hF dX5_steps_144
  · refine v_aload_n 0 64 hF dX5_steps_63 rfl rfl rfl ?_
    refine v_getR (b := 5) 67 hF dX5_steps_64 rfl fl_X5_29 hs.1 rfl ?_
    refine v_iload_n 2 68 hF dX5_steps_67 rfl rfl rfl ?_
    refine v_iconst (3) 69 hF dX5_steps_68 rfl (by decide) ?_
    refine v_iadd 70 hF dX5_steps_69 rfl ?_
    refine v_iload 4 72 hF dX5_steps_70 rfl rfl ?_
    refine v_iast 73 hF dX5_steps_72 rfl (hs.2.2.2.2.2.1) (fun M11 => ?_)
    refine v_goto 144 hF dX5_steps_73 (by decide) ?_
    exact v_vret hF dX5_steps_144
set_option maxRecDepth 100000 in
set_option maxHeartbeats 4000000 in
theorem c_X5_steps {G : Gx} {sh : List Sh} (hs : ModAt sh) (M : Mm) (x1 : Int32) : CT yX5_steps cX5_steps 5 none rmX5_steps G sh [.ref (G.2.2.2.2 0), .int x1] rvV M (m_X5_steps  x1 M) := by
  refine CT.of (by decide +kernel) (Nat.le_of_ble_eq_true rfl) (fun X hF => ?_)
  show VR X G sh 5 rvV M 0 [(0, .ref (G.2.2.2.2 0)), (1, .int x1)] [] _
  unfold m_X5_steps
  refine v_iconst (5) 1 hF dX5_steps_0 rfl (by decide) ?_
  refine v_iload_n 1 2 hF dX5_steps_1 rfl rfl rfl ?_
  refine v_imul 3 hF dX5_steps_2 rfl ?_
  refine v_istore_n (lo' := fun y12 => [(2, .int y12), (0, .ref (G.2.2.2.2 0)), (1, .int x1)]) 4 hF dX5_steps_3 rfl rfl (by decide) (fun _ => rfl) (fun y12 => ?_)
  refine v_aload_n 1 5 hF dX5_steps_4 rfl rfl rfl ?_
  refine v_aload_n 1 6 hF dX5_steps_5 rfl rfl rfl ?_
  refine v_getR (b := 5) 9 hF dX5_steps_6 rfl fl_X5_29 hs.1 rfl ?_
  refine v_iload_n 0 10 hF dX5_steps_9 rfl rfl rfl ?_
  refine v_iconst (3) 11 hF dX5_steps_10 rfl (by decide) ?_
  refine v_iadd 12 hF dX5_steps_11 rfl ?_
  refine v_iald 13 hF dX5_steps_12 rfl (hs.2.2.2.2.2.1) ?_
  refine v_callI ([.int ((M 5 ((y12 + (3 : Int32))).toNatClampNeg))]) ([]) 16 hF dX5_steps_13 rfl cw_X5_120 rfl (hs.1) (c_X5_whoIn (G := G) hs M ((M 5 ((y12 + (3 : Int32))).toNatClampNeg))) ⟨rfl, rfl, Nat.le_of_ble_eq_true rfl, Nat.le_of_ble_eq_true rfl⟩ rfl rfl (Nat.le_of_ble_eq_true rfl) (fun r14 M13 => ?_)
  refine v_istore_n (lo' := fun y15 => [(3, .int y15), (2, .int y12), (0, .ref (G.2.2.2.2 0)), (1, .int x1)]) 17 hF dX5_steps_16 rfl rfl (by decide) (fun _ => rfl) (fun y15 => ?_)
  refine v_aload_n 2 18 hF dX5_steps_17 rfl rfl rfl ?_
  refine v_getR (b := 5) 21 hF dX5_steps_18 rfl fl_X5_29 hs.1 rfl ?_
  refine v_iload_n 1 22 hF dX5_steps_21 rfl rfl rfl ?_
  refine v_iconst (3) 23 hF dX5_steps_22 rfl (by decide) ?_
  refine v_iadd 24 hF dX5_steps_23 rfl ?_
  refine v_iald 25 hF dX5_steps_24 rfl (hs.2.2.2.2.2.1) ?_
  refine v_bipush (8) 27 hF dX5_steps_25 rfl (by decide) ?_
  refine v_iadd 28 hF dX5_steps_27 rfl ?_
  refine v_iconst (1) 29 hF dX5_steps_28 rfl (by decide) ?_
  refine v_isub 30 hF dX5_steps_29 rfl ?_
  refine v_bipush (8) 32 hF dX5_steps_30 rfl (by decide) ?_
  refine v_irem 33 hF dX5_steps_32 rfl ?_
  refine v_istore (lo' := fun y16 => [(4, .int y16), (3, .int y15), (2, .int y12), (0, .ref (G.2.2.2.2 0)), (1, .int x1)]) 35 hF dX5_steps_33 rfl (by decide) (fun _ => rfl) (fun y16 => ?_)
  refine v_aload_n 3 36 hF dX5_steps_35 rfl rfl rfl ?_
  refine v_getR (b := 5) 39 hF dX5_steps_36 rfl fl_X5_29 hs.1 rfl ?_
  refine v_iload_n 2 40 hF dX5_steps_39 rfl rfl rfl ?_
  refine v_iconst (4) 41 hF dX5_steps_40 rfl (by decide) ?_
  refine v_iadd 42 hF dX5_steps_41 rfl ?_
  refine v_dup2 43 hF dX5_steps_42 rfl ?_
  refine v_iald 44 hF dX5_steps_43 rfl (hs.2.2.2.2.2.1) ?_
  refine v_iload_n 1 45 hF dX5_steps_44 rfl rfl rfl ?_
  refine v_iconst (-1) 46 hF dX5_steps_45 rfl (by decide) ?_
  refine v_icmp_ne 49 53 hF dX5_steps_46 rfl (by decide) (fun _ => ?_) (fun _ => ?_)
  · refine v_iconst (1) 54 hF dX5_steps_53 rfl (by decide) ?_
    refine v_iload_n 1 55 hF dX5_steps_54 rfl rfl rfl ?_
    refine v_ishl 56 hF dX5_steps_55 rfl ?_
    refine VR.pick [3, 4, 2, 1, 0] rfl ?_
    exact v_X5_steps_J56 hF hs x1 y12 y15 y16 ((shl ((1 : Int32)) y15)) ((M13 5 ((y12 + (4 : Int32))).toNatClampNeg)) ((y12 + (4 : Int32))) M13
  · refine v_iconst (0) 50 hF dX5_steps_49 rfl (by decide) ?_
    refine v_goto 56 hF dX5_steps_50 (by decide) ?_
    refine VR.pick [3, 4, 2, 1, 0] rfl ?_
    exact v_X5_steps_J56 hF hs x1 y12 y15 y16 ((0 : Int32)) ((M13 5 ((y12 + (4 : Int32))).toNatClampNeg)) ((y12 + (4 : Int32))) M13
abbrev rmX5_homeSet : Room := { frames := 0, cells := 0, slots := 0, locals := 0 }
def m_X5_homeSet_J32 (n4 : Int32 → Int32 → Mm → Option (Int32 × Mm)) (x2 : Int32) (s0 : Int32) (s1 : Int32) (M : Mm) : Option (Int32 × Mm) := lt1 ((s1 ||| (shl s0 x2))) fun y1 => lt1 (x2 + 1) fun y2 => n4 y1 y2 M
def m_X5_homeSet_B4 (n4 : Int32 → Int32 → Mm → Option (Int32 × Mm)) (x1 : Int32) (x2 : Int32) (M : Mm) : Option (Int32 × Mm) := if (M 0 12) ≤ x2 then (some (x1, M)) else (gd (inr ((((5 : Int32) * x2) + (3 : Int32))) 40) (if (M 5 ((((5 : Int32) * x2) + (3 : Int32))).toNatClampNeg) = (-1 : Int32) then (m_X5_homeSet_J32 n4 x2 ((1 : Int32)) x1 M) else (m_X5_homeSet_J32 n4 x2 ((0 : Int32)) x1 M)))
def m_X5_homeSet_L4 : Nat → Int32 → Int32 → Mm → Option (Int32 × Mm)
  | 0 => fun _ _ _ => none
  | n + 1 => m_X5_homeSet_B4  (m_X5_homeSet_L4  n)
def m_X5_homeSet  (M : Mm) : Option (Int32 × Mm) := lt1 ((0 : Int32)) fun y3 => lt1 ((0 : Int32)) fun y4 => m_X5_homeSet_L4 FU y3 y4 M
set_option maxRecDepth 100000 in
set_option maxHeartbeats 4000000 in
theorem v_X5_homeSet_J32 {X : Cx} {G : Gx} {sh : List Sh} (hF : FX X G sh 3 cX5_homeSet (yX5_homeSet).cls (some .int) rmX5_homeSet) (hs : ModAt sh) (n4 : Int32 → Int32 → Mm → Option (Int32 × Mm)) (h4 : ∀ (x1 : Int32) (x2 : Int32) (M : Mm), VR X G sh 3 rvI M 4 [(0, .ref (G.2.2.2.2 0)), (1, .int x1), (2, .int x2)] [] (n4 x1 x2 M)) : ∀ (x2 : Int32) (s0 : Int32) (s1 : Int32) (M : Mm), VR X G sh 3 rvI M 32 [(0, .ref (G.2.2.2.2 0)), (2, .int x2)] [.int s0, .int s1] (m_X5_homeSet_J32  n4 x2 s0 s1 M) := by
  intro x2 s0 s1 M
  unfold m_X5_homeSet_J32
  refine v_iload_n 1 33 hF dX5_homeSet_32 rfl rfl rfl ?_
  refine v_ishl 34 hF dX5_homeSet_33 rfl ?_
  refine v_ior 35 hF dX5_homeSet_34 rfl ?_
  refine v_istore_n (lo' := fun y1 => [(1, .int y1), (0, .ref (G.2.2.2.2 0)), (2, .int x2)]) 36 hF dX5_homeSet_35 rfl rfl (by decide) (fun _ => rfl) (fun y1 => ?_)
  refine v_iinc (v := (x2 + 1)) (lo' := fun y2 => [(2, .int y2), (1, .int y1), (0, .ref (G.2.2.2.2 0))]) 2 39 hF dX5_homeSet_36 rfl rfl rfl (by decide) (fun _ => rfl) (fun y2 => ?_)
  refine v_goto 4 hF dX5_homeSet_39 (by decide) ?_
  refine VR.pick [2, 1, 0] rfl ?_
  exact h4 y1 y2 M
set_option maxRecDepth 100000 in
set_option maxHeartbeats 4000000 in
theorem v_X5_homeSet_B4 {X : Cx} {G : Gx} {sh : List Sh} (hF : FX X G sh 3 cX5_homeSet (yX5_homeSet).cls (some .int) rmX5_homeSet) (hs : ModAt sh) (n4 : Int32 → Int32 → Mm → Option (Int32 × Mm)) (h4 : ∀ (x1 : Int32) (x2 : Int32) (M : Mm), VR X G sh 3 rvI M 4 [(0, .ref (G.2.2.2.2 0)), (1, .int x1), (2, .int x2)] [] (n4 x1 x2 M)) : ∀ (x1 : Int32) (x2 : Int32) (M : Mm), VR X G sh 3 rvI M 4 [(0, .ref (G.2.2.2.2 0)), (1, .int x1), (2, .int x2)] [] (m_X5_homeSet_B4  n4 x1 x2 M) := by
  intro x1 x2 M
  unfold m_X5_homeSet_B4
  refine v_iload_n 2 5 hF dX5_homeSet_4 rfl rfl rfl ?_
  refine v_aload_n 0 6 hF dX5_homeSet_5 rfl rfl rfl ?_
  refine v_getI 9 hF dX5_homeSet_6 rfl fl_X5_80 hs.1 rfl ?_
  refine v_icmp_ge 12 42 hF dX5_homeSet_9 rfl (by decide) (fun _ => ?_) (fun _ => ?_)
  · refine v_iload_n 1 43 hF dX5_homeSet_42 rfl rfl rfl ?_
    exact v_iret hF dX5_homeSet_43
  · refine v_iload_n 1 13 hF dX5_homeSet_12 rfl rfl rfl ?_
    refine v_aload_n 0 14 hF dX5_homeSet_13 rfl rfl rfl ?_
    refine v_getR (b := 5) 17 hF dX5_homeSet_14 rfl fl_X5_29 hs.1 rfl ?_
    refine v_iconst (5) 18 hF dX5_homeSet_17 rfl (by decide) ?_
    refine v_iload_n 2 19 hF dX5_homeSet_18 rfl rfl rfl ?_
    refine v_imul 20 hF dX5_homeSet_19 rfl ?_
    refine v_iconst (3) 21 hF dX5_homeSet_20 rfl (by decide) ?_
    refine v_iadd 22 hF dX5_homeSet_21 rfl ?_
    refine v_iald 23 hF dX5_homeSet_22 rfl (hs.2.2.2.2.2.1) ?_
    refine v_iconst (-1) 24 hF dX5_homeSet_23 rfl (by decide) ?_
    refine v_icmp_ne 27 31 hF dX5_homeSet_24 rfl (by decide) (fun _ => ?_) (fun _ => ?_)
    · refine v_iconst (0) 32 hF dX5_homeSet_31 rfl (by decide) ?_
      refine VR.pick [0, 2] rfl ?_
      exact v_X5_homeSet_J32 hF hs _ h4 x2 ((0 : Int32)) x1 M
    · refine v_iconst (1) 28 hF dX5_homeSet_27 rfl (by decide) ?_
      refine v_goto 32 hF dX5_homeSet_28 (by decide) ?_
      refine VR.pick [0, 2] rfl ?_
      exact v_X5_homeSet_J32 hF hs _ h4 x2 ((1 : Int32)) x1 M
theorem v_X5_homeSet_L4 {X : Cx} {G : Gx} {sh : List Sh} (hF : FX X G sh 3 cX5_homeSet (yX5_homeSet).cls (some .int) rmX5_homeSet) (hs : ModAt sh) : ∀ (n : Nat), ∀ (x1 : Int32) (x2 : Int32) (M : Mm), VR X G sh 3 rvI M 4 [(0, .ref (G.2.2.2.2 0)), (1, .int x1), (2, .int x2)] [] (m_X5_homeSet_L4  n x1 x2 M) := by
  intro n
  induction n with
  | zero => intro x1 x2 M; exact VR.none
  | succ n ih => exact v_X5_homeSet_B4 hF hs _ ih
set_option maxRecDepth 100000 in
set_option maxHeartbeats 4000000 in
theorem c_X5_homeSet {G : Gx} {sh : List Sh} (hs : ModAt sh) (M : Mm)  : CT yX5_homeSet cX5_homeSet 3 (some .int) rmX5_homeSet G sh [.ref (G.2.2.2.2 0)] rvI M (m_X5_homeSet   M) := by
  refine CT.of (by decide +kernel) (Nat.le_of_ble_eq_true rfl) (fun X hF => ?_)
  show VR X G sh 3 rvI M 0 [(0, .ref (G.2.2.2.2 0))] [] _
  unfold m_X5_homeSet
  refine v_iconst (0) 1 hF dX5_homeSet_0 rfl (by decide) ?_
  refine v_istore_n (lo' := fun y3 => [(1, .int y3), (0, .ref (G.2.2.2.2 0))]) 2 hF dX5_homeSet_1 rfl rfl (by decide) (fun _ => rfl) (fun y3 => ?_)
  refine v_iconst (0) 3 hF dX5_homeSet_2 rfl (by decide) ?_
  refine v_istore_n (lo' := fun y4 => [(2, .int y4), (1, .int y3), (0, .ref (G.2.2.2.2 0))]) 4 hF dX5_homeSet_3 rfl rfl (by decide) (fun _ => rfl) (fun y4 => ?_)
  refine VR.pick [2, 1, 0] rfl ?_
  exact v_X5_homeSet_L4 hF hs FU y3 y4 M
abbrev rmX5_homeMany : Room := { frames := 1, cells := 0, slots := 0, locals := 22 }
def m_X5_homeMany  (M : Mm) : Option (Int32 × Mm) := bd (m_X5_homeSet M) fun r2 M1 => bd (m_X5_bitsOf r2 M1) fun r4 M3 => some (r4, M3)
set_option maxRecDepth 100000 in
set_option maxHeartbeats 4000000 in
theorem c_X5_homeMany {G : Gx} {sh : List Sh} (hs : ModAt sh) (M : Mm)  : CT yX5_homeMany cX5_homeMany 1 (some .int) rmX5_homeMany G sh [.ref (G.2.2.2.2 0)] rvI M (m_X5_homeMany   M) := by
  refine CT.of (by decide +kernel) (Nat.le_of_ble_eq_true rfl) (fun X hF => ?_)
  show VR X G sh 1 rvI M 0 [(0, .ref (G.2.2.2.2 0))] [] _
  unfold m_X5_homeMany
  refine v_aload_n 0 1 hF dX5_homeMany_0 rfl rfl rfl ?_
  refine v_callI ([]) ([]) 4 hF dX5_homeMany_1 rfl cw_X5_272 rfl (hs.1) (c_X5_homeSet (G := G) hs M) ⟨rfl, rfl, Nat.le_of_ble_eq_true rfl, Nat.le_of_ble_eq_true rfl⟩ rfl rfl (Nat.le_of_ble_eq_true rfl) (fun r2 M1 => ?_)
  refine v_staI ([.int r2]) ([]) 7 hF dX5_homeMany_4 rfl cw_X5_246 (c_X5_bitsOf (G := G) (sh := sh) M1 r2) ⟨rfl, rfl, Nat.le_of_ble_eq_true rfl, Nat.le_of_ble_eq_true rfl⟩ rfl rfl (Nat.le_of_ble_eq_true rfl) (fun r4 M3 => ?_)
  exact v_iret hF dX5_homeMany_7
abbrev rmX5_passes : Room := { frames := 69, cells := 0, slots := 0, locals := 3093 }
def m_X5_passes_J29 (n2 : Int32 → Mm → Option (Unit × Mm)) (x1 : Int32) (M : Mm) : Option (Unit × Mm) := lt1 (x1 + 1) fun y1 => n2 y1 M
def m_X5_passes_B2 (n2 : Int32 → Mm → Option (Unit × Mm)) (x1 : Int32) (M : Mm) : Option (Unit × Mm) := if (M 0 12) ≤ x1 then (lt1 (up M 0 7 (((M 0 7) + (1 : Int32)))) fun M2 => some ((), M2)) else (gd (inr ((((5 : Int32) * x1) + (3 : Int32))) 40) (if (M 5 ((((5 : Int32) * x1) + (3 : Int32))).toNatClampNeg) = (-1 : Int32) then (m_X5_passes_J29 n2 x1 M) else (bd (m_X5_steps x1 M) fun _ M3 => m_X5_passes_J29 n2 x1 M3)))
def m_X5_passes_L2 : Nat → Int32 → Mm → Option (Unit × Mm)
  | 0 => fun _ _ => none
  | n + 1 => m_X5_passes_B2  (m_X5_passes_L2  n)
def m_X5_passes  (M : Mm) : Option (Unit × Mm) := lt1 ((0 : Int32)) fun y4 => m_X5_passes_L2 FU y4 M
set_option maxRecDepth 100000 in
set_option maxHeartbeats 4000000 in
theorem v_X5_passes_J29 {X : Cx} {G : Gx} {sh : List Sh} (hF : FX X G sh 2 cX5_passes (yX5_passes).cls none rmX5_passes) (hs : ModAt sh) (n2 : Int32 → Mm → Option (Unit × Mm)) (h2 : ∀ (x1 : Int32) (M : Mm), VR X G sh 2 rvV M 2 [(0, .ref (G.2.2.2.2 0)), (1, .int x1)] [] (n2 x1 M)) : ∀ (x1 : Int32) (M : Mm), VR X G sh 2 rvV M 29 [(0, .ref (G.2.2.2.2 0)), (1, .int x1)] [] (m_X5_passes_J29  n2 x1 M) := by
  intro x1 M
  unfold m_X5_passes_J29
  refine v_iinc (v := (x1 + 1)) (lo' := fun y1 => [(1, .int y1), (0, .ref (G.2.2.2.2 0))]) 1 32 hF dX5_passes_29 rfl rfl rfl (by decide) (fun _ => rfl) (fun y1 => ?_)
  refine v_goto 2 hF dX5_passes_32 (by decide) ?_
  refine VR.pick [1, 0] rfl ?_
  exact h2 y1 M
set_option maxRecDepth 100000 in
set_option maxHeartbeats 4000000 in
theorem v_X5_passes_B2 {X : Cx} {G : Gx} {sh : List Sh} (hF : FX X G sh 2 cX5_passes (yX5_passes).cls none rmX5_passes) (hs : ModAt sh) (n2 : Int32 → Mm → Option (Unit × Mm)) (h2 : ∀ (x1 : Int32) (M : Mm), VR X G sh 2 rvV M 2 [(0, .ref (G.2.2.2.2 0)), (1, .int x1)] [] (n2 x1 M)) : ∀ (x1 : Int32) (M : Mm), VR X G sh 2 rvV M 2 [(0, .ref (G.2.2.2.2 0)), (1, .int x1)] [] (m_X5_passes_B2  n2 x1 M) := by
  intro x1 M
  unfold m_X5_passes_B2
  refine v_iload_n 1 3 hF dX5_passes_2 rfl rfl rfl ?_
  refine v_aload_n 0 4 hF dX5_passes_3 rfl rfl rfl ?_
  refine v_getI 7 hF dX5_passes_4 rfl fl_X5_80 hs.1 rfl ?_
  refine v_icmp_ge 10 35 hF dX5_passes_7 rfl (by decide) (fun _ => ?_) (fun _ => ?_)
  · refine v_aload_n 0 36 hF dX5_passes_35 rfl rfl rfl ?_
    refine v_dupR 37 hF dX5_passes_36 rfl ?_
    refine v_getI 40 hF dX5_passes_37 rfl fl_X5_108 hs.1 rfl ?_
    refine v_iconst (1) 41 hF dX5_passes_40 rfl (by decide) ?_
    refine v_iadd 42 hF dX5_passes_41 rfl ?_
    refine v_putI 45 hF dX5_passes_42 rfl fl_X5_108 fp_X5_7 hs.1 rfl (fun M2 => ?_)
    exact v_vret hF dX5_passes_45
  · refine v_aload_n 0 11 hF dX5_passes_10 rfl rfl rfl ?_
    refine v_getR (b := 5) 14 hF dX5_passes_11 rfl fl_X5_29 hs.1 rfl ?_
    refine v_iconst (5) 15 hF dX5_passes_14 rfl (by decide) ?_
    refine v_iload_n 1 16 hF dX5_passes_15 rfl rfl rfl ?_
    refine v_imul 17 hF dX5_passes_16 rfl ?_
    refine v_iconst (3) 18 hF dX5_passes_17 rfl (by decide) ?_
    refine v_iadd 19 hF dX5_passes_18 rfl ?_
    refine v_iald 20 hF dX5_passes_19 rfl (hs.2.2.2.2.2.1) ?_
    refine v_iconst (-1) 21 hF dX5_passes_20 rfl (by decide) ?_
    refine v_icmp_eq 24 29 hF dX5_passes_21 rfl (by decide) (fun _ => ?_) (fun _ => ?_)
    · refine VR.pick [0, 1] rfl ?_
      exact v_X5_passes_J29 hF hs _ h2 x1 M
    · refine v_aload_n 0 25 hF dX5_passes_24 rfl rfl rfl ?_
      refine v_iload_n 1 26 hF dX5_passes_25 rfl rfl rfl ?_
      refine v_callV ([.int x1]) ([]) 29 hF dX5_passes_26 rfl cw_X5_275 rfl (hs.1) (c_X5_steps (G := G) hs M x1) ⟨rfl, rfl, Nat.le_of_ble_eq_true rfl, Nat.le_of_ble_eq_true rfl⟩ rfl rfl (Nat.le_of_ble_eq_true rfl) (fun _ M3 => ?_)
      refine VR.pick [0, 1] rfl ?_
      exact v_X5_passes_J29 hF hs _ h2 x1 M3
theorem v_X5_passes_L2 {X : Cx} {G : Gx} {sh : List Sh} (hF : FX X G sh 2 cX5_passes (yX5_passes).cls none rmX5_passes) (hs : ModAt sh) : ∀ (n : Nat), ∀ (x1 : Int32) (M : Mm), VR X G sh 2 rvV M 2 [(0, .ref (G.2.2.2.2 0)), (1, .int x1)] [] (m_X5_passes_L2  n x1 M) := by
  intro n
  induction n with
  | zero => intro x1 M; exact VR.none
  | succ n ih => exact v_X5_passes_B2 hF hs _ ih
set_option maxRecDepth 100000 in
set_option maxHeartbeats 4000000 in
theorem c_X5_passes {G : Gx} {sh : List Sh} (hs : ModAt sh) (M : Mm)  : CT yX5_passes cX5_passes 2 none rmX5_passes G sh [.ref (G.2.2.2.2 0)] rvV M (m_X5_passes   M) := by
  refine CT.of (by decide +kernel) (Nat.le_of_ble_eq_true rfl) (fun X hF => ?_)
  show VR X G sh 2 rvV M 0 [(0, .ref (G.2.2.2.2 0))] [] _
  unfold m_X5_passes
  refine v_iconst (0) 1 hF dX5_passes_0 rfl (by decide) ?_
  refine v_istore_n (lo' := fun y4 => [(1, .int y4), (0, .ref (G.2.2.2.2 0))]) 2 hF dX5_passes_1 rfl rfl (by decide) (fun _ => rfl) (fun y4 => ?_)
  refine VR.pick [1, 0] rfl ?_
  exact v_X5_passes_L2 hF hs FU y4 M
abbrev rmX5_day : Room := { frames := 70, cells := 0, slots := 0, locals := 3114 }
def m_X5_day  (M : Mm) : Option (Int32 × Mm) := if (M 0 7) = (999 : Int32) then (some ((-3 : Int32), M)) else (bd (m_X5_homeSet M) fun r2 M1 => lt1 r2 fun y3 => bd (m_X5_passes M1) fun _ M4 => bd (m_X5_homeSet M4) fun r6 M5 => some ((r6 &&& (y3 ^^^ (-1 : Int32))), M5))
set_option maxRecDepth 100000 in
set_option maxHeartbeats 4000000 in
theorem c_X5_day {G : Gx} {sh : List Sh} (hs : ModAt sh) (M : Mm)  : CT yX5_day cX5_day 2 (some .int) rmX5_day G sh [.ref (G.2.2.2.2 0)] rvI M (m_X5_day   M) := by
  refine CT.of (by decide +kernel) (Nat.le_of_ble_eq_true rfl) (fun X hF => ?_)
  show VR X G sh 2 rvI M 0 [(0, .ref (G.2.2.2.2 0))] [] _
  unfold m_X5_day
  refine v_aload_n 0 1 hF dX5_day_0 rfl rfl rfl ?_
  refine v_getI 4 hF dX5_day_1 rfl fl_X5_108 hs.1 rfl ?_
  refine v_sipush (999) 7 hF dX5_day_4 rfl (by decide) ?_
  refine v_icmp_ne 10 13 hF dX5_day_7 rfl (by decide) (fun _ => ?_) (fun _ => ?_)
  · refine v_aload_n 0 14 hF dX5_day_13 rfl rfl rfl ?_
    refine v_callI ([]) ([]) 17 hF dX5_day_14 rfl cw_X5_272 rfl (hs.1) (c_X5_homeSet (G := G) hs M) ⟨rfl, rfl, Nat.le_of_ble_eq_true rfl, Nat.le_of_ble_eq_true rfl⟩ rfl rfl (Nat.le_of_ble_eq_true rfl) (fun r2 M1 => ?_)
    refine v_istore_n (lo' := fun y3 => [(1, .int y3), (0, .ref (G.2.2.2.2 0))]) 18 hF dX5_day_17 rfl rfl (by decide) (fun _ => rfl) (fun y3 => ?_)
    refine v_aload_n 1 19 hF dX5_day_18 rfl rfl rfl ?_
    refine v_callV ([]) ([]) 22 hF dX5_day_19 rfl cw_X5_279 rfl (hs.1) (c_X5_passes (G := G) hs M1) ⟨rfl, rfl, Nat.le_of_ble_eq_true rfl, Nat.le_of_ble_eq_true rfl⟩ rfl rfl (Nat.le_of_ble_eq_true rfl) (fun _ M4 => ?_)
    refine v_aload_n 1 23 hF dX5_day_22 rfl rfl rfl ?_
    refine v_callI ([]) ([]) 26 hF dX5_day_23 rfl cw_X5_272 rfl (hs.1) (c_X5_homeSet (G := G) hs M4) ⟨rfl, rfl, Nat.le_of_ble_eq_true rfl, Nat.le_of_ble_eq_true rfl⟩ rfl rfl (Nat.le_of_ble_eq_true rfl) (fun r6 M5 => ?_)
    refine v_iload_n 0 27 hF dX5_day_26 rfl rfl rfl ?_
    refine v_iconst (-1) 28 hF dX5_day_27 rfl (by decide) ?_
    refine v_ixor 29 hF dX5_day_28 rfl ?_
    refine v_iand 30 hF dX5_day_29 rfl ?_
    exact v_iret hF dX5_day_30
  · refine v_bipush (-3) 12 hF dX5_day_10 rfl (by decide) ?_
    exact v_iret hF dX5_day_12
abbrev rmX5_laysAside : Room := { frames := 0, cells := 0, slots := 0, locals := 0 }
def m_X5_laysAside_B2 (n2 : Int32 → Mm → Option (Unit × Mm)) (x1 : Int32) (M : Mm) : Option (Unit × Mm) := if (40 : Int32) ≤ x1 then (gd (inr ((40 : Int32)) 42) (lt1 (up M 6 ((40 : Int32)).toNatClampNeg ((M 0 12))) fun M1 => gd (inr ((41 : Int32)) 42) (lt1 (up M1 6 ((41 : Int32)).toNatClampNeg ((M1 0 7))) fun M2 => some ((), M2)))) else (gd (inr x1 40) (gd (inr x1 42) (lt1 (up M 6 x1.toNatClampNeg ((M 5 x1.toNatClampNeg))) fun M3 => lt1 (x1 + 1) fun y4 => n2 y4 M3)))
def m_X5_laysAside_L2 : Nat → Int32 → Mm → Option (Unit × Mm)
  | 0 => fun _ _ => none
  | n + 1 => m_X5_laysAside_B2  (m_X5_laysAside_L2  n)
def m_X5_laysAside  (M : Mm) : Option (Unit × Mm) := lt1 ((0 : Int32)) fun y5 => m_X5_laysAside_L2 FU y5 M
set_option maxRecDepth 100000 in
set_option maxHeartbeats 4000000 in
theorem v_X5_laysAside_B2 {X : Cx} {G : Gx} {sh : List Sh} (hF : FX X G sh 2 cX5_laysAside (yX5_laysAside).cls none rmX5_laysAside) (hs : ModAt sh) (n2 : Int32 → Mm → Option (Unit × Mm)) (h2 : ∀ (x1 : Int32) (M : Mm), VR X G sh 2 rvV M 2 [(0, .ref (G.2.2.2.2 0)), (1, .int x1)] [] (n2 x1 M)) : ∀ (x1 : Int32) (M : Mm), VR X G sh 2 rvV M 2 [(0, .ref (G.2.2.2.2 0)), (1, .int x1)] [] (m_X5_laysAside_B2  n2 x1 M) := by
  intro x1 M
  unfold m_X5_laysAside_B2
  refine v_iload_n 1 3 hF dX5_laysAside_2 rfl rfl rfl ?_
  refine v_bipush (40) 5 hF dX5_laysAside_3 rfl (by decide) ?_
  refine v_icmp_ge 8 26 hF dX5_laysAside_5 rfl (by decide) (fun _ => ?_) (fun _ => ?_)
  · refine v_aload_n 0 27 hF dX5_laysAside_26 rfl rfl rfl ?_
    refine v_getR (b := 6) 30 hF dX5_laysAside_27 rfl fl_X5_32 hs.1 rfl ?_
    refine v_bipush (40) 32 hF dX5_laysAside_30 rfl (by decide) ?_
    refine v_aload_n 0 33 hF dX5_laysAside_32 rfl rfl rfl ?_
    refine v_getI 36 hF dX5_laysAside_33 rfl fl_X5_80 hs.1 rfl ?_
    refine v_iast 37 hF dX5_laysAside_36 rfl (hs.2.2.2.2.2.2.1) (fun M1 => ?_)
    refine v_aload_n 0 38 hF dX5_laysAside_37 rfl rfl rfl ?_
    refine v_getR (b := 6) 41 hF dX5_laysAside_38 rfl fl_X5_32 hs.1 rfl ?_
    refine v_bipush (41) 43 hF dX5_laysAside_41 rfl (by decide) ?_
    refine v_aload_n 0 44 hF dX5_laysAside_43 rfl rfl rfl ?_
    refine v_getI 47 hF dX5_laysAside_44 rfl fl_X5_108 hs.1 rfl ?_
    refine v_iast 48 hF dX5_laysAside_47 rfl (hs.2.2.2.2.2.2.1) (fun M2 => ?_)
    exact v_vret hF dX5_laysAside_48
  · refine v_aload_n 0 9 hF dX5_laysAside_8 rfl rfl rfl ?_
    refine v_getR (b := 6) 12 hF dX5_laysAside_9 rfl fl_X5_32 hs.1 rfl ?_
    refine v_iload_n 1 13 hF dX5_laysAside_12 rfl rfl rfl ?_
    refine v_aload_n 0 14 hF dX5_laysAside_13 rfl rfl rfl ?_
    refine v_getR (b := 5) 17 hF dX5_laysAside_14 rfl fl_X5_29 hs.1 rfl ?_
    refine v_iload_n 1 18 hF dX5_laysAside_17 rfl rfl rfl ?_
    refine v_iald 19 hF dX5_laysAside_18 rfl (hs.2.2.2.2.2.1) ?_
    refine v_iast 20 hF dX5_laysAside_19 rfl (hs.2.2.2.2.2.2.1) (fun M3 => ?_)
    refine v_iinc (v := (x1 + 1)) (lo' := fun y4 => [(1, .int y4), (0, .ref (G.2.2.2.2 0))]) 1 23 hF dX5_laysAside_20 rfl rfl rfl (by decide) (fun _ => rfl) (fun y4 => ?_)
    refine v_goto 2 hF dX5_laysAside_23 (by decide) ?_
    refine VR.pick [1, 0] rfl ?_
    exact h2 y4 M3
theorem v_X5_laysAside_L2 {X : Cx} {G : Gx} {sh : List Sh} (hF : FX X G sh 2 cX5_laysAside (yX5_laysAside).cls none rmX5_laysAside) (hs : ModAt sh) : ∀ (n : Nat), ∀ (x1 : Int32) (M : Mm), VR X G sh 2 rvV M 2 [(0, .ref (G.2.2.2.2 0)), (1, .int x1)] [] (m_X5_laysAside_L2  n x1 M) := by
  intro n
  induction n with
  | zero => intro x1 M; exact VR.none
  | succ n ih => exact v_X5_laysAside_B2 hF hs _ ih
set_option maxRecDepth 100000 in
set_option maxHeartbeats 4000000 in
theorem c_X5_laysAside {G : Gx} {sh : List Sh} (hs : ModAt sh) (M : Mm)  : CT yX5_laysAside cX5_laysAside 2 none rmX5_laysAside G sh [.ref (G.2.2.2.2 0)] rvV M (m_X5_laysAside   M) := by
  refine CT.of (by decide +kernel) (Nat.le_of_ble_eq_true rfl) (fun X hF => ?_)
  show VR X G sh 2 rvV M 0 [(0, .ref (G.2.2.2.2 0))] [] _
  unfold m_X5_laysAside
  refine v_iconst (0) 1 hF dX5_laysAside_0 rfl (by decide) ?_
  refine v_istore_n (lo' := fun y5 => [(1, .int y5), (0, .ref (G.2.2.2.2 0))]) 2 hF dX5_laysAside_1 rfl rfl (by decide) (fun _ => rfl) (fun y5 => ?_)
  refine VR.pick [1, 0] rfl ?_
  exact v_X5_laysAside_L2 hF hs FU y5 M
abbrev rmX5_laysBack : Room := { frames := 0, cells := 0, slots := 0, locals := 0 }
def m_X5_laysBack_B2 (n2 : Int32 → Mm → Option (Unit × Mm)) (x1 : Int32) (M : Mm) : Option (Unit × Mm) := if (40 : Int32) ≤ x1 then (gd (inr ((40 : Int32)) 42) (lt1 (up M 0 12 ((M 6 ((40 : Int32)).toNatClampNeg))) fun M1 => gd (inr ((41 : Int32)) 42) (lt1 (up M1 0 7 ((M1 6 ((41 : Int32)).toNatClampNeg))) fun M2 => some ((), M2)))) else (gd (inr x1 42) (gd (inr x1 40) (lt1 (up M 5 x1.toNatClampNeg ((M 6 x1.toNatClampNeg))) fun M3 => lt1 (x1 + 1) fun y4 => n2 y4 M3)))
def m_X5_laysBack_L2 : Nat → Int32 → Mm → Option (Unit × Mm)
  | 0 => fun _ _ => none
  | n + 1 => m_X5_laysBack_B2  (m_X5_laysBack_L2  n)
def m_X5_laysBack  (M : Mm) : Option (Unit × Mm) := lt1 ((0 : Int32)) fun y5 => m_X5_laysBack_L2 FU y5 M
set_option maxRecDepth 100000 in
set_option maxHeartbeats 4000000 in
theorem v_X5_laysBack_B2 {X : Cx} {G : Gx} {sh : List Sh} (hF : FX X G sh 2 cX5_laysBack (yX5_laysBack).cls none rmX5_laysBack) (hs : ModAt sh) (n2 : Int32 → Mm → Option (Unit × Mm)) (h2 : ∀ (x1 : Int32) (M : Mm), VR X G sh 2 rvV M 2 [(0, .ref (G.2.2.2.2 0)), (1, .int x1)] [] (n2 x1 M)) : ∀ (x1 : Int32) (M : Mm), VR X G sh 2 rvV M 2 [(0, .ref (G.2.2.2.2 0)), (1, .int x1)] [] (m_X5_laysBack_B2  n2 x1 M) := by
  intro x1 M
  unfold m_X5_laysBack_B2
  refine v_iload_n 1 3 hF dX5_laysBack_2 rfl rfl rfl ?_
  refine v_bipush (40) 5 hF dX5_laysBack_3 rfl (by decide) ?_
  refine v_icmp_ge 8 26 hF dX5_laysBack_5 rfl (by decide) (fun _ => ?_) (fun _ => ?_)
  · refine v_aload_n 0 27 hF dX5_laysBack_26 rfl rfl rfl ?_
    refine v_aload_n 0 28 hF dX5_laysBack_27 rfl rfl rfl ?_
    refine v_getR (b := 6) 31 hF dX5_laysBack_28 rfl fl_X5_32 hs.1 rfl ?_
    refine v_bipush (40) 33 hF dX5_laysBack_31 rfl (by decide) ?_
    refine v_iald 34 hF dX5_laysBack_33 rfl (hs.2.2.2.2.2.2.1) ?_
    refine v_putI 37 hF dX5_laysBack_34 rfl fl_X5_80 fp_X5_12 hs.1 rfl (fun M1 => ?_)
    refine v_aload_n 0 38 hF dX5_laysBack_37 rfl rfl rfl ?_
    refine v_aload_n 0 39 hF dX5_laysBack_38 rfl rfl rfl ?_
    refine v_getR (b := 6) 42 hF dX5_laysBack_39 rfl fl_X5_32 hs.1 rfl ?_
    refine v_bipush (41) 44 hF dX5_laysBack_42 rfl (by decide) ?_
    refine v_iald 45 hF dX5_laysBack_44 rfl (hs.2.2.2.2.2.2.1) ?_
    refine v_putI 48 hF dX5_laysBack_45 rfl fl_X5_108 fp_X5_7 hs.1 rfl (fun M2 => ?_)
    exact v_vret hF dX5_laysBack_48
  · refine v_aload_n 0 9 hF dX5_laysBack_8 rfl rfl rfl ?_
    refine v_getR (b := 5) 12 hF dX5_laysBack_9 rfl fl_X5_29 hs.1 rfl ?_
    refine v_iload_n 1 13 hF dX5_laysBack_12 rfl rfl rfl ?_
    refine v_aload_n 0 14 hF dX5_laysBack_13 rfl rfl rfl ?_
    refine v_getR (b := 6) 17 hF dX5_laysBack_14 rfl fl_X5_32 hs.1 rfl ?_
    refine v_iload_n 1 18 hF dX5_laysBack_17 rfl rfl rfl ?_
    refine v_iald 19 hF dX5_laysBack_18 rfl (hs.2.2.2.2.2.2.1) ?_
    refine v_iast 20 hF dX5_laysBack_19 rfl (hs.2.2.2.2.2.1) (fun M3 => ?_)
    refine v_iinc (v := (x1 + 1)) (lo' := fun y4 => [(1, .int y4), (0, .ref (G.2.2.2.2 0))]) 1 23 hF dX5_laysBack_20 rfl rfl rfl (by decide) (fun _ => rfl) (fun y4 => ?_)
    refine v_goto 2 hF dX5_laysBack_23 (by decide) ?_
    refine VR.pick [1, 0] rfl ?_
    exact h2 y4 M3
theorem v_X5_laysBack_L2 {X : Cx} {G : Gx} {sh : List Sh} (hF : FX X G sh 2 cX5_laysBack (yX5_laysBack).cls none rmX5_laysBack) (hs : ModAt sh) : ∀ (n : Nat), ∀ (x1 : Int32) (M : Mm), VR X G sh 2 rvV M 2 [(0, .ref (G.2.2.2.2 0)), (1, .int x1)] [] (m_X5_laysBack_L2  n x1 M) := by
  intro n
  induction n with
  | zero => intro x1 M; exact VR.none
  | succ n ih => exact v_X5_laysBack_B2 hF hs _ ih
set_option maxRecDepth 100000 in
set_option maxHeartbeats 4000000 in
theorem c_X5_laysBack {G : Gx} {sh : List Sh} (hs : ModAt sh) (M : Mm)  : CT yX5_laysBack cX5_laysBack 2 none rmX5_laysBack G sh [.ref (G.2.2.2.2 0)] rvV M (m_X5_laysBack   M) := by
  refine CT.of (by decide +kernel) (Nat.le_of_ble_eq_true rfl) (fun X hF => ?_)
  show VR X G sh 2 rvV M 0 [(0, .ref (G.2.2.2.2 0))] [] _
  unfold m_X5_laysBack
  refine v_iconst (0) 1 hF dX5_laysBack_0 rfl (by decide) ?_
  refine v_istore_n (lo' := fun y5 => [(1, .int y5), (0, .ref (G.2.2.2.2 0))]) 2 hF dX5_laysBack_1 rfl rfl (by decide) (fun _ => rfl) (fun y5 => ?_)
  refine VR.pick [1, 0] rfl ?_
  exact v_X5_laysBack_L2 hF hs FU y5 M
abbrev rmX5_go : Room := { frames := 70, cells := 0, slots := 0, locals := 3114 }
def m_X5_go_B2 (n2 : Int32 → Int32 → Mm → Option (Unit × Mm)) (x1 : Int32) (x2 : Int32) (M : Mm) : Option (Unit × Mm) := if x1 ≤ x2 then (some ((), M)) else (bd (m_X5_passes M) fun _ M1 => lt1 (x2 + 1) fun y2 => n2 x1 y2 M1)
def m_X5_go_L2 : Nat → Int32 → Int32 → Mm → Option (Unit × Mm)
  | 0 => fun _ _ _ => none
  | n + 1 => m_X5_go_B2  (m_X5_go_L2  n)
def m_X5_go (x1 : Int32) (M : Mm) : Option (Unit × Mm) := lt1 ((0 : Int32)) fun y3 => m_X5_go_L2 FU x1 y3 M
set_option maxRecDepth 100000 in
set_option maxHeartbeats 4000000 in
theorem v_X5_go_B2 {X : Cx} {G : Gx} {sh : List Sh} (hF : FX X G sh 3 cX5_go (yX5_go).cls none rmX5_go) (hs : ModAt sh) (n2 : Int32 → Int32 → Mm → Option (Unit × Mm)) (h2 : ∀ (x1 : Int32) (x2 : Int32) (M : Mm), VR X G sh 3 rvV M 2 [(0, .ref (G.2.2.2.2 0)), (1, .int x1), (2, .int x2)] [] (n2 x1 x2 M)) : ∀ (x1 : Int32) (x2 : Int32) (M : Mm), VR X G sh 3 rvV M 2 [(0, .ref (G.2.2.2.2 0)), (1, .int x1), (2, .int x2)] [] (m_X5_go_B2  n2 x1 x2 M) := by
  intro x1 x2 M
  unfold m_X5_go_B2
  refine v_iload_n 2 3 hF dX5_go_2 rfl rfl rfl ?_
  refine v_iload_n 1 4 hF dX5_go_3 rfl rfl rfl ?_
  refine v_icmp_ge 7 17 hF dX5_go_4 rfl (by decide) (fun _ => ?_) (fun _ => ?_)
  · exact v_vret hF dX5_go_17
  · refine v_aload_n 0 8 hF dX5_go_7 rfl rfl rfl ?_
    refine v_callV ([]) ([]) 11 hF dX5_go_8 rfl cw_X5_279 rfl (hs.1) (c_X5_passes (G := G) hs M) ⟨rfl, rfl, Nat.le_of_ble_eq_true rfl, Nat.le_of_ble_eq_true rfl⟩ rfl rfl (Nat.le_of_ble_eq_true rfl) (fun _ M1 => ?_)
    refine v_iinc (v := (x2 + 1)) (lo' := fun y2 => [(2, .int y2), (0, .ref (G.2.2.2.2 0)), (1, .int x1)]) 2 14 hF dX5_go_11 rfl rfl rfl (by decide) (fun _ => rfl) (fun y2 => ?_)
    refine v_goto 2 hF dX5_go_14 (by decide) ?_
    refine VR.pick [1, 2, 0] rfl ?_
    exact h2 x1 y2 M1
theorem v_X5_go_L2 {X : Cx} {G : Gx} {sh : List Sh} (hF : FX X G sh 3 cX5_go (yX5_go).cls none rmX5_go) (hs : ModAt sh) : ∀ (n : Nat), ∀ (x1 : Int32) (x2 : Int32) (M : Mm), VR X G sh 3 rvV M 2 [(0, .ref (G.2.2.2.2 0)), (1, .int x1), (2, .int x2)] [] (m_X5_go_L2  n x1 x2 M) := by
  intro n
  induction n with
  | zero => intro x1 x2 M; exact VR.none
  | succ n ih => exact v_X5_go_B2 hF hs _ ih
set_option maxRecDepth 100000 in
set_option maxHeartbeats 4000000 in
theorem c_X5_go {G : Gx} {sh : List Sh} (hs : ModAt sh) (M : Mm) (x1 : Int32) : CT yX5_go cX5_go 3 none rmX5_go G sh [.ref (G.2.2.2.2 0), .int x1] rvV M (m_X5_go  x1 M) := by
  refine CT.of (by decide +kernel) (Nat.le_of_ble_eq_true rfl) (fun X hF => ?_)
  show VR X G sh 3 rvV M 0 [(0, .ref (G.2.2.2.2 0)), (1, .int x1)] [] _
  unfold m_X5_go
  refine v_iconst (0) 1 hF dX5_go_0 rfl (by decide) ?_
  refine v_istore_n (lo' := fun y3 => [(2, .int y3), (0, .ref (G.2.2.2.2 0)), (1, .int x1)]) 2 hF dX5_go_1 rfl rfl (by decide) (fun _ => rfl) (fun y3 => ?_)
  refine VR.pick [1, 2, 0] rfl ?_
  exact v_X5_go_L2 hF hs FU x1 y3 M
abbrev rmX5_homeBehind : Room := { frames := 71, cells := 0, slots := 0, locals := 3136 }
def m_X5_homeBehind (x1 : Int32) (M : Mm) : Option (Int32 × Mm) := bd (m_X5_laysAside M) fun _ M1 => bd (m_X5_go x1 M1) fun _ M2 => bd (m_X5_homeMany M2) fun r4 M3 => lt1 r4 fun y5 => bd (m_X5_laysBack M3) fun _ M6 => some (y5, M6)
set_option maxRecDepth 100000 in
set_option maxHeartbeats 4000000 in
theorem c_X5_homeBehind {G : Gx} {sh : List Sh} (hs : ModAt sh) (M : Mm) (x1 : Int32) : CT yX5_homeBehind cX5_homeBehind 3 (some .int) rmX5_homeBehind G sh [.ref (G.2.2.2.2 0), .int x1] rvI M (m_X5_homeBehind  x1 M) := by
  refine CT.of (by decide +kernel) (Nat.le_of_ble_eq_true rfl) (fun X hF => ?_)
  show VR X G sh 3 rvI M 0 [(0, .ref (G.2.2.2.2 0)), (1, .int x1)] [] _
  unfold m_X5_homeBehind
  refine v_aload_n 0 1 hF dX5_homeBehind_0 rfl rfl rfl ?_
  refine v_callV ([]) ([]) 4 hF dX5_homeBehind_1 rfl cw_X5_282 rfl (hs.1) (c_X5_laysAside (G := G) hs M) ⟨rfl, rfl, Nat.le_of_ble_eq_true rfl, Nat.le_of_ble_eq_true rfl⟩ rfl rfl (Nat.le_of_ble_eq_true rfl) (fun _ M1 => ?_)
  refine v_aload_n 0 5 hF dX5_homeBehind_4 rfl rfl rfl ?_
  refine v_iload_n 1 6 hF dX5_homeBehind_5 rfl rfl rfl ?_
  refine v_callV ([.int x1]) ([]) 9 hF dX5_homeBehind_6 rfl cw_X5_285 rfl (hs.1) (c_X5_go (G := G) hs M1 x1) ⟨rfl, rfl, Nat.le_of_ble_eq_true rfl, Nat.le_of_ble_eq_true rfl⟩ rfl rfl (Nat.le_of_ble_eq_true rfl) (fun _ M2 => ?_)
  refine v_aload_n 0 10 hF dX5_homeBehind_9 rfl rfl rfl ?_
  refine v_callI ([]) ([]) 13 hF dX5_homeBehind_10 rfl cw_X5_288 rfl (hs.1) (c_X5_homeMany (G := G) hs M2) ⟨rfl, rfl, Nat.le_of_ble_eq_true rfl, Nat.le_of_ble_eq_true rfl⟩ rfl rfl (Nat.le_of_ble_eq_true rfl) (fun r4 M3 => ?_)
  refine v_istore_n (lo' := fun y5 => [(2, .int y5), (0, .ref (G.2.2.2.2 0)), (1, .int x1)]) 14 hF dX5_homeBehind_13 rfl rfl (by decide) (fun _ => rfl) (fun y5 => ?_)
  refine v_aload_n 1 15 hF dX5_homeBehind_14 rfl rfl rfl ?_
  refine v_callV ([]) ([]) 18 hF dX5_homeBehind_15 rfl cw_X5_291 rfl (hs.1) (c_X5_laysBack (G := G) hs M3) ⟨rfl, rfl, Nat.le_of_ble_eq_true rfl, Nat.le_of_ble_eq_true rfl⟩ rfl rfl (Nat.le_of_ble_eq_true rfl) (fun _ M6 => ?_)
  refine v_iload_n 0 19 hF dX5_homeBehind_18 rfl rfl rfl ?_
  exact v_iret hF dX5_homeBehind_19
abbrev rmX5_run : Room := { frames := 71, cells := 0, slots := 0, locals := 3136 }
def m_X5_run_J101 (s0 : Int32) (M : Mm) : Option (Int32 × Mm) := lt1 s0 fun y1 => bd (m_X5_laysBack M) fun _ M2 => some (y1, M2)
def m_X5_run (x1 : Int32) (x2 : Int32) (x3 : Int32) (M : Mm) : Option (Int32 × Mm) := bd (m_X5_isLetter x1 M) fun r4 M3 => if r4 = 0 then (some ((-2 : Int32), M3)) else (bd (m_X5_in (((x2).toInt64)) ((0 : Int64)) ((40 : Int64)) M3) fun r6 M5 => if r6 = 0 then (some ((-2 : Int32), M5)) else (bd (m_X5_in (((x3).toInt64)) ((0 : Int64)) ((3 : Int64)) M5) fun r8 M7 => if r8 = 0 then (some ((-2 : Int32), M7)) else (bd (m_X5_laysAside M7) fun _ M9 => bd (m_X5_go x2 M9) fun _ M10 => lt1 (((5 : Int32) * x1)) fun y11 => if x3 = 0 then (gd (inr ((y11 + (3 : Int32))) 40) (m_X5_run_J101 ((M10 5 ((y11 + (3 : Int32))).toNatClampNeg)) M10)) else (if x3 = (1 : Int32) then (gd (inr y11 40) (m_X5_run_J101 ((M10 5 y11.toNatClampNeg)) M10)) else (if x3 = (2 : Int32) then (gd (inr ((y11 + (4 : Int32))) 40) (m_X5_run_J101 ((M10 5 ((y11 + (4 : Int32))).toNatClampNeg)) M10)) else (bd (m_X5_homeMany M10) fun r13 M12 => m_X5_run_J101 r13 M12))))))
set_option maxRecDepth 100000 in
set_option maxHeartbeats 4000000 in
theorem v_X5_run_J101 {X : Cx} {G : Gx} {sh : List Sh} (hF : FX X G sh 6 cX5_run (yX5_run).cls (some .int) rmX5_run) (hs : ModAt sh) : ∀ (s0 : Int32) (M : Mm), VR X G sh 6 rvI M 101 [(0, .ref (G.2.2.2.2 0))] [.int s0] (m_X5_run_J101  s0 M) := by
  intro s0 M
  unfold m_X5_run_J101
  refine v_istore (lo' := fun y1 => [(5, .int y1), (0, .ref (G.2.2.2.2 0))]) 103 hF dX5_run_101 rfl (by decide) (fun _ => rfl) (fun y1 => ?_)
  refine v_aload_n 1 104 hF dX5_run_103 rfl rfl rfl ?_
  refine v_callV ([]) ([]) 107 hF dX5_run_104 rfl cw_X5_291 rfl (hs.1) (c_X5_laysBack (G := G) hs M) ⟨rfl, rfl, Nat.le_of_ble_eq_true rfl, Nat.le_of_ble_eq_true rfl⟩ rfl rfl (Nat.le_of_ble_eq_true rfl) (fun _ M2 => ?_)
  refine v_iload 0 109 hF dX5_run_107 rfl rfl ?_
  exact v_iret hF dX5_run_109
set_option maxRecDepth 100000 in
set_option maxHeartbeats 4000000 in
theorem c_X5_run {G : Gx} {sh : List Sh} (hs : ModAt sh) (M : Mm) (x1 : Int32) (x2 : Int32) (x3 : Int32) : CT yX5_run cX5_run 6 (some .int) rmX5_run G sh [.ref (G.2.2.2.2 0), .int x1, .int x2, .int x3] rvI M (m_X5_run  x1 x2 x3 M) := by
  refine CT.of (by decide +kernel) (Nat.le_of_ble_eq_true rfl) (fun X hF => ?_)
  show VR X G sh 6 rvI M 0 [(0, .ref (G.2.2.2.2 0)), (1, .int x1), (2, .int x2), (3, .int x3)] [] _
  unfold m_X5_run
  refine v_aload_n 0 1 hF dX5_run_0 rfl rfl rfl ?_
  refine v_iload_n 1 2 hF dX5_run_1 rfl rfl rfl ?_
  refine v_callI ([.int x1]) ([]) 5 hF dX5_run_2 rfl cw_X5_87 rfl (hs.1) (c_X5_isLetter (G := G) hs M x1) ⟨rfl, rfl, Nat.le_of_ble_eq_true rfl, Nat.le_of_ble_eq_true rfl⟩ rfl rfl (Nat.le_of_ble_eq_true rfl) (fun r4 M3 => ?_)
  refine v_if_eq 8 32 hF dX5_run_5 rfl (by decide) (fun _ => ?_) (fun _ => ?_)
  · refine v_bipush (-2) 34 hF dX5_run_32 rfl (by decide) ?_
    exact v_iret hF dX5_run_34
  · refine v_iload_n 2 9 hF dX5_run_8 rfl rfl rfl ?_
    refine v_i2l 10 hF dX5_run_9 rfl ?_
    refine v_lconst 0 11 hF dX5_run_10 rfl (by decide) ?_
    refine v_ldc2 (40) 14 hF dX5_run_11 rfl cc_X5_294 ?_
    refine v_staI ([.long (((x2).toInt64)), .long ((0 : Int64)), .long ((40 : Int64))]) ([]) 17 hF dX5_run_14 rfl cw_X5_76 (c_X5_in (G := G) (sh := sh) M3 (((x2).toInt64)) ((0 : Int64)) ((40 : Int64))) ⟨rfl, rfl, Nat.le_of_ble_eq_true rfl, Nat.le_of_ble_eq_true rfl⟩ rfl rfl (Nat.le_of_ble_eq_true rfl) (fun r6 M5 => ?_)
    refine v_if_eq 20 32 hF dX5_run_17 rfl (by decide) (fun _ => ?_) (fun _ => ?_)
    · refine v_bipush (-2) 34 hF dX5_run_32 rfl (by decide) ?_
      exact v_iret hF dX5_run_34
    · refine v_iload_n 3 21 hF dX5_run_20 rfl rfl rfl ?_
      refine v_i2l 22 hF dX5_run_21 rfl ?_
      refine v_lconst 0 23 hF dX5_run_22 rfl (by decide) ?_
      refine v_ldc2 (3) 26 hF dX5_run_23 rfl cc_X5_90 ?_
      refine v_staI ([.long (((x3).toInt64)), .long ((0 : Int64)), .long ((3 : Int64))]) ([]) 29 hF dX5_run_26 rfl cw_X5_76 (c_X5_in (G := G) (sh := sh) M5 (((x3).toInt64)) ((0 : Int64)) ((3 : Int64))) ⟨rfl, rfl, Nat.le_of_ble_eq_true rfl, Nat.le_of_ble_eq_true rfl⟩ rfl rfl (Nat.le_of_ble_eq_true rfl) (fun r8 M7 => ?_)
      refine v_if_ne 32 35 hF dX5_run_29 rfl (by decide) (fun _ => ?_) (fun _ => ?_)
      · refine v_aload_n 0 36 hF dX5_run_35 rfl rfl rfl ?_
        refine v_callV ([]) ([]) 39 hF dX5_run_36 rfl cw_X5_282 rfl (hs.1) (c_X5_laysAside (G := G) hs M7) ⟨rfl, rfl, Nat.le_of_ble_eq_true rfl, Nat.le_of_ble_eq_true rfl⟩ rfl rfl (Nat.le_of_ble_eq_true rfl) (fun _ M9 => ?_)
        refine v_aload_n 0 40 hF dX5_run_39 rfl rfl rfl ?_
        refine v_iload_n 2 41 hF dX5_run_40 rfl rfl rfl ?_
        refine v_callV ([.int x2]) ([]) 44 hF dX5_run_41 rfl cw_X5_285 rfl (hs.1) (c_X5_go (G := G) hs M9 x2) ⟨rfl, rfl, Nat.le_of_ble_eq_true rfl, Nat.le_of_ble_eq_true rfl⟩ rfl rfl (Nat.le_of_ble_eq_true rfl) (fun _ M10 => ?_)
        refine v_iconst (5) 45 hF dX5_run_44 rfl (by decide) ?_
        refine v_iload_n 1 46 hF dX5_run_45 rfl rfl rfl ?_
        refine v_imul 47 hF dX5_run_46 rfl ?_
        refine v_istore (lo' := fun y11 => [(4, .int y11), (0, .ref (G.2.2.2.2 0)), (1, .int x1), (2, .int x2), (3, .int x3)]) 49 hF dX5_run_47 rfl (by decide) (fun _ => rfl) (fun y11 => ?_)
        refine v_iload_n 4 50 hF dX5_run_49 rfl rfl rfl ?_
        refine v_if_ne 53 65 hF dX5_run_50 rfl (by decide) (fun _ => ?_) (fun _ => ?_)
        · refine v_iload_n 4 66 hF dX5_run_65 rfl rfl rfl ?_
          refine v_iconst (1) 67 hF dX5_run_66 rfl (by decide) ?_
          refine v_icmp_ne 70 80 hF dX5_run_67 rfl (by decide) (fun _ => ?_) (fun _ => ?_)
          · refine v_iload_n 4 81 hF dX5_run_80 rfl rfl rfl ?_
            refine v_iconst (2) 82 hF dX5_run_81 rfl (by decide) ?_
            refine v_icmp_ne 85 97 hF dX5_run_82 rfl (by decide) (fun _ => ?_) (fun _ => ?_)
            · refine v_aload_n 1 98 hF dX5_run_97 rfl rfl rfl ?_
              refine v_callI ([]) ([]) 101 hF dX5_run_98 rfl cw_X5_288 rfl (hs.1) (c_X5_homeMany (G := G) hs M10) ⟨rfl, rfl, Nat.le_of_ble_eq_true rfl, Nat.le_of_ble_eq_true rfl⟩ rfl rfl (Nat.le_of_ble_eq_true rfl) (fun r13 M12 => ?_)
              refine VR.pick [1] rfl ?_
              exact v_X5_run_J101 hF hs r13 M12
            · refine v_aload_n 1 86 hF dX5_run_85 rfl rfl rfl ?_
              refine v_getR (b := 5) 89 hF dX5_run_86 rfl fl_X5_29 hs.1 rfl ?_
              refine v_iload 0 91 hF dX5_run_89 rfl rfl ?_
              refine v_iconst (4) 92 hF dX5_run_91 rfl (by decide) ?_
              refine v_iadd 93 hF dX5_run_92 rfl ?_
              refine v_iald 94 hF dX5_run_93 rfl (hs.2.2.2.2.2.1) ?_
              refine v_goto 101 hF dX5_run_94 (by decide) ?_
              refine VR.pick [1] rfl ?_
              exact v_X5_run_J101 hF hs ((M10 5 ((y11 + (4 : Int32))).toNatClampNeg)) M10
          · refine v_aload_n 1 71 hF dX5_run_70 rfl rfl rfl ?_
            refine v_getR (b := 5) 74 hF dX5_run_71 rfl fl_X5_29 hs.1 rfl ?_
            refine v_iload 0 76 hF dX5_run_74 rfl rfl ?_
            refine v_iald 77 hF dX5_run_76 rfl (hs.2.2.2.2.2.1) ?_
            refine v_goto 101 hF dX5_run_77 (by decide) ?_
            refine VR.pick [1] rfl ?_
            exact v_X5_run_J101 hF hs ((M10 5 y11.toNatClampNeg)) M10
        · refine v_aload_n 1 54 hF dX5_run_53 rfl rfl rfl ?_
          refine v_getR (b := 5) 57 hF dX5_run_54 rfl fl_X5_29 hs.1 rfl ?_
          refine v_iload 0 59 hF dX5_run_57 rfl rfl ?_
          refine v_iconst (3) 60 hF dX5_run_59 rfl (by decide) ?_
          refine v_iadd 61 hF dX5_run_60 rfl ?_
          refine v_iald 62 hF dX5_run_61 rfl (hs.2.2.2.2.2.1) ?_
          refine v_goto 101 hF dX5_run_62 (by decide) ?_
          refine VR.pick [1] rfl ?_
          exact v_X5_run_J101 hF hs ((M10 5 ((y11 + (3 : Int32))).toNatClampNeg)) M10
      · refine v_bipush (-2) 34 hF dX5_run_32 rfl (by decide) ?_
        exact v_iret hF dX5_run_34
abbrev rmX5_comes : Room := { frames := 70, cells := 0, slots := 0, locals := 3114 }
def m_X5_comes_J47 (x2 : Int32) (M : Mm) : Option (Int32 × Mm) := bd (m_X5_laysBack M) fun _ M1 => if x2 ≤ (60 : Int32) then (some (x2, M1)) else (some ((-1 : Int32), M1))
def m_X5_comes_B17 (n17 : Int32 → Int32 → Mm → Option (Int32 × Mm)) (x1 : Int32) (x2 : Int32) (M : Mm) : Option (Int32 × Mm) := if (60 : Int32) < x2 then (m_X5_comes_J47 x2 M) else (gd (inr ((((5 : Int32) * x1) + (3 : Int32))) 40) (if (M 5 ((((5 : Int32) * x1) + (3 : Int32))).toNatClampNeg) = (-1 : Int32) then (m_X5_comes_J47 x2 M) else (bd (m_X5_passes M) fun _ M2 => lt1 (x2 + 1) fun y3 => n17 x1 y3 M2)))
def m_X5_comes_L17 : Nat → Int32 → Int32 → Mm → Option (Int32 × Mm)
  | 0 => fun _ _ _ => none
  | n + 1 => m_X5_comes_B17  (m_X5_comes_L17  n)
def m_X5_comes (x1 : Int32) (M : Mm) : Option (Int32 × Mm) := bd (m_X5_isLetter x1 M) fun r5 M4 => if r5 = 0 then (some ((-2 : Int32), M4)) else (bd (m_X5_laysAside M4) fun _ M6 => lt1 ((0 : Int32)) fun y7 => m_X5_comes_L17 FU x1 y7 M6)
set_option maxRecDepth 100000 in
set_option maxHeartbeats 4000000 in
theorem v_X5_comes_J47 {X : Cx} {G : Gx} {sh : List Sh} (hF : FX X G sh 3 cX5_comes (yX5_comes).cls (some .int) rmX5_comes) (hs : ModAt sh) : ∀ (x2 : Int32) (M : Mm), VR X G sh 3 rvI M 47 [(0, .ref (G.2.2.2.2 0)), (2, .int x2)] [] (m_X5_comes_J47  x2 M) := by
  intro x2 M
  unfold m_X5_comes_J47
  refine v_aload_n 0 48 hF dX5_comes_47 rfl rfl rfl ?_
  refine v_callV ([]) ([]) 51 hF dX5_comes_48 rfl cw_X5_291 rfl (hs.1) (c_X5_laysBack (G := G) hs M) ⟨rfl, rfl, Nat.le_of_ble_eq_true rfl, Nat.le_of_ble_eq_true rfl⟩ rfl rfl (Nat.le_of_ble_eq_true rfl) (fun _ M1 => ?_)
  refine v_iload_n 1 52 hF dX5_comes_51 rfl rfl rfl ?_
  refine v_bipush (60) 54 hF dX5_comes_52 rfl (by decide) ?_
  refine v_icmp_le 57 61 hF dX5_comes_54 rfl (by decide) (fun _ => ?_) (fun _ => ?_)
  · refine v_iload_n 1 62 hF dX5_comes_61 rfl rfl rfl ?_
    exact v_iret hF dX5_comes_62
  · refine v_iconst (-1) 58 hF dX5_comes_57 rfl (by decide) ?_
    refine v_goto 62 hF dX5_comes_58 (by decide) ?_
    exact v_iret hF dX5_comes_62
set_option maxRecDepth 100000 in
set_option maxHeartbeats 4000000 in
theorem v_X5_comes_B17 {X : Cx} {G : Gx} {sh : List Sh} (hF : FX X G sh 3 cX5_comes (yX5_comes).cls (some .int) rmX5_comes) (hs : ModAt sh) (n17 : Int32 → Int32 → Mm → Option (Int32 × Mm)) (h17 : ∀ (x1 : Int32) (x2 : Int32) (M : Mm), VR X G sh 3 rvI M 17 [(0, .ref (G.2.2.2.2 0)), (1, .int x1), (2, .int x2)] [] (n17 x1 x2 M)) : ∀ (x1 : Int32) (x2 : Int32) (M : Mm), VR X G sh 3 rvI M 17 [(0, .ref (G.2.2.2.2 0)), (1, .int x1), (2, .int x2)] [] (m_X5_comes_B17  n17 x1 x2 M) := by
  intro x1 x2 M
  unfold m_X5_comes_B17
  refine v_iload_n 2 18 hF dX5_comes_17 rfl rfl rfl ?_
  refine v_bipush (60) 20 hF dX5_comes_18 rfl (by decide) ?_
  refine v_icmp_gt 23 47 hF dX5_comes_20 rfl (by decide) (fun _ => ?_) (fun _ => ?_)
  · refine VR.pick [0, 2] rfl ?_
    exact v_X5_comes_J47 hF hs x2 M
  · refine v_aload_n 0 24 hF dX5_comes_23 rfl rfl rfl ?_
    refine v_getR (b := 5) 27 hF dX5_comes_24 rfl fl_X5_29 hs.1 rfl ?_
    refine v_iconst (5) 28 hF dX5_comes_27 rfl (by decide) ?_
    refine v_iload_n 1 29 hF dX5_comes_28 rfl rfl rfl ?_
    refine v_imul 30 hF dX5_comes_29 rfl ?_
    refine v_iconst (3) 31 hF dX5_comes_30 rfl (by decide) ?_
    refine v_iadd 32 hF dX5_comes_31 rfl ?_
    refine v_iald 33 hF dX5_comes_32 rfl (hs.2.2.2.2.2.1) ?_
    refine v_iconst (-1) 34 hF dX5_comes_33 rfl (by decide) ?_
    refine v_icmp_eq 37 47 hF dX5_comes_34 rfl (by decide) (fun _ => ?_) (fun _ => ?_)
    · refine VR.pick [0, 2] rfl ?_
      exact v_X5_comes_J47 hF hs x2 M
    · refine v_aload_n 0 38 hF dX5_comes_37 rfl rfl rfl ?_
      refine v_callV ([]) ([]) 41 hF dX5_comes_38 rfl cw_X5_279 rfl (hs.1) (c_X5_passes (G := G) hs M) ⟨rfl, rfl, Nat.le_of_ble_eq_true rfl, Nat.le_of_ble_eq_true rfl⟩ rfl rfl (Nat.le_of_ble_eq_true rfl) (fun _ M2 => ?_)
      refine v_iinc (v := (x2 + 1)) (lo' := fun y3 => [(2, .int y3), (0, .ref (G.2.2.2.2 0)), (1, .int x1)]) 2 44 hF dX5_comes_41 rfl rfl rfl (by decide) (fun _ => rfl) (fun y3 => ?_)
      refine v_goto 17 hF dX5_comes_44 (by decide) ?_
      refine VR.pick [1, 2, 0] rfl ?_
      exact h17 x1 y3 M2
theorem v_X5_comes_L17 {X : Cx} {G : Gx} {sh : List Sh} (hF : FX X G sh 3 cX5_comes (yX5_comes).cls (some .int) rmX5_comes) (hs : ModAt sh) : ∀ (n : Nat), ∀ (x1 : Int32) (x2 : Int32) (M : Mm), VR X G sh 3 rvI M 17 [(0, .ref (G.2.2.2.2 0)), (1, .int x1), (2, .int x2)] [] (m_X5_comes_L17  n x1 x2 M) := by
  intro n
  induction n with
  | zero => intro x1 x2 M; exact VR.none
  | succ n ih => exact v_X5_comes_B17 hF hs _ ih
set_option maxRecDepth 100000 in
set_option maxHeartbeats 4000000 in
theorem c_X5_comes {G : Gx} {sh : List Sh} (hs : ModAt sh) (M : Mm) (x1 : Int32) : CT yX5_comes cX5_comes 3 (some .int) rmX5_comes G sh [.ref (G.2.2.2.2 0), .int x1] rvI M (m_X5_comes  x1 M) := by
  refine CT.of (by decide +kernel) (Nat.le_of_ble_eq_true rfl) (fun X hF => ?_)
  show VR X G sh 3 rvI M 0 [(0, .ref (G.2.2.2.2 0)), (1, .int x1)] [] _
  unfold m_X5_comes
  refine v_aload_n 0 1 hF dX5_comes_0 rfl rfl rfl ?_
  refine v_iload_n 1 2 hF dX5_comes_1 rfl rfl rfl ?_
  refine v_callI ([.int x1]) ([]) 5 hF dX5_comes_2 rfl cw_X5_87 rfl (hs.1) (c_X5_isLetter (G := G) hs M x1) ⟨rfl, rfl, Nat.le_of_ble_eq_true rfl, Nat.le_of_ble_eq_true rfl⟩ rfl rfl (Nat.le_of_ble_eq_true rfl) (fun r5 M4 => ?_)
  refine v_if_ne 8 11 hF dX5_comes_5 rfl (by decide) (fun _ => ?_) (fun _ => ?_)
  · refine v_aload_n 0 12 hF dX5_comes_11 rfl rfl rfl ?_
    refine v_callV ([]) ([]) 15 hF dX5_comes_12 rfl cw_X5_282 rfl (hs.1) (c_X5_laysAside (G := G) hs M4) ⟨rfl, rfl, Nat.le_of_ble_eq_true rfl, Nat.le_of_ble_eq_true rfl⟩ rfl rfl (Nat.le_of_ble_eq_true rfl) (fun _ M6 => ?_)
    refine v_iconst (0) 16 hF dX5_comes_15 rfl (by decide) ?_
    refine v_istore_n (lo' := fun y7 => [(2, .int y7), (0, .ref (G.2.2.2.2 0)), (1, .int x1)]) 17 hF dX5_comes_16 rfl rfl (by decide) (fun _ => rfl) (fun y7 => ?_)
    refine VR.pick [1, 2, 0] rfl ?_
    exact v_X5_comes_L17 hF hs FU x1 y7 M6
  · refine v_bipush (-2) 10 hF dX5_comes_8 rfl (by decide) ?_
    exact v_iret hF dX5_comes_10
abbrev rmX5_homeBySlip : Room := { frames := 71, cells := 0, slots := 0, locals := 3136 }
def m_X5_homeBySlip_J67 (n6 : Int32 → Int32 → Int32 → Mm → Option (Int32 × Mm)) (x1 : Int32) (x2 : Int32) (x3 : Int32) (s0 : Int32) (s1 : Int32) (M : Mm) : Option (Int32 × Mm) := gd (inr s1 40) (lt1 (up M 5 s1.toNatClampNeg s0) fun M1 => lt1 (x3 + 1) fun y2 => n6 x1 x2 y2 M1)
def m_X5_homeBySlip_B6 (n6 : Int32 → Int32 → Int32 → Mm → Option (Int32 × Mm)) (x1 : Int32) (x2 : Int32) (x3 : Int32) (M : Mm) : Option (Int32 × Mm) := if (M 0 12) ≤ x3 then (bd (m_X5_go x2 M) fun _ M3 => bd (m_X5_homeMany M3) fun r5 M4 => lt1 r5 fun y6 => bd (m_X5_laysBack M4) fun _ M7 => some (y6, M7)) else (lt1 (((5 : Int32) * x3)) fun y8 => gd (inr ((y8 + (3 : Int32))) 40) (if (M 5 ((y8 + (3 : Int32))).toNatClampNeg) = (-1 : Int32) then (m_X5_homeBySlip_J67 n6 x1 x2 x3 ((-1 : Int32)) ((y8 + (3 : Int32))) M) else (gd (inr ((y8 + (2 : Int32))) 40) (gd (inr ((((3 : Int32) * (M 5 ((y8 + (2 : Int32))).toNatClampNeg)) + (2 : Int32))) 15) (gd (!(decide ((8 : Int32) = 0))) (m_X5_homeBySlip_J67 n6 x1 x2 x3 ((irm (((M 4 ((((3 : Int32) * (M 5 ((y8 + (2 : Int32))).toNatClampNeg)) + (2 : Int32))).toNatClampNeg) + x1)) ((8 : Int32)))) ((y8 + (3 : Int32))) M))))))
def m_X5_homeBySlip_L6 : Nat → Int32 → Int32 → Int32 → Mm → Option (Int32 × Mm)
  | 0 => fun _ _ _ _ => none
  | n + 1 => m_X5_homeBySlip_B6  (m_X5_homeBySlip_L6  n)
def m_X5_homeBySlip (x1 : Int32) (x2 : Int32) (M : Mm) : Option (Int32 × Mm) := bd (m_X5_laysAside M) fun _ M9 => lt1 ((0 : Int32)) fun y10 => m_X5_homeBySlip_L6 FU x1 x2 y10 M9
set_option maxRecDepth 100000 in
set_option maxHeartbeats 4000000 in
theorem v_X5_homeBySlip_J67 {X : Cx} {G : Gx} {sh : List Sh} (hF : FX X G sh 5 cX5_homeBySlip (yX5_homeBySlip).cls (some .int) rmX5_homeBySlip) (hs : ModAt sh) (n6 : Int32 → Int32 → Int32 → Mm → Option (Int32 × Mm)) (h6 : ∀ (x1 : Int32) (x2 : Int32) (x3 : Int32) (M : Mm), VR X G sh 5 rvI M 6 [(0, .ref (G.2.2.2.2 0)), (1, .int x1), (2, .int x2), (3, .int x3)] [] (n6 x1 x2 x3 M)) : ∀ (x1 : Int32) (x2 : Int32) (x3 : Int32) (s0 : Int32) (s1 : Int32) (M : Mm), VR X G sh 5 rvI M 67 [(0, .ref (G.2.2.2.2 0)), (1, .int x1), (2, .int x2), (3, .int x3)] [.int s0, .int s1, .ref (G.2.2.2.2 5)] (m_X5_homeBySlip_J67  n6 x1 x2 x3 s0 s1 M) := by
  intro x1 x2 x3 s0 s1 M
  unfold m_X5_homeBySlip_J67
  refine v_iast 68 hF dX5_homeBySlip_67 rfl (hs.2.2.2.2.2.1) (fun M1 => ?_)
  refine v_iinc (v := (x3 + 1)) (lo' := fun y2 => [(3, .int y2), (0, .ref (G.2.2.2.2 0)), (1, .int x1), (2, .int x2)]) 3 71 hF dX5_homeBySlip_68 rfl rfl rfl (by decide) (fun _ => rfl) (fun y2 => ?_)
  refine v_goto 6 hF dX5_homeBySlip_71 (by decide) ?_
  refine VR.pick [1, 2, 3, 0] rfl ?_
  exact h6 x1 x2 y2 M1
set_option maxRecDepth 100000 in
set_option maxHeartbeats 4000000 in
theorem v_X5_homeBySlip_B6 {X : Cx} {G : Gx} {sh : List Sh} (hF : FX X G sh 5 cX5_homeBySlip (yX5_homeBySlip).cls (some .int) rmX5_homeBySlip) (hs : ModAt sh) (n6 : Int32 → Int32 → Int32 → Mm → Option (Int32 × Mm)) (h6 : ∀ (x1 : Int32) (x2 : Int32) (x3 : Int32) (M : Mm), VR X G sh 5 rvI M 6 [(0, .ref (G.2.2.2.2 0)), (1, .int x1), (2, .int x2), (3, .int x3)] [] (n6 x1 x2 x3 M)) : ∀ (x1 : Int32) (x2 : Int32) (x3 : Int32) (M : Mm), VR X G sh 5 rvI M 6 [(0, .ref (G.2.2.2.2 0)), (1, .int x1), (2, .int x2), (3, .int x3)] [] (m_X5_homeBySlip_B6  n6 x1 x2 x3 M) := by
  intro x1 x2 x3 M
  unfold m_X5_homeBySlip_B6
  refine v_iload_n 3 7 hF dX5_homeBySlip_6 rfl rfl rfl ?_
  refine v_aload_n 0 8 hF dX5_homeBySlip_7 rfl rfl rfl ?_
  refine v_getI 11 hF dX5_homeBySlip_8 rfl fl_X5_80 hs.1 rfl ?_
  refine v_icmp_ge 14 74 hF dX5_homeBySlip_11 rfl (by decide) (fun _ => ?_) (fun _ => ?_)
  · refine v_aload_n 0 75 hF dX5_homeBySlip_74 rfl rfl rfl ?_
    refine v_iload_n 2 76 hF dX5_homeBySlip_75 rfl rfl rfl ?_
    refine v_callV ([.int x2]) ([]) 79 hF dX5_homeBySlip_76 rfl cw_X5_285 rfl (hs.1) (c_X5_go (G := G) hs M x2) ⟨rfl, rfl, Nat.le_of_ble_eq_true rfl, Nat.le_of_ble_eq_true rfl⟩ rfl rfl (Nat.le_of_ble_eq_true rfl) (fun _ M3 => ?_)
    refine v_aload_n 0 80 hF dX5_homeBySlip_79 rfl rfl rfl ?_
    refine v_callI ([]) ([]) 83 hF dX5_homeBySlip_80 rfl cw_X5_288 rfl (hs.1) (c_X5_homeMany (G := G) hs M3) ⟨rfl, rfl, Nat.le_of_ble_eq_true rfl, Nat.le_of_ble_eq_true rfl⟩ rfl rfl (Nat.le_of_ble_eq_true rfl) (fun r5 M4 => ?_)
    refine v_istore_n (lo' := fun y6 => [(3, .int y6), (0, .ref (G.2.2.2.2 0)), (1, .int x1), (2, .int x2)]) 84 hF dX5_homeBySlip_83 rfl rfl (by decide) (fun _ => rfl) (fun y6 => ?_)
    refine v_aload_n 1 85 hF dX5_homeBySlip_84 rfl rfl rfl ?_
    refine v_callV ([]) ([]) 88 hF dX5_homeBySlip_85 rfl cw_X5_291 rfl (hs.1) (c_X5_laysBack (G := G) hs M4) ⟨rfl, rfl, Nat.le_of_ble_eq_true rfl, Nat.le_of_ble_eq_true rfl⟩ rfl rfl (Nat.le_of_ble_eq_true rfl) (fun _ M7 => ?_)
    refine v_iload_n 0 89 hF dX5_homeBySlip_88 rfl rfl rfl ?_
    exact v_iret hF dX5_homeBySlip_89
  · refine v_iconst (5) 15 hF dX5_homeBySlip_14 rfl (by decide) ?_
    refine v_iload_n 3 16 hF dX5_homeBySlip_15 rfl rfl rfl ?_
    refine v_imul 17 hF dX5_homeBySlip_16 rfl ?_
    refine v_istore (lo' := fun y8 => [(4, .int y8), (0, .ref (G.2.2.2.2 0)), (1, .int x1), (2, .int x2), (3, .int x3)]) 19 hF dX5_homeBySlip_17 rfl (by decide) (fun _ => rfl) (fun y8 => ?_)
    refine v_aload_n 1 20 hF dX5_homeBySlip_19 rfl rfl rfl ?_
    refine v_getR (b := 5) 23 hF dX5_homeBySlip_20 rfl fl_X5_29 hs.1 rfl ?_
    refine v_iload 0 25 hF dX5_homeBySlip_23 rfl rfl ?_
    refine v_iconst (3) 26 hF dX5_homeBySlip_25 rfl (by decide) ?_
    refine v_iadd 27 hF dX5_homeBySlip_26 rfl ?_
    refine v_aload_n 1 28 hF dX5_homeBySlip_27 rfl rfl rfl ?_
    refine v_getR (b := 5) 31 hF dX5_homeBySlip_28 rfl fl_X5_29 hs.1 rfl ?_
    refine v_iload 0 33 hF dX5_homeBySlip_31 rfl rfl ?_
    refine v_iconst (3) 34 hF dX5_homeBySlip_33 rfl (by decide) ?_
    refine v_iadd 35 hF dX5_homeBySlip_34 rfl ?_
    refine v_iald 36 hF dX5_homeBySlip_35 rfl (hs.2.2.2.2.2.1) ?_
    refine v_iconst (-1) 37 hF dX5_homeBySlip_36 rfl (by decide) ?_
    refine v_icmp_ne 40 44 hF dX5_homeBySlip_37 rfl (by decide) (fun _ => ?_) (fun _ => ?_)
    · refine v_aload_n 1 45 hF dX5_homeBySlip_44 rfl rfl rfl ?_
      refine v_getR (b := 4) 48 hF dX5_homeBySlip_45 rfl fl_X5_26 hs.1 rfl ?_
      refine v_iconst (3) 49 hF dX5_homeBySlip_48 rfl (by decide) ?_
      refine v_aload_n 1 50 hF dX5_homeBySlip_49 rfl rfl rfl ?_
      refine v_getR (b := 5) 53 hF dX5_homeBySlip_50 rfl fl_X5_29 hs.1 rfl ?_
      refine v_iload 0 55 hF dX5_homeBySlip_53 rfl rfl ?_
      refine v_iconst (2) 56 hF dX5_homeBySlip_55 rfl (by decide) ?_
      refine v_iadd 57 hF dX5_homeBySlip_56 rfl ?_
      refine v_iald 58 hF dX5_homeBySlip_57 rfl (hs.2.2.2.2.2.1) ?_
      refine v_imul 59 hF dX5_homeBySlip_58 rfl ?_
      refine v_iconst (2) 60 hF dX5_homeBySlip_59 rfl (by decide) ?_
      refine v_iadd 61 hF dX5_homeBySlip_60 rfl ?_
      refine v_iald 62 hF dX5_homeBySlip_61 rfl (hs.2.2.2.2.1) ?_
      refine v_iload_n 2 63 hF dX5_homeBySlip_62 rfl rfl rfl ?_
      refine v_iadd 64 hF dX5_homeBySlip_63 rfl ?_
      refine v_bipush (8) 66 hF dX5_homeBySlip_64 rfl (by decide) ?_
      refine v_irem 67 hF dX5_homeBySlip_66 rfl ?_
      refine VR.pick [1, 2, 3, 4] rfl ?_
      exact v_X5_homeBySlip_J67 hF hs _ h6 x1 x2 x3 ((irm (((M 4 ((((3 : Int32) * (M 5 ((y8 + (2 : Int32))).toNatClampNeg)) + (2 : Int32))).toNatClampNeg) + x1)) ((8 : Int32)))) ((y8 + (3 : Int32))) M
    · refine v_iconst (-1) 41 hF dX5_homeBySlip_40 rfl (by decide) ?_
      refine v_goto 67 hF dX5_homeBySlip_41 (by decide) ?_
      refine VR.pick [1, 2, 3, 4] rfl ?_
      exact v_X5_homeBySlip_J67 hF hs _ h6 x1 x2 x3 ((-1 : Int32)) ((y8 + (3 : Int32))) M
theorem v_X5_homeBySlip_L6 {X : Cx} {G : Gx} {sh : List Sh} (hF : FX X G sh 5 cX5_homeBySlip (yX5_homeBySlip).cls (some .int) rmX5_homeBySlip) (hs : ModAt sh) : ∀ (n : Nat), ∀ (x1 : Int32) (x2 : Int32) (x3 : Int32) (M : Mm), VR X G sh 5 rvI M 6 [(0, .ref (G.2.2.2.2 0)), (1, .int x1), (2, .int x2), (3, .int x3)] [] (m_X5_homeBySlip_L6  n x1 x2 x3 M) := by
  intro n
  induction n with
  | zero => intro x1 x2 x3 M; exact VR.none
  | succ n ih => exact v_X5_homeBySlip_B6 hF hs _ ih
set_option maxRecDepth 100000 in
set_option maxHeartbeats 4000000 in
theorem c_X5_homeBySlip {G : Gx} {sh : List Sh} (hs : ModAt sh) (M : Mm) (x1 : Int32) (x2 : Int32) : CT yX5_homeBySlip cX5_homeBySlip 5 (some .int) rmX5_homeBySlip G sh [.ref (G.2.2.2.2 0), .int x1, .int x2] rvI M (m_X5_homeBySlip  x1 x2 M) := by
  refine CT.of (by decide +kernel) (Nat.le_of_ble_eq_true rfl) (fun X hF => ?_)
  show VR X G sh 5 rvI M 0 [(0, .ref (G.2.2.2.2 0)), (1, .int x1), (2, .int x2)] [] _
  unfold m_X5_homeBySlip
  refine v_aload_n 0 1 hF dX5_homeBySlip_0 rfl rfl rfl ?_
  refine v_callV ([]) ([]) 4 hF dX5_homeBySlip_1 rfl cw_X5_282 rfl (hs.1) (c_X5_laysAside (G := G) hs M) ⟨rfl, rfl, Nat.le_of_ble_eq_true rfl, Nat.le_of_ble_eq_true rfl⟩ rfl rfl (Nat.le_of_ble_eq_true rfl) (fun _ M9 => ?_)
  refine v_iconst (0) 5 hF dX5_homeBySlip_4 rfl (by decide) ?_
  refine v_istore_n (lo' := fun y10 => [(3, .int y10), (0, .ref (G.2.2.2.2 0)), (1, .int x1), (2, .int x2)]) 6 hF dX5_homeBySlip_5 rfl rfl (by decide) (fun _ => rfl) (fun y10 => ?_)
  refine VR.pick [1, 2, 3, 0] rfl ?_
  exact v_X5_homeBySlip_L6 hF hs FU x1 x2 y10 M9
abbrev rmX5_mistake : Room := { frames := 72, cells := 0, slots := 0, locals := 3160 }
def m_X5_mistake_J63 (n33 : Int32 → Int32 → Int32 → Int32 → Int32 → Mm → Option (Int32 × Mm)) (x1 : Int32) (x2 : Int32) (x3 : Int32) (x4 : Int32) (x5 : Int32) (M : Mm) : Option (Int32 × Mm) := lt1 (x5 + 1) fun y1 => n33 x1 x2 x3 x4 y1 M
def m_X5_mistake_B33 (n33 : Int32 → Int32 → Int32 → Int32 → Int32 → Mm → Option (Int32 × Mm)) (x1 : Int32) (x2 : Int32) (x3 : Int32) (x4 : Int32) (x5 : Int32) (M : Mm) : Option (Int32 × Mm) := if (8 : Int32) ≤ x5 then (if x2 = 0 then (some (x3, M)) else (some (x4, M))) else (bd (m_X5_homeBySlip x5 x1 M) fun r3 M2 => lt1 r3 fun y4 => if y4 ≤ x4 then (m_X5_mistake_J63 n33 x1 x2 x3 x4 x5 M2) else (lt1 x5 fun y5 => lt1 y4 fun y6 => m_X5_mistake_J63 n33 x1 x2 y5 y6 x5 M2))
def m_X5_mistake_L33 : Nat → Int32 → Int32 → Int32 → Int32 → Int32 → Mm → Option (Int32 × Mm)
  | 0 => fun _ _ _ _ _ _ => none
  | n + 1 => m_X5_mistake_B33  (m_X5_mistake_L33  n)
def m_X5_mistake (x1 : Int32) (x2 : Int32) (M : Mm) : Option (Int32 × Mm) := bd (m_X5_in (((x1).toInt64)) ((0 : Int64)) ((40 : Int64)) M) fun r8 M7 => if r8 = 0 then (some ((-2 : Int32), M7)) else (bd (m_X5_in (((x2).toInt64)) ((0 : Int64)) ((1 : Int64)) M7) fun r10 M9 => if r10 = 0 then (some ((-2 : Int32), M9)) else (lt1 ((0 : Int32)) fun y11 => lt1 ((-1 : Int32)) fun y12 => lt1 ((0 : Int32)) fun y13 => m_X5_mistake_L33 FU x1 x2 y11 y12 y13 M9))
set_option maxRecDepth 100000 in
set_option maxHeartbeats 4000000 in
theorem v_X5_mistake_J63 {X : Cx} {G : Gx} {sh : List Sh} (hF : FX X G sh 7 cX5_mistake (yX5_mistake).cls (some .int) rmX5_mistake) (hs : ModAt sh) (n33 : Int32 → Int32 → Int32 → Int32 → Int32 → Mm → Option (Int32 × Mm)) (h33 : ∀ (x1 : Int32) (x2 : Int32) (x3 : Int32) (x4 : Int32) (x5 : Int32) (M : Mm), VR X G sh 7 rvI M 33 [(0, .ref (G.2.2.2.2 0)), (1, .int x1), (2, .int x2), (3, .int x3), (4, .int x4), (5, .int x5)] [] (n33 x1 x2 x3 x4 x5 M)) : ∀ (x1 : Int32) (x2 : Int32) (x3 : Int32) (x4 : Int32) (x5 : Int32) (M : Mm), VR X G sh 7 rvI M 63 [(0, .ref (G.2.2.2.2 0)), (1, .int x1), (2, .int x2), (3, .int x3), (4, .int x4), (5, .int x5)] [] (m_X5_mistake_J63  n33 x1 x2 x3 x4 x5 M) := by
  intro x1 x2 x3 x4 x5 M
  unfold m_X5_mistake_J63
  refine v_iinc (v := (x5 + 1)) (lo' := fun y1 => [(5, .int y1), (0, .ref (G.2.2.2.2 0)), (1, .int x1), (2, .int x2), (3, .int x3), (4, .int x4)]) 5 66 hF dX5_mistake_63 rfl rfl rfl (by decide) (fun _ => rfl) (fun y1 => ?_)
  refine v_goto 33 hF dX5_mistake_66 (by decide) ?_
  refine VR.pick [1, 2, 3, 4, 5, 0] rfl ?_
  exact h33 x1 x2 x3 x4 y1 M
set_option maxRecDepth 100000 in
set_option maxHeartbeats 4000000 in
theorem v_X5_mistake_B33 {X : Cx} {G : Gx} {sh : List Sh} (hF : FX X G sh 7 cX5_mistake (yX5_mistake).cls (some .int) rmX5_mistake) (hs : ModAt sh) (n33 : Int32 → Int32 → Int32 → Int32 → Int32 → Mm → Option (Int32 × Mm)) (h33 : ∀ (x1 : Int32) (x2 : Int32) (x3 : Int32) (x4 : Int32) (x5 : Int32) (M : Mm), VR X G sh 7 rvI M 33 [(0, .ref (G.2.2.2.2 0)), (1, .int x1), (2, .int x2), (3, .int x3), (4, .int x4), (5, .int x5)] [] (n33 x1 x2 x3 x4 x5 M)) : ∀ (x1 : Int32) (x2 : Int32) (x3 : Int32) (x4 : Int32) (x5 : Int32) (M : Mm), VR X G sh 7 rvI M 33 [(0, .ref (G.2.2.2.2 0)), (1, .int x1), (2, .int x2), (3, .int x3), (4, .int x4), (5, .int x5)] [] (m_X5_mistake_B33  n33 x1 x2 x3 x4 x5 M) := by
  intro x1 x2 x3 x4 x5 M
  unfold m_X5_mistake_B33
  refine v_iload 5 35 hF dX5_mistake_33 rfl rfl ?_
  refine v_bipush (8) 37 hF dX5_mistake_35 rfl (by decide) ?_
  refine v_icmp_ge 40 69 hF dX5_mistake_37 rfl (by decide) (fun _ => ?_) (fun _ => ?_)
  · refine v_iload_n 2 70 hF dX5_mistake_69 rfl rfl rfl ?_
    refine v_if_ne 73 77 hF dX5_mistake_70 rfl (by decide) (fun _ => ?_) (fun _ => ?_)
    · refine v_iload 4 79 hF dX5_mistake_77 rfl rfl ?_
      exact v_iret hF dX5_mistake_79
    · refine v_iload_n 3 74 hF dX5_mistake_73 rfl rfl rfl ?_
      refine v_goto 79 hF dX5_mistake_74 (by decide) ?_
      exact v_iret hF dX5_mistake_79
  · refine v_aload_n 0 41 hF dX5_mistake_40 rfl rfl rfl ?_
    refine v_iload 5 43 hF dX5_mistake_41 rfl rfl ?_
    refine v_iload_n 1 44 hF dX5_mistake_43 rfl rfl rfl ?_
    refine v_callI ([.int x5, .int x1]) ([]) 47 hF dX5_mistake_44 rfl cw_X5_296 rfl (hs.1) (c_X5_homeBySlip (G := G) hs M x5 x1) ⟨rfl, rfl, Nat.le_of_ble_eq_true rfl, Nat.le_of_ble_eq_true rfl⟩ rfl rfl (Nat.le_of_ble_eq_true rfl) (fun r3 M2 => ?_)
    refine v_istore (lo' := fun y4 => [(6, .int y4), (0, .ref (G.2.2.2.2 0)), (1, .int x1), (2, .int x2), (3, .int x3), (4, .int x4), (5, .int x5)]) 49 hF dX5_mistake_47 rfl (by decide) (fun _ => rfl) (fun y4 => ?_)
    refine v_iload 0 51 hF dX5_mistake_49 rfl rfl ?_
    refine v_iload 5 53 hF dX5_mistake_51 rfl rfl ?_
    refine v_icmp_le 56 63 hF dX5_mistake_53 rfl (by decide) (fun _ => ?_) (fun _ => ?_)
    · refine VR.pick [1, 2, 3, 4, 5, 6] rfl ?_
      exact v_X5_mistake_J63 hF hs _ h33 x1 x2 x3 x4 x5 M2
    · refine v_iload 6 58 hF dX5_mistake_56 rfl rfl ?_
      refine v_istore_n (lo' := fun y5 => [(3, .int y5), (6, .int y4), (0, .ref (G.2.2.2.2 0)), (1, .int x1), (2, .int x2), (4, .int x4), (5, .int x5)]) 59 hF dX5_mistake_58 rfl rfl (by decide) (fun _ => rfl) (fun y5 => ?_)
      refine v_iload 1 61 hF dX5_mistake_59 rfl rfl ?_
      refine v_istore (lo' := fun y6 => [(4, .int y6), (3, .int y5), (6, .int y4), (0, .ref (G.2.2.2.2 0)), (1, .int x1), (2, .int x2), (5, .int x5)]) 63 hF dX5_mistake_61 rfl (by decide) (fun _ => rfl) (fun y6 => ?_)
      refine VR.pick [3, 4, 5, 1, 0, 6] rfl ?_
      exact v_X5_mistake_J63 hF hs _ h33 x1 x2 y5 y6 x5 M2
theorem v_X5_mistake_L33 {X : Cx} {G : Gx} {sh : List Sh} (hF : FX X G sh 7 cX5_mistake (yX5_mistake).cls (some .int) rmX5_mistake) (hs : ModAt sh) : ∀ (n : Nat), ∀ (x1 : Int32) (x2 : Int32) (x3 : Int32) (x4 : Int32) (x5 : Int32) (M : Mm), VR X G sh 7 rvI M 33 [(0, .ref (G.2.2.2.2 0)), (1, .int x1), (2, .int x2), (3, .int x3), (4, .int x4), (5, .int x5)] [] (m_X5_mistake_L33  n x1 x2 x3 x4 x5 M) := by
  intro n
  induction n with
  | zero => intro x1 x2 x3 x4 x5 M; exact VR.none
  | succ n ih => exact v_X5_mistake_B33 hF hs _ ih
set_option maxRecDepth 100000 in
set_option maxHeartbeats 4000000 in
theorem c_X5_mistake {G : Gx} {sh : List Sh} (hs : ModAt sh) (M : Mm) (x1 : Int32) (x2 : Int32) : CT yX5_mistake cX5_mistake 7 (some .int) rmX5_mistake G sh [.ref (G.2.2.2.2 0), .int x1, .int x2] rvI M (m_X5_mistake  x1 x2 M) := by
  refine CT.of (by decide +kernel) (Nat.le_of_ble_eq_true rfl) (fun X hF => ?_)
  show VR X G sh 7 rvI M 0 [(0, .ref (G.2.2.2.2 0)), (1, .int x1), (2, .int x2)] [] _
  unfold m_X5_mistake
  refine v_iload_n 1 1 hF dX5_mistake_0 rfl rfl rfl ?_
  refine v_i2l 2 hF dX5_mistake_1 rfl ?_
  refine v_lconst 0 3 hF dX5_mistake_2 rfl (by decide) ?_
  refine v_ldc2 (40) 6 hF dX5_mistake_3 rfl cc_X5_294 ?_
  refine v_staI ([.long (((x1).toInt64)), .long ((0 : Int64)), .long ((40 : Int64))]) ([]) 9 hF dX5_mistake_6 rfl cw_X5_76 (c_X5_in (G := G) (sh := sh) M (((x1).toInt64)) ((0 : Int64)) ((40 : Int64))) ⟨rfl, rfl, Nat.le_of_ble_eq_true rfl, Nat.le_of_ble_eq_true rfl⟩ rfl rfl (Nat.le_of_ble_eq_true rfl) (fun r8 M7 => ?_)
  refine v_if_eq 12 22 hF dX5_mistake_9 rfl (by decide) (fun _ => ?_) (fun _ => ?_)
  · refine v_bipush (-2) 24 hF dX5_mistake_22 rfl (by decide) ?_
    exact v_iret hF dX5_mistake_24
  · refine v_iload_n 2 13 hF dX5_mistake_12 rfl rfl rfl ?_
    refine v_i2l 14 hF dX5_mistake_13 rfl ?_
    refine v_lconst 0 15 hF dX5_mistake_14 rfl (by decide) ?_
    refine v_lconst 1 16 hF dX5_mistake_15 rfl (by decide) ?_
    refine v_staI ([.long (((x2).toInt64)), .long ((0 : Int64)), .long ((1 : Int64))]) ([]) 19 hF dX5_mistake_16 rfl cw_X5_76 (c_X5_in (G := G) (sh := sh) M7 (((x2).toInt64)) ((0 : Int64)) ((1 : Int64))) ⟨rfl, rfl, Nat.le_of_ble_eq_true rfl, Nat.le_of_ble_eq_true rfl⟩ rfl rfl (Nat.le_of_ble_eq_true rfl) (fun r10 M9 => ?_)
    refine v_if_ne 22 25 hF dX5_mistake_19 rfl (by decide) (fun _ => ?_) (fun _ => ?_)
    · refine v_iconst (0) 26 hF dX5_mistake_25 rfl (by decide) ?_
      refine v_istore_n (lo' := fun y11 => [(3, .int y11), (0, .ref (G.2.2.2.2 0)), (1, .int x1), (2, .int x2)]) 27 hF dX5_mistake_26 rfl rfl (by decide) (fun _ => rfl) (fun y11 => ?_)
      refine v_iconst (-1) 28 hF dX5_mistake_27 rfl (by decide) ?_
      refine v_istore (lo' := fun y12 => [(4, .int y12), (3, .int y11), (0, .ref (G.2.2.2.2 0)), (1, .int x1), (2, .int x2)]) 30 hF dX5_mistake_28 rfl (by decide) (fun _ => rfl) (fun y12 => ?_)
      refine v_iconst (0) 31 hF dX5_mistake_30 rfl (by decide) ?_
      refine v_istore (lo' := fun y13 => [(5, .int y13), (4, .int y12), (3, .int y11), (0, .ref (G.2.2.2.2 0)), (1, .int x1), (2, .int x2)]) 33 hF dX5_mistake_31 rfl (by decide) (fun _ => rfl) (fun y13 => ?_)
      refine VR.pick [3, 4, 5, 2, 1, 0] rfl ?_
      exact v_X5_mistake_L33 hF hs FU x1 x2 y11 y12 y13 M9
    · refine v_bipush (-2) 24 hF dX5_mistake_22 rfl (by decide) ?_
      exact v_iret hF dX5_mistake_24
