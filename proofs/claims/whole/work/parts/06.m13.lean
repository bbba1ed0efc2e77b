abbrev rmX5_part : Room := { frames := 64, cells := 0, slots := 0, locals := 2974 }
def m_X5_part_J48 (x2 : Int32) (M : Mm) : Option (Int32 × Mm) := if (M 0 27) = 0 then (bd (m_X5_next M) fun _ M1 => some (x2, M1)) else (some (x2, M))
def m_X5_part_J34 (s0 : Int32) (M : Mm) : Option (Int32 × Mm) := lt1 s0 fun y2 => bd (m_X5_isSign ((59 : Int32)) M) fun r4 M3 => if r4 = 0 then (bd (m_X5_fail M3) fun _ M5 => m_X5_part_J48 y2 M5) else (m_X5_part_J48 y2 M3)
def m_X5_part_J19  (M : Mm) : Option (Int32 × Mm) := if (M 0 27) = 0 then (bd (m_X5_either M) fun r7 M6 => m_X5_part_J34 r7 M6) else (m_X5_part_J34 ((0 : Int32)) M)
def m_X5_part_J8  (M : Mm) : Option (Int32 × Mm) := if (M 0 27) = 0 then (bd (m_X5_next M) fun _ M8 => m_X5_part_J19 M8) else (m_X5_part_J19 M)
def m_X5_part (x1 : Int32) (M : Mm) : Option (Int32 × Mm) := if x1 = 0 then (bd (m_X5_fail M) fun _ M9 => m_X5_part_J8 M9) else (m_X5_part_J8 M)
set_option maxRecDepth 100000 in
set_option maxHeartbeats 4000000 in
theorem v_X5_part_J48 {X : Cx} {G : Gx} {sh : List Sh} (hF : FX X G sh 3 cX5_part (yX5_part).cls (some .int) rmX5_part) (hs : ModAt sh) : ∀ (x2 : Int32) (M : Mm), VR X G sh 3 rvI M 48 [(0, .ref (G.2.2.2.2 0)), (2, .int x2)] [] (m_X5_part_J48  x2 M) := by
  intro x2 M
  unfold m_X5_part_J48
  refine v_aload_n 0 49 hF dX5_part_48 rfl rfl rfl ?_
  refine v_getI 52 hF dX5_part_49 rfl fl_X5_166 hs.1 rfl ?_
  refine v_if_ne 55 59 hF dX5_part_52 rfl (by decide) (fun _ => ?_) (fun _ => ?_)
  · refine v_iload_n 1 60 hF dX5_part_59 rfl rfl rfl ?_
    exact v_iret hF dX5_part_60
  · refine v_aload_n 0 56 hF dX5_part_55 rfl rfl rfl ?_
    refine v_callV ([]) ([]) 59 hF dX5_part_56 rfl cw_X5_181 rfl (hs.1) (c_X5_next (G := G) hs M) ⟨rfl, rfl, Nat.le_of_ble_eq_true rfl, Nat.le_of_ble_eq_true rfl⟩ rfl rfl (Nat.le_of_ble_eq_true rfl) (fun _ M1 => ?_)
    refine v_iload_n 1 60 hF dX5_part_59 rfl rfl rfl ?_
    exact v_iret hF dX5_part_60
set_option maxRecDepth 100000 in
set_option maxHeartbeats 4000000 in
theorem v_X5_part_J34 {X : Cx} {G : Gx} {sh : List Sh} (hF : FX X G sh 3 cX5_part (yX5_part).cls (some .int) rmX5_part) (hs : ModAt sh) : ∀ (s0 : Int32) (M : Mm), VR X G sh 3 rvI M 34 [(0, .ref (G.2.2.2.2 0))] [.int s0] (m_X5_part_J34  s0 M) := by
  intro s0 M
  unfold m_X5_part_J34
  refine v_istore_n (lo' := fun y2 => [(2, .int y2), (0, .ref (G.2.2.2.2 0))]) 35 hF dX5_part_34 rfl rfl (by decide) (fun _ => rfl) (fun y2 => ?_)
  refine v_aload_n 1 36 hF dX5_part_35 rfl rfl rfl ?_
  refine v_bipush (59) 38 hF dX5_part_36 rfl (by decide) ?_
  refine v_callI ([.int ((59 : Int32))]) ([]) 41 hF dX5_part_38 rfl cw_X5_206 rfl (hs.1) (c_X5_isSign (G := G) hs M ((59 : Int32))) ⟨rfl, rfl, Nat.le_of_ble_eq_true rfl, Nat.le_of_ble_eq_true rfl⟩ rfl rfl (Nat.le_of_ble_eq_true rfl) (fun r4 M3 => ?_)
  refine v_if_ne 44 48 hF dX5_part_41 rfl (by decide) (fun _ => ?_) (fun _ => ?_)
  · refine VR.pick [1, 0] rfl ?_
    exact v_X5_part_J48 hF hs y2 M3
  · refine v_aload_n 1 45 hF dX5_part_44 rfl rfl rfl ?_
    refine v_callV ([]) ([]) 48 hF dX5_part_45 rfl cw_X5_178 rfl (hs.1) (c_X5_fail (G := G) hs M3) ⟨rfl, rfl, Nat.le_of_ble_eq_true rfl, Nat.le_of_ble_eq_true rfl⟩ rfl rfl (Nat.le_of_ble_eq_true rfl) (fun _ M5 => ?_)
    refine VR.pick [1, 0] rfl ?_
    exact v_X5_part_J48 hF hs y2 M5
set_option maxRecDepth 100000 in
set_option maxHeartbeats 4000000 in
theorem v_X5_part_J19 {X : Cx} {G : Gx} {sh : List Sh} (hF : FX X G sh 3 cX5_part (yX5_part).cls (some .int) rmX5_part) (hs : ModAt sh) : ∀ (M : Mm), VR X G sh 3 rvI M 19 [(0, .ref (G.2.2.2.2 0))] [] (m_X5_part_J19   M) := by
  intro  M
  unfold m_X5_part_J19
  refine v_aload_n 0 20 hF dX5_part_19 rfl rfl rfl ?_
  refine v_getI 23 hF dX5_part_20 rfl fl_X5_166 hs.1 rfl ?_
  refine v_if_eq 26 30 hF dX5_part_23 rfl (by decide) (fun _ => ?_) (fun _ => ?_)
  · refine v_aload_n 0 31 hF dX5_part_30 rfl rfl rfl ?_
    refine v_callI ([]) ([]) 34 hF dX5_part_31 rfl cw_X5_217 rfl (hs.1) (c_X5_either (G := G) hs M) ⟨rfl, rfl, Nat.le_of_ble_eq_true rfl, Nat.le_of_ble_eq_true rfl⟩ rfl rfl (Nat.le_of_ble_eq_true rfl) (fun r7 M6 => ?_)
    refine VR.pick [0] rfl ?_
    exact v_X5_part_J34 hF hs r7 M6
  · refine v_iconst (0) 27 hF dX5_part_26 rfl (by decide) ?_
    refine v_goto 34 hF dX5_part_27 (by decide) ?_
    refine VR.pick [0] rfl ?_
    exact v_X5_part_J34 hF hs ((0 : Int32)) M
set_option maxRecDepth 100000 in
set_option maxHeartbeats 4000000 in
theorem v_X5_part_J8 {X : Cx} {G : Gx} {sh : List Sh} (hF : FX X G sh 3 cX5_part (yX5_part).cls (some .int) rmX5_part) (hs : ModAt sh) : ∀ (M : Mm), VR X G sh 3 rvI M 8 [(0, .ref (G.2.2.2.2 0))] [] (m_X5_part_J8   M) := by
  intro  M
  unfold m_X5_part_J8
  refine v_aload_n 0 9 hF dX5_part_8 rfl rfl rfl ?_
  refine v_getI 12 hF dX5_part_9 rfl fl_X5_166 hs.1 rfl ?_
  refine v_if_ne 15 19 hF dX5_part_12 rfl (by decide) (fun _ => ?_) (fun _ => ?_)
  · refine VR.pick [0] rfl ?_
    exact v_X5_part_J19 hF hs M
  · refine v_aload_n 0 16 hF dX5_part_15 rfl rfl rfl ?_
    refine v_callV ([]) ([]) 19 hF dX5_part_16 rfl cw_X5_181 rfl (hs.1) (c_X5_next (G := G) hs M) ⟨rfl, rfl, Nat.le_of_ble_eq_true rfl, Nat.le_of_ble_eq_true rfl⟩ rfl rfl (Nat.le_of_ble_eq_true rfl) (fun _ M8 => ?_)
    refine VR.pick [0] rfl ?_
    exact v_X5_part_J19 hF hs M8
set_option maxRecDepth 100000 in
set_option maxHeartbeats 4000000 in
theorem c_X5_part {G : Gx} {sh : List Sh} (hs : ModAt sh) (M : Mm) (x1 : Int32) : CT yX5_part cX5_part 3 (some .int) rmX5_part G sh [.ref (G.2.2.2.2 0), .int x1] rvI M (m_X5_part  x1 M) := by
  refine CT.of (by decide +kernel) (Nat.le_of_ble_eq_true rfl) (fun X hF => ?_)
  show VR X G sh 3 rvI M 0 [(0, .ref (G.2.2.2.2 0)), (1, .int x1)] [] _
  unfold m_X5_part
  refine v_iload_n 1 1 hF dX5_part_0 rfl rfl rfl ?_
  refine v_if_ne 4 8 hF dX5_part_1 rfl (by decide) (fun _ => ?_) (fun _ => ?_)
  · refine VR.pick [0] rfl ?_
    exact v_X5_part_J8 hF hs M
  · refine v_aload_n 0 5 hF dX5_part_4 rfl rfl rfl ?_
    refine v_callV ([]) ([]) 8 hF dX5_part_5 rfl cw_X5_178 rfl (hs.1) (c_X5_fail (G := G) hs M) ⟨rfl, rfl, Nat.le_of_ble_eq_true rfl, Nat.le_of_ble_eq_true rfl⟩ rfl rfl (Nat.le_of_ble_eq_true rfl) (fun _ M9 => ?_)
    refine VR.pick [0] rfl ?_
    exact v_X5_part_J8 hF hs M9
abbrev rmX5_read : Room := { frames := 65, cells := 0, slots := 0, locals := 2996 }
def m_X5_read_J151 (x2 : Int32) (x3 : Int32) (x4 : Int32) (x5 : Int32) (M : Mm) : Option (Int32 × Mm) := if x2 = 0 then (some (x3, M)) else (if x2 = (1 : Int32) then (some (x4, M)) else (some (x5, M)))
def m_X5_read_J131 (x2 : Int32) (x3 : Int32) (x4 : Int32) (s0 : Int32) (M : Mm) : Option (Int32 × Mm) := lt1 s0 fun y1 => if (M 0 27) = 0 then (if (M 0 23) = 0 then (m_X5_read_J151 x2 x3 x4 y1 M) else (bd (m_X5_fail M) fun _ M2 => m_X5_read_J151 x2 x3 x4 y1 M2)) else (m_X5_read_J151 x2 x3 x4 y1 M)
def m_X5_read_J96 (x2 : Int32) (x3 : Int32) (s0 : Int32) (M : Mm) : Option (Int32 × Mm) := lt1 s0 fun y3 => if (M 0 27) = 0 then (bd (m_X5_isWord ((119 : Int32)) ((114 : Int32)) ((105 : Int32)) ((116 : Int32)) ((101 : Int32)) ((115 : Int32)) ((0 : Int32)) ((0 : Int32)) M) fun r5 M4 => bd (m_X5_part r5 M4) fun r7 M6 => m_X5_read_J131 x2 x3 y3 r7 M6) else (m_X5_read_J131 x2 x3 y3 ((0 : Int32)) M)
def m_X5_read (x1 : Int32) (x2 : Int32) (M : Mm) : Option (Int32 × Mm) := lt1 (up M 0 20 (((160 : Int32) * x1))) fun M8 => gd (inr x1 6) (lt1 (up M8 0 21 ((M8 2 x1.toNatClampNeg))) fun M9 => lt1 (up M9 0 22 ((0 : Int32))) fun M10 => lt1 (up M10 0 26 ((0 : Int32))) fun M11 => lt1 (up M11 0 27 ((0 : Int32))) fun M12 => bd (m_X5_next M12) fun _ M13 => bd (m_X5_isWord ((99 : Int32)) ((97 : Int32)) ((114 : Int32)) ((114 : Int32)) ((105 : Int32)) ((101 : Int32)) ((115 : Int32)) ((0 : Int32)) M13) fun r15 M14 => bd (m_X5_part r15 M14) fun r17 M16 => lt1 r17 fun y18 => if (M16 0 27) = 0 then (bd (m_X5_isWord ((115 : Int32)) ((111 : Int32)) ((102 : Int32)) ((116 : Int32)) ((101 : Int32)) ((110 : Int32)) ((115 : Int32)) ((0 : Int32)) M16) fun r20 M19 => bd (m_X5_part r20 M19) fun r22 M21 => m_X5_read_J96 x2 y18 r22 M21) else (m_X5_read_J96 x2 y18 ((0 : Int32)) M16))
set_option maxRecDepth 100000 in
set_option maxHeartbeats 4000000 in
theorem v_X5_read_J151 {X : Cx} {G : Gx} {sh : List Sh} (hF : FX X G sh 6 cX5_read (yX5_read).cls (some .int) rmX5_read) (hs : ModAt sh) : ∀ (x2 : Int32) (x3 : Int32) (x4 : Int32) (x5 : Int32) (M : Mm), VR X G sh 6 rvI M 151 [(0, .ref (G.2.2.2.2 0)), (2, .int x2), (3, .int x3), (4, .int x4), (5, .int x5)] [] (m_X5_read_J151  x2 x3 x4 x5 M) := by
  intro x2 x3 x4 x5 M
  unfold m_X5_read_J151
  refine v_iload_n 1 152 hF dX5_read_151 rfl rfl rfl ?_
  refine v_if_ne 155 159 hF dX5_read_152 rfl (by decide) (fun _ => ?_) (fun _ => ?_)
  · refine v_iload_n 1 160 hF dX5_read_159 rfl rfl rfl ?_
    refine v_iconst (1) 161 hF dX5_read_160 rfl (by decide) ?_
    refine v_icmp_ne 164 169 hF dX5_read_161 rfl (by decide) (fun _ => ?_) (fun _ => ?_)
    · refine v_iload 4 171 hF dX5_read_169 rfl rfl ?_
      exact v_iret hF dX5_read_171
    · refine v_iload 3 166 hF dX5_read_164 rfl rfl ?_
      refine v_goto 171 hF dX5_read_166 (by decide) ?_
      exact v_iret hF dX5_read_171
  · refine v_iload_n 2 156 hF dX5_read_155 rfl rfl rfl ?_
    refine v_goto 171 hF dX5_read_156 (by decide) ?_
    exact v_iret hF dX5_read_171
set_option maxRecDepth 100000 in
set_option maxHeartbeats 4000000 in
theorem v_X5_read_J131 {X : Cx} {G : Gx} {sh : List Sh} (hF : FX X G sh 6 cX5_read (yX5_read).cls (some .int) rmX5_read) (hs : ModAt sh) : ∀ (x2 : Int32) (x3 : Int32) (x4 : Int32) (s0 : Int32) (M : Mm), VR X G sh 6 rvI M 131 [(0, .ref (G.2.2.2.2 0)), (2, .int x2), (3, .int x3), (4, .int x4)] [.int s0] (m_X5_read_J131  x2 x3 x4 s0 M) := by
  intro x2 x3 x4 s0 M
  unfold m_X5_read_J131
  refine v_istore (lo' := fun y1 => [(5, .int y1), (0, .ref (G.2.2.2.2 0)), (2, .int x2), (3, .int x3), (4, .int x4)]) 133 hF dX5_read_131 rfl (by decide) (fun _ => rfl) (fun y1 => ?_)
  refine v_aload_n 1 134 hF dX5_read_133 rfl rfl rfl ?_
  refine v_getI 137 hF dX5_read_134 rfl fl_X5_166 hs.1 rfl ?_
  refine v_if_ne 140 151 hF dX5_read_137 rfl (by decide) (fun _ => ?_) (fun _ => ?_)
  · refine VR.pick [1, 2, 3, 4, 0] rfl ?_
    exact v_X5_read_J151 hF hs x2 x3 x4 y1 M
  · refine v_aload_n 1 141 hF dX5_read_140 rfl rfl rfl ?_
    refine v_getI 144 hF dX5_read_141 rfl fl_X5_151 hs.1 rfl ?_
    refine v_if_eq 147 151 hF dX5_read_144 rfl (by decide) (fun _ => ?_) (fun _ => ?_)
    · refine VR.pick [1, 2, 3, 4, 0] rfl ?_
      exact v_X5_read_J151 hF hs x2 x3 x4 y1 M
    · refine v_aload_n 1 148 hF dX5_read_147 rfl rfl rfl ?_
      refine v_callV ([]) ([]) 151 hF dX5_read_148 rfl cw_X5_178 rfl (hs.1) (c_X5_fail (G := G) hs M) ⟨rfl, rfl, Nat.le_of_ble_eq_true rfl, Nat.le_of_ble_eq_true rfl⟩ rfl rfl (Nat.le_of_ble_eq_true rfl) (fun _ M2 => ?_)
      refine VR.pick [1, 2, 3, 4, 0] rfl ?_
      exact v_X5_read_J151 hF hs x2 x3 x4 y1 M2
set_option maxRecDepth 100000 in
set_option maxHeartbeats 4000000 in
theorem v_X5_read_J96 {X : Cx} {G : Gx} {sh : List Sh} (hF : FX X G sh 6 cX5_read (yX5_read).cls (some .int) rmX5_read) (hs : ModAt sh) : ∀ (x2 : Int32) (x3 : Int32) (s0 : Int32) (M : Mm), VR X G sh 6 rvI M 96 [(0, .ref (G.2.2.2.2 0)), (2, .int x2), (3, .int x3)] [.int s0] (m_X5_read_J96  x2 x3 s0 M) := by
  intro x2 x3 s0 M
  unfold m_X5_read_J96
  refine v_istore (lo' := fun y3 => [(4, .int y3), (0, .ref (G.2.2.2.2 0)), (2, .int x2), (3, .int x3)]) 98 hF dX5_read_96 rfl (by decide) (fun _ => rfl) (fun y3 => ?_)
  refine v_aload_n 1 99 hF dX5_read_98 rfl rfl rfl ?_
  refine v_getI 102 hF dX5_read_99 rfl fl_X5_166 hs.1 rfl ?_
  refine v_if_eq 105 109 hF dX5_read_102 rfl (by decide) (fun _ => ?_) (fun _ => ?_)
  · refine v_aload_n 1 110 hF dX5_read_109 rfl rfl rfl ?_
    refine v_aload_n 1 111 hF dX5_read_110 rfl rfl rfl ?_
    refine v_bipush (119) 113 hF dX5_read_111 rfl (by decide) ?_
    refine v_bipush (114) 115 hF dX5_read_113 rfl (by decide) ?_
    refine v_bipush (105) 117 hF dX5_read_115 rfl (by decide) ?_
    refine v_bipush (116) 119 hF dX5_read_117 rfl (by decide) ?_
    refine v_bipush (101) 121 hF dX5_read_119 rfl (by decide) ?_
    refine v_bipush (115) 123 hF dX5_read_121 rfl (by decide) ?_
    refine v_iconst (0) 124 hF dX5_read_123 rfl (by decide) ?_
    refine v_iconst (0) 125 hF dX5_read_124 rfl (by decide) ?_
    refine v_callI ([.int ((119 : Int32)), .int ((114 : Int32)), .int ((105 : Int32)), .int ((116 : Int32)), .int ((101 : Int32)), .int ((115 : Int32)), .int ((0 : Int32)), .int ((0 : Int32))]) ([.ref (G.2.2.2.2 0)]) 128 hF dX5_read_125 rfl cw_X5_184 rfl (hs.1) (c_X5_isWord (G := G) hs M ((119 : Int32)) ((114 : Int32)) ((105 : Int32)) ((116 : Int32)) ((101 : Int32)) ((115 : Int32)) ((0 : Int32)) ((0 : Int32))) ⟨rfl, rfl, Nat.le_of_ble_eq_true rfl, Nat.le_of_ble_eq_true rfl⟩ rfl rfl (Nat.le_of_ble_eq_true rfl) (fun r5 M4 => ?_)
    refine v_callI ([.int r5]) ([]) 131 hF dX5_read_128 rfl cw_X5_239 rfl (hs.1) (c_X5_part (G := G) hs M4 r5) ⟨rfl, rfl, Nat.le_of_ble_eq_true rfl, Nat.le_of_ble_eq_true rfl⟩ rfl rfl (Nat.le_of_ble_eq_true rfl) (fun r7 M6 => ?_)
    refine VR.pick [1, 2, 3, 0] rfl ?_
    exact v_X5_read_J131 hF hs x2 x3 y3 r7 M6
  · refine v_iconst (0) 106 hF dX5_read_105 rfl (by decide) ?_
    refine v_goto 131 hF dX5_read_106 (by decide) ?_
    refine VR.pick [1, 2, 3, 0] rfl ?_
    exact v_X5_read_J131 hF hs x2 x3 y3 ((0 : Int32)) M
set_option maxRecDepth 100000 in
set_option maxHeartbeats 4000000 in
theorem c_X5_read {G : Gx} {sh : List Sh} (hs : ModAt sh) (M : Mm) (x1 : Int32) (x2 : Int32) : CT yX5_read cX5_read 6 (some .int) rmX5_read G sh [.ref (G.2.2.2.2 0), .int x1, .int x2] rvI M (m_X5_read  x1 x2 M) := by
  refine CT.of (by decide +kernel) (Nat.le_of_ble_eq_true rfl) (fun X hF => ?_)
  show VR X G sh 6 rvI M 0 [(0, .ref (G.2.2.2.2 0)), (1, .int x1), (2, .int x2)] [] _
  unfold m_X5_read
  refine v_aload_n 0 1 hF dX5_read_0 rfl rfl rfl ?_
  refine v_sipush (160) 4 hF dX5_read_1 rfl (by decide) ?_
  refine v_iload_n 1 5 hF dX5_read_4 rfl rfl rfl ?_
  refine v_imul 6 hF dX5_read_5 rfl ?_
  refine v_putI 9 hF dX5_read_6 rfl fl_X5_139 fp_X5_20 hs.1 rfl (fun M8 => ?_)
  refine v_aload_n 0 10 hF dX5_read_9 rfl rfl rfl ?_
  refine v_aload_n 0 11 hF dX5_read_10 rfl rfl rfl ?_
  refine v_getR (b := 2) 14 hF dX5_read_11 rfl fl_X5_17 hs.1 rfl ?_
  refine v_iload_n 1 15 hF dX5_read_14 rfl rfl rfl ?_
  refine v_iald 16 hF dX5_read_15 rfl (hs.2.2.1) ?_
  refine v_putI 19 hF dX5_read_16 rfl fl_X5_136 fp_X5_21 hs.1 rfl (fun M9 => ?_)
  refine v_aload_n 0 20 hF dX5_read_19 rfl rfl rfl ?_
  refine v_iconst (0) 21 hF dX5_read_20 rfl (by decide) ?_
  refine v_putI 24 hF dX5_read_21 rfl fl_X5_142 fp_X5_22 hs.1 rfl (fun M10 => ?_)
  refine v_aload_n 0 25 hF dX5_read_24 rfl rfl rfl ?_
  refine v_iconst (0) 26 hF dX5_read_25 rfl (by decide) ?_
  refine v_putI 29 hF dX5_read_26 rfl fl_X5_175 fp_X5_26 hs.1 rfl (fun M11 => ?_)
  refine v_aload_n 0 30 hF dX5_read_29 rfl rfl rfl ?_
  refine v_iconst (0) 31 hF dX5_read_30 rfl (by decide) ?_
  refine v_putZ 34 hF dX5_read_31 rfl fl_X5_166 fp_X5_27 hs.1 rfl ⟨rfl, rfl⟩ (fun M12 => ?_)
  refine v_aload_n 0 35 hF dX5_read_34 rfl rfl rfl ?_
  refine v_callV ([]) ([]) 38 hF dX5_read_35 rfl cw_X5_181 rfl (hs.1) (c_X5_next (G := G) hs M12) ⟨rfl, rfl, Nat.le_of_ble_eq_true rfl, Nat.le_of_ble_eq_true rfl⟩ rfl rfl (Nat.le_of_ble_eq_true rfl) (fun _ M13 => ?_)
  refine v_aload_n 0 39 hF dX5_read_38 rfl rfl rfl ?_
  refine v_aload_n 0 40 hF dX5_read_39 rfl rfl rfl ?_
  refine v_bipush (99) 42 hF dX5_read_40 rfl (by decide) ?_
  refine v_bipush (97) 44 hF dX5_read_42 rfl (by decide) ?_
  refine v_bipush (114) 46 hF dX5_read_44 rfl (by decide) ?_
  refine v_bipush (114) 48 hF dX5_read_46 rfl (by decide) ?_
  refine v_bipush (105) 50 hF dX5_read_48 rfl (by decide) ?_
  refine v_bipush (101) 52 hF dX5_read_50 rfl (by decide) ?_
  refine v_bipush (115) 54 hF dX5_read_52 rfl (by decide) ?_
  refine v_iconst (0) 55 hF dX5_read_54 rfl (by decide) ?_
  refine v_callI ([.int ((99 : Int32)), .int ((97 : Int32)), .int ((114 : Int32)), .int ((114 : Int32)), .int ((105 : Int32)), .int ((101 : Int32)), .int ((115 : Int32)), .int ((0 : Int32))]) ([.ref (G.2.2.2.2 0)]) 58 hF dX5_read_55 rfl cw_X5_184 rfl (hs.1) (c_X5_isWord (G := G) hs M13 ((99 : Int32)) ((97 : Int32)) ((114 : Int32)) ((114 : Int32)) ((105 : Int32)) ((101 : Int32)) ((115 : Int32)) ((0 : Int32))) ⟨rfl, rfl, Nat.le_of_ble_eq_true rfl, Nat.le_of_ble_eq_true rfl⟩ rfl rfl (Nat.le_of_ble_eq_true rfl) (fun r15 M14 => ?_)
  refine v_callI ([.int r15]) ([]) 61 hF dX5_read_58 rfl cw_X5_239 rfl (hs.1) (c_X5_part (G := G) hs M14 r15) ⟨rfl, rfl, Nat.le_of_ble_eq_true rfl, Nat.le_of_ble_eq_true rfl⟩ rfl rfl (Nat.le_of_ble_eq_true rfl) (fun r17 M16 => ?_)
  refine v_istore_n (lo' := fun y18 => [(3, .int y18), (0, .ref (G.2.2.2.2 0)), (1, .int x1), (2, .int x2)]) 62 hF dX5_read_61 rfl rfl (by decide) (fun _ => rfl) (fun y18 => ?_)
  refine v_aload_n 1 63 hF dX5_read_62 rfl rfl rfl ?_
  refine v_getI 66 hF dX5_read_63 rfl fl_X5_166 hs.1 rfl ?_
  refine v_if_eq 69 73 hF dX5_read_66 rfl (by decide) (fun _ => ?_) (fun _ => ?_)
  · refine v_aload_n 1 74 hF dX5_read_73 rfl rfl rfl ?_
    refine v_aload_n 1 75 hF dX5_read_74 rfl rfl rfl ?_
    refine v_bipush (115) 77 hF dX5_read_75 rfl (by decide) ?_
    refine v_bipush (111) 79 hF dX5_read_77 rfl (by decide) ?_
    refine v_bipush (102) 81 hF dX5_read_79 rfl (by decide) ?_
    refine v_bipush (116) 83 hF dX5_read_81 rfl (by decide) ?_
    refine v_bipush (101) 85 hF dX5_read_83 rfl (by decide) ?_
    refine v_bipush (110) 87 hF dX5_read_85 rfl (by decide) ?_
    refine v_bipush (115) 89 hF dX5_read_87 rfl (by decide) ?_
    refine v_iconst (0) 90 hF dX5_read_89 rfl (by decide) ?_
    refine v_callI ([.int ((115 : Int32)), .int ((111 : Int32)), .int ((102 : Int32)), .int ((116 : Int32)), .int ((101 : Int32)), .int ((110 : Int32)), .int ((115 : Int32)), .int ((0 : Int32))]) ([.ref (G.2.2.2.2 0)]) 93 hF dX5_read_90 rfl cw_X5_184 rfl (hs.1) (c_X5_isWord (G := G) hs M16 ((115 : Int32)) ((111 : Int32)) ((102 : Int32)) ((116 : Int32)) ((101 : Int32)) ((110 : Int32)) ((115 : Int32)) ((0 : Int32))) ⟨rfl, rfl, Nat.le_of_ble_eq_true rfl, Nat.le_of_ble_eq_true rfl⟩ rfl rfl (Nat.le_of_ble_eq_true rfl) (fun r20 M19 => ?_)
    refine v_callI ([.int r20]) ([]) 96 hF dX5_read_93 rfl cw_X5_239 rfl (hs.1) (c_X5_part (G := G) hs M19 r20) ⟨rfl, rfl, Nat.le_of_ble_eq_true rfl, Nat.le_of_ble_eq_true rfl⟩ rfl rfl (Nat.le_of_ble_eq_true rfl) (fun r22 M21 => ?_)
    refine VR.pick [1, 3, 0] rfl ?_
    exact v_X5_read_J96 hF hs x2 y18 r22 M21
  · refine v_iconst (0) 70 hF dX5_read_69 rfl (by decide) ?_
    refine v_goto 96 hF dX5_read_70 (by decide) ?_
    refine VR.pick [1, 3, 0] rfl ?_
    exact v_X5_read_J96 hF hs x2 y18 ((0 : Int32)) M16
abbrev rmX5_text : Room := { frames := 66, cells := 0, slots := 0, locals := 3021 }
def m_X5_text_B14 (n14 : Int32 → Mm → Option (Int32 × Mm)) (x1 : Int32) (M : Mm) : Option (Int32 × Mm) := if (M 0 6) ≤ x1 then (gd (inr ((M 0 3)) 6) (lt1 (up M 2 ((M 0 3)).toNatClampNeg ((M 0 6))) fun M1 => lt1 (up M1 0 6 ((0 : Int32))) fun M2 => bd (m_X5_read ((M2 0 3)) ((0 : Int32)) M2) fun r4 M3 => lt1 r4 fun y5 => if (M3 0 27) = 0 then (lt1 (up M3 0 3 (((M3 0 3) + (1 : Int32)))) fun M6 => some (((M6 0 3) - (1 : Int32)), M6)) else (some (((-100 : Int32) - (M3 0 28)), M3)))) else (gd (inr x1 160) (gd (inr ((((160 : Int32) * (M 0 3)) + x1)) 960) (lt1 (up M 1 ((((160 : Int32) * (M 0 3)) + x1)).toNatClampNeg ((M 3 x1.toNatClampNeg))) fun M7 => lt1 (x1 + 1) fun y8 => n14 y8 M7)))
def m_X5_text_L14 : Nat → Int32 → Mm → Option (Int32 × Mm)
  | 0 => fun _ _ => none
  | n + 1 => m_X5_text_B14  (m_X5_text_L14  n)
def m_X5_text  (M : Mm) : Option (Int32 × Mm) := if (M 0 3) = (6 : Int32) then (some ((-4 : Int32), M)) else (lt1 ((0 : Int32)) fun y9 => m_X5_text_L14 FU y9 M)
set_option maxRecDepth 100000 in
set_option maxHeartbeats 4000000 in
theorem v_X5_text_B14 {X : Cx} {G : Gx} {sh : List Sh} (hF : FX X G sh 2 cX5_text (yX5_text).cls (some .int) rmX5_text) (hs : ModAt sh) (n14 : Int32 → Mm → Option (Int32 × Mm)) (h14 : ∀ (x1 : Int32) (M : Mm), VR X G sh 2 rvI M 14 [(0, .ref (G.2.2.2.2 0)), (1, .int x1)] [] (n14 x1 M)) : ∀ (x1 : Int32) (M : Mm), VR X G sh 2 rvI M 14 [(0, .ref (G.2.2.2.2 0)), (1, .int x1)] [] (m_X5_text_B14  n14 x1 M) := by
  intro x1 M
  unfold m_X5_text_B14
  refine v_iload_n 1 15 hF dX5_text_14 rfl rfl rfl ?_
  refine v_aload_n 0 16 hF dX5_text_15 rfl rfl rfl ?_
  refine v_getI 19 hF dX5_text_16 rfl fl_X5_133 hs.1 rfl ?_
  refine v_icmp_ge 22 49 hF dX5_text_19 rfl (by decide) (fun _ => ?_) (fun _ => ?_)
  · refine v_aload_n 0 50 hF dX5_text_49 rfl rfl rfl ?_
    refine v_getR (b := 2) 53 hF dX5_text_50 rfl fl_X5_17 hs.1 rfl ?_
    refine v_aload_n 0 54 hF dX5_text_53 rfl rfl rfl ?_
    refine v_getI 57 hF dX5_text_54 rfl fl_X5_70 hs.1 rfl ?_
    refine v_aload_n 0 58 hF dX5_text_57 rfl rfl rfl ?_
    refine v_getI 61 hF dX5_text_58 rfl fl_X5_133 hs.1 rfl ?_
    refine v_iast 62 hF dX5_text_61 rfl (hs.2.2.1) (fun M1 => ?_)
    refine v_aload_n 0 63 hF dX5_text_62 rfl rfl rfl ?_
    refine v_iconst (0) 64 hF dX5_text_63 rfl (by decide) ?_
    refine v_putI 67 hF dX5_text_64 rfl fl_X5_133 fp_X5_6 hs.1 rfl (fun M2 => ?_)
    refine v_aload_n 0 68 hF dX5_text_67 rfl rfl rfl ?_
    refine v_aload_n 0 69 hF dX5_text_68 rfl rfl rfl ?_
    refine v_getI 72 hF dX5_text_69 rfl fl_X5_70 hs.1 rfl ?_
    refine v_iconst (0) 73 hF dX5_text_72 rfl (by decide) ?_
    refine v_callI ([.int ((M2 0 3)), .int ((0 : Int32))]) ([]) 76 hF dX5_text_73 rfl cw_X5_243 rfl (hs.1) (c_X5_read (G := G) hs M2 ((M2 0 3)) ((0 : Int32))) ⟨rfl, rfl, Nat.le_of_ble_eq_true rfl, Nat.le_of_ble_eq_true rfl⟩ rfl rfl (Nat.le_of_ble_eq_true rfl) (fun r4 M3 => ?_)
    refine v_istore_n (lo' := fun y5 => [(1, .int y5), (0, .ref (G.2.2.2.2 0))]) 77 hF dX5_text_76 rfl rfl (by decide) (fun _ => rfl) (fun y5 => ?_)
    refine v_aload_n 1 78 hF dX5_text_77 rfl rfl rfl ?_
    refine v_getI 81 hF dX5_text_78 rfl fl_X5_166 hs.1 rfl ?_
    refine v_if_eq 84 92 hF dX5_text_81 rfl (by decide) (fun _ => ?_) (fun _ => ?_)
    · refine v_aload_n 1 93 hF dX5_text_92 rfl rfl rfl ?_
      refine v_dupR 94 hF dX5_text_93 rfl ?_
      refine v_getI 97 hF dX5_text_94 rfl fl_X5_70 hs.1 rfl ?_
      refine v_iconst (1) 98 hF dX5_text_97 rfl (by decide) ?_
      refine v_iadd 99 hF dX5_text_98 rfl ?_
      refine v_putI 102 hF dX5_text_99 rfl fl_X5_70 fp_X5_3 hs.1 rfl (fun M6 => ?_)
      refine v_aload_n 1 103 hF dX5_text_102 rfl rfl rfl ?_
      refine v_getI 106 hF dX5_text_103 rfl fl_X5_70 hs.1 rfl ?_
      refine v_iconst (1) 107 hF dX5_text_106 rfl (by decide) ?_
      refine v_isub 108 hF dX5_text_107 rfl ?_
      exact v_iret hF dX5_text_108
    · refine v_bipush (-100) 86 hF dX5_text_84 rfl (by decide) ?_
      refine v_aload_n 1 87 hF dX5_text_86 rfl rfl rfl ?_
      refine v_getI 90 hF dX5_text_87 rfl fl_X5_170 hs.1 rfl ?_
      refine v_isub 91 hF dX5_text_90 rfl ?_
      exact v_iret hF dX5_text_91
  · refine v_aload_n 0 23 hF dX5_text_22 rfl rfl rfl ?_
    refine v_getR (b := 1) 26 hF dX5_text_23 rfl fl_X5_13 hs.1 rfl ?_
    refine v_sipush (160) 29 hF dX5_text_26 rfl (by decide) ?_
    refine v_aload_n 0 30 hF dX5_text_29 rfl rfl rfl ?_
    refine v_getI 33 hF dX5_text_30 rfl fl_X5_70 hs.1 rfl ?_
    refine v_imul 34 hF dX5_text_33 rfl ?_
    refine v_iload_n 1 35 hF dX5_text_34 rfl rfl rfl ?_
    refine v_iadd 36 hF dX5_text_35 rfl ?_
    refine v_aload_n 0 37 hF dX5_text_36 rfl rfl rfl ?_
    refine v_getR (b := 3) 40 hF dX5_text_37 rfl fl_X5_20 hs.1 rfl ?_
    refine v_iload_n 1 41 hF dX5_text_40 rfl rfl rfl ?_
    refine v_iald 42 hF dX5_text_41 rfl (hs.2.2.2.1) ?_
    refine v_iast 43 hF dX5_text_42 rfl (hs.2.1) (fun M7 => ?_)
    refine v_iinc (v := (x1 + 1)) (lo' := fun y8 => [(1, .int y8), (0, .ref (G.2.2.2.2 0))]) 1 46 hF dX5_text_43 rfl rfl rfl (by decide) (fun _ => rfl) (fun y8 => ?_)
    refine v_goto 14 hF dX5_text_46 (by decide) ?_
    refine VR.pick [1, 0] rfl ?_
    exact h14 y8 M7
theorem v_X5_text_L14 {X : Cx} {G : Gx} {sh : List Sh} (hF : FX X G sh 2 cX5_text (yX5_text).cls (some .int) rmX5_text) (hs : ModAt sh) : ∀ (n : Nat), ∀ (x1 : Int32) (M : Mm), VR X G sh 2 rvI M 14 [(0, .ref (G.2.2.2.2 0)), (1, .int x1)] [] (m_X5_text_L14  n x1 M) := by
  intro n
  induction n with
  | zero => intro x1 M; exact VR.none
  | succ n ih => exact v_X5_text_B14 hF hs _ ih
set_option maxRecDepth 100000 in
set_option maxHeartbeats 4000000 in
theorem c_X5_text {G : Gx} {sh : List Sh} (hs : ModAt sh) (M : Mm)  : CT yX5_text cX5_text 2 (some .int) rmX5_text G sh [.ref (G.2.2.2.2 0)] rvI M (m_X5_text   M) := by
  refine CT.of (by decide +kernel) (Nat.le_of_ble_eq_true rfl) (fun X hF => ?_)
  show VR X G sh 2 rvI M 0 [(0, .ref (G.2.2.2.2 0))] [] _
  unfold m_X5_text
  refine v_aload_n 0 1 hF dX5_text_0 rfl rfl rfl ?_
  refine v_getI 4 hF dX5_text_1 rfl fl_X5_70 hs.1 rfl ?_
  refine v_bipush (6) 6 hF dX5_text_4 rfl (by decide) ?_
  refine v_icmp_ne 9 12 hF dX5_text_6 rfl (by decide) (fun _ => ?_) (fun _ => ?_)
  · refine v_iconst (0) 13 hF dX5_text_12 rfl (by decide) ?_
    refine v_istore_n (lo' := fun y9 => [(1, .int y9), (0, .ref (G.2.2.2.2 0))]) 14 hF dX5_text_13 rfl rfl (by decide) (fun _ => rfl) (fun y9 => ?_)
    refine VR.pick [1, 0] rfl ?_
    exact v_X5_text_L14 hF hs FU y9 M
  · refine v_bipush (-4) 11 hF dX5_text_9 rfl (by decide) ?_
    exact v_iret hF dX5_text_11
abbrev rmX5_force : Room := { frames := 1, cells := 0, slots := 0, locals := 25 }
def m_X5_force (x1 : Int32) (M : Mm) : Option (Int32 × Mm) := bd (m_X5_in (((x1).toInt64)) ((0 : Int64)) (((((M 0 3) - (1 : Int32))).toInt64)) M) fun r2 M1 => if r2 = 0 then (some ((-2 : Int32), M1)) else (lt1 ((M1 0 4)) fun y3 => lt1 (up M1 0 4 x1) fun M4 => some (y3, M4))
set_option maxRecDepth 100000 in
set_option maxHeartbeats 4000000 in
theorem c_X5_force {G : Gx} {sh : List Sh} (hs : ModAt sh) (M : Mm) (x1 : Int32) : CT yX5_force cX5_force 3 (some .int) rmX5_force G sh [.ref (G.2.2.2.2 0), .int x1] rvI M (m_X5_force  x1 M) := by
  refine CT.of (by decide +kernel) (Nat.le_of_ble_eq_true rfl) (fun X hF => ?_)
  show VR X G sh 3 rvI M 0 [(0, .ref (G.2.2.2.2 0)), (1, .int x1)] [] _
  unfold m_X5_force
  refine v_iload_n 1 1 hF dX5_force_0 rfl rfl rfl ?_
  refine v_i2l 2 hF dX5_force_1 rfl ?_
  refine v_lconst 0 3 hF dX5_force_2 rfl (by decide) ?_
  refine v_aload_n 0 4 hF dX5_force_3 rfl rfl rfl ?_
  refine v_getI 7 hF dX5_force_4 rfl fl_X5_70 hs.1 rfl ?_
  refine v_iconst (1) 8 hF dX5_force_7 rfl (by decide) ?_
  refine v_isub 9 hF dX5_force_8 rfl ?_
  refine v_i2l 10 hF dX5_force_9 rfl ?_
  refine v_staI ([.long (((x1).toInt64)), .long ((0 : Int64)), .long (((((M 0 3) - (1 : Int32))).toInt64))]) ([]) 13 hF dX5_force_10 rfl cw_X5_76 (c_X5_in (G := G) (sh := sh) M (((x1).toInt64)) ((0 : Int64)) (((((M 0 3) - (1 : Int32))).toInt64))) ⟨rfl, rfl, Nat.le_of_ble_eq_true rfl, Nat.le_of_ble_eq_true rfl⟩ rfl rfl (Nat.le_of_ble_eq_true rfl) (fun r2 M1 => ?_)
  refine v_if_ne 16 19 hF dX5_force_13 rfl (by decide) (fun _ => ?_) (fun _ => ?_)
  · refine v_aload_n 0 20 hF dX5_force_19 rfl rfl rfl ?_
    refine v_getI 23 hF dX5_force_20 rfl fl_X5_111 hs.1 rfl ?_
    refine v_istore_n (lo' := fun y3 => [(2, .int y3), (0, .ref (G.2.2.2.2 0)), (1, .int x1)]) 24 hF dX5_force_23 rfl rfl (by decide) (fun _ => rfl) (fun y3 => ?_)
    refine v_aload_n 1 25 hF dX5_force_24 rfl rfl rfl ?_
    refine v_iload_n 2 26 hF dX5_force_25 rfl rfl rfl ?_
    refine v_putI 29 hF dX5_force_26 rfl fl_X5_111 fp_X5_4 hs.1 rfl (fun M4 => ?_)
    refine v_iload_n 0 30 hF dX5_force_29 rfl rfl rfl ?_
    exact v_iret hF dX5_force_30
  · refine v_bipush (-2) 18 hF dX5_force_16 rfl (by decide) ?_
    exact v_iret hF dX5_force_18
abbrev rmX5_says : Room := { frames := 66, cells := 0, slots := 0, locals := 3021 }
def m_X5_says_J129 (s0 : Int32) (s1 : Int32) (M : Mm) : Option (Int32 × Mm) := bd (m_X5_within s1 s0 ((99 : Int32)) M) fun r2 M1 => some (r2, M1)
def m_X5_says_J106 (x1 : Int32) (s0 : Int32) (M : Mm) : Option (Int32 × Mm) := lt1 (up M 0 19 s0) fun M3 => bd (m_X5_read ((M3 0 4)) x1 M3) fun r5 M4 => if x1 = (2 : Int32) then (m_X5_says_J129 ((0 : Int32)) r5 M4) else (m_X5_says_J129 ((-99 : Int32)) r5 M4)
def m_X5_says_J105 (x1 : Int32) (M : Mm) : Option (Int32 × Mm) := m_X5_says_J106 x1 ((0 : Int32)) M
def m_X5_says_J78 (x1 : Int32) (x2 : Int32) (x3 : Int32) (s0 : Int32) (M : Mm) : Option (Int32 × Mm) := lt1 (up M 0 18 s0) fun M6 => if x3 = (-1 : Int32) then (m_X5_says_J105 x1 M6) else (gd (inr ((((5 : Int32) * x3) + (1 : Int32))) 40) (if (M6 5 ((((5 : Int32) * x3) + (1 : Int32))).toNatClampNeg) = x2 then (m_X5_says_J106 x1 ((1 : Int32)) M6) else (m_X5_says_J105 x1 M6)))
def m_X5_says_J18 (x1 : Int32) (x2 : Int32) (x3 : Int32) (s0 : Int32) (M : Mm) : Option (Int32 × Mm) := lt1 (up M 0 14 s0) fun M7 => gd (inr ((((3 : Int32) * x2) + (2 : Int32))) 15) (lt1 (up M7 0 15 ((M7 4 ((((3 : Int32) * x2) + (2 : Int32))).toNatClampNeg))) fun M8 => gd (inr (((3 : Int32) * x2)) 15) (lt1 (up M8 0 16 ((M8 4 (((3 : Int32) * x2)).toNatClampNeg))) fun M9 => lt1 (up M9 0 17 ((M9 0 7))) fun M10 => if x3 = (-1 : Int32) then (m_X5_says_J78 x1 x2 x3 ((0 : Int32)) M10) else (gd (inr ((((5 : Int32) * x3) + (4 : Int32))) 40) (bd (m_X5_bitsOf ((M10 5 ((((5 : Int32) * x3) + (4 : Int32))).toNatClampNeg)) M10) fun r12 M11 => m_X5_says_J78 x1 x2 x3 r12 M11))))
def m_X5_says (x1 : Int32) (x2 : Int32) (x3 : Int32) (M : Mm) : Option (Int32 × Mm) := if x3 = (-1 : Int32) then (m_X5_says_J18 x1 x2 x3 ((0 : Int32)) M) else (gd (inr (((5 : Int32) * x3)) 40) (m_X5_says_J18 x1 x2 x3 ((M 5 (((5 : Int32) * x3)).toNatClampNeg)) M))
set_option maxRecDepth 100000 in
set_option maxHeartbeats 4000000 in
theorem v_X5_says_J129 {X : Cx} {G : Gx} {sh : List Sh} (hF : FX X G sh 4 cX5_says (yX5_says).cls (some .int) rmX5_says) (hs : ModAt sh) : ∀ (s0 : Int32) (s1 : Int32) (M : Mm), VR X G sh 4 rvI M 129 [(0, .ref (G.2.2.2.2 0))] [.int s0, .int s1] (m_X5_says_J129  s0 s1 M) := by
  intro s0 s1 M
  unfold m_X5_says_J129
  refine v_bipush (99) 131 hF dX5_says_129 rfl (by decide) ?_
  refine v_staI ([.int s1, .int s0, .int ((99 : Int32))]) ([]) 134 hF dX5_says_131 rfl cw_X5_249 (c_X5_within (G := G) (sh := sh) M s1 s0 ((99 : Int32))) ⟨rfl, rfl, Nat.le_of_ble_eq_true rfl, Nat.le_of_ble_eq_true rfl⟩ rfl rfl (Nat.le_of_ble_eq_true rfl) (fun r2 M1 => ?_)
  exact v_iret hF dX5_says_134
set_option maxRecDepth 100000 in
set_option maxHeartbeats 4000000 in
theorem v_X5_says_J106 {X : Cx} {G : Gx} {sh : List Sh} (hF : FX X G sh 4 cX5_says (yX5_says).cls (some .int) rmX5_says) (hs : ModAt sh) : ∀ (x1 : Int32) (s0 : Int32) (M : Mm), VR X G sh 4 rvI M 106 [(0, .ref (G.2.2.2.2 0)), (1, .int x1)] [.int s0, .ref (G.2.2.2.2 0)] (m_X5_says_J106  x1 s0 M) := by
  intro x1 s0 M
  unfold m_X5_says_J106
  refine v_putI 109 hF dX5_says_106 rfl fl_X5_203 fp_X5_19 hs.1 rfl (fun M3 => ?_)
  refine v_aload_n 0 110 hF dX5_says_109 rfl rfl rfl ?_
  refine v_aload_n 0 111 hF dX5_says_110 rfl rfl rfl ?_
  refine v_getI 114 hF dX5_says_111 rfl fl_X5_111 hs.1 rfl ?_
  refine v_iload_n 1 115 hF dX5_says_114 rfl rfl rfl ?_
  refine v_callI ([.int ((M3 0 4)), .int x1]) ([]) 118 hF dX5_says_115 rfl cw_X5_243 rfl (hs.1) (c_X5_read (G := G) hs M3 ((M3 0 4)) x1) ⟨rfl, rfl, Nat.le_of_ble_eq_true rfl, Nat.le_of_ble_eq_true rfl⟩ rfl rfl (Nat.le_of_ble_eq_true rfl) (fun r5 M4 => ?_)
  refine v_iload_n 1 119 hF dX5_says_118 rfl rfl rfl ?_
  refine v_iconst (2) 120 hF dX5_says_119 rfl (by decide) ?_
  refine v_icmp_ne 123 127 hF dX5_says_120 rfl (by decide) (fun _ => ?_) (fun _ => ?_)
  · refine v_bipush (-99) 129 hF dX5_says_127 rfl (by decide) ?_
    refine VR.pick [0] rfl ?_
    exact v_X5_says_J129 hF hs ((-99 : Int32)) r5 M4
  · refine v_iconst (0) 124 hF dX5_says_123 rfl (by decide) ?_
    refine v_goto 129 hF dX5_says_124 (by decide) ?_
    refine VR.pick [0] rfl ?_
    exact v_X5_says_J129 hF hs ((0 : Int32)) r5 M4
set_option maxRecDepth 100000 in
set_option maxHeartbeats 4000000 in
theorem v_X5_says_J105 {X : Cx} {G : Gx} {sh : List Sh} (hF : FX X G sh 4 cX5_says (yX5_says).cls (some .int) rmX5_says) (hs : ModAt sh) : ∀ (x1 : Int32) (M : Mm), VR X G sh 4 rvI M 105 [(0, .ref (G.2.2.2.2 0)), (1, .int x1)] [.ref (G.2.2.2.2 0)] (m_X5_says_J105  x1 M) := by
  intro x1 M
  unfold m_X5_says_J105
  refine v_iconst (0) 106 hF dX5_says_105 rfl (by decide) ?_
  refine VR.pick [0, 1] rfl ?_
  exact v_X5_says_J106 hF hs x1 ((0 : Int32)) M
set_option maxRecDepth 100000 in
set_option maxHeartbeats 4000000 in
theorem v_X5_says_J78 {X : Cx} {G : Gx} {sh : List Sh} (hF : FX X G sh 4 cX5_says (yX5_says).cls (some .int) rmX5_says) (hs : ModAt sh) : ∀ (x1 : Int32) (x2 : Int32) (x3 : Int32) (s0 : Int32) (M : Mm), VR X G sh 4 rvI M 78 [(0, .ref (G.2.2.2.2 0)), (1, .int x1), (2, .int x2), (3, .int x3)] [.int s0, .ref (G.2.2.2.2 0)] (m_X5_says_J78  x1 x2 x3 s0 M) := by
  intro x1 x2 x3 s0 M
  unfold m_X5_says_J78
  refine v_putI 81 hF dX5_says_78 rfl fl_X5_200 fp_X5_18 hs.1 rfl (fun M6 => ?_)
  refine v_aload_n 0 82 hF dX5_says_81 rfl rfl rfl ?_
  refine v_iload_n 3 83 hF dX5_says_82 rfl rfl rfl ?_
  refine v_iconst (-1) 84 hF dX5_says_83 rfl (by decide) ?_
  refine v_icmp_eq 87 105 hF dX5_says_84 rfl (by decide) (fun _ => ?_) (fun _ => ?_)
  · refine VR.pick [0, 1] rfl ?_
    exact v_X5_says_J105 hF hs x1 M6
  · refine v_aload_n 0 88 hF dX5_says_87 rfl rfl rfl ?_
    refine v_getR (b := 5) 91 hF dX5_says_88 rfl fl_X5_29 hs.1 rfl ?_
    refine v_iconst (5) 92 hF dX5_says_91 rfl (by decide) ?_
    refine v_iload_n 3 93 hF dX5_says_92 rfl rfl rfl ?_
    refine v_imul 94 hF dX5_says_93 rfl ?_
    refine v_iconst (1) 95 hF dX5_says_94 rfl (by decide) ?_
    refine v_iadd 96 hF dX5_says_95 rfl ?_
    refine v_iald 97 hF dX5_says_96 rfl (hs.2.2.2.2.2.1) ?_
    refine v_iload_n 2 98 hF dX5_says_97 rfl rfl rfl ?_
    refine v_icmp_ne 101 105 hF dX5_says_98 rfl (by decide) (fun _ => ?_) (fun _ => ?_)
    · refine VR.pick [0, 1] rfl ?_
      exact v_X5_says_J105 hF hs x1 M6
    · refine v_iconst (1) 102 hF dX5_says_101 rfl (by decide) ?_
      refine v_goto 106 hF dX5_says_102 (by decide) ?_
      refine VR.pick [0, 1] rfl ?_
      exact v_X5_says_J106 hF hs x1 ((1 : Int32)) M6
set_option maxRecDepth 100000 in
set_option maxHeartbeats 4000000 in
theorem v_X5_says_J18 {X : Cx} {G : Gx} {sh : List Sh} (hF : FX X G sh 4 cX5_says (yX5_says).cls (some .int) rmX5_says) (hs : ModAt sh) : ∀ (x1 : Int32) (x2 : Int32) (x3 : Int32) (s0 : Int32) (M : Mm), VR X G sh 4 rvI M 18 [(0, .ref (G.2.2.2.2 0)), (1, .int x1), (2, .int x2), (3, .int x3)] [.int s0, .ref (G.2.2.2.2 0)] (m_X5_says_J18  x1 x2 x3 s0 M) := by
  intro x1 x2 x3 s0 M
  unfold m_X5_says_J18
  refine v_putI 21 hF dX5_says_18 rfl fl_X5_188 fp_X5_14 hs.1 rfl (fun M7 => ?_)
  refine v_aload_n 0 22 hF dX5_says_21 rfl rfl rfl ?_
  refine v_aload_n 0 23 hF dX5_says_22 rfl rfl rfl ?_
  refine v_getR (b := 4) 26 hF dX5_says_23 rfl fl_X5_26 hs.1 rfl ?_
  refine v_iconst (3) 27 hF dX5_says_26 rfl (by decide) ?_
  refine v_iload_n 2 28 hF dX5_says_27 rfl rfl rfl ?_
  refine v_imul 29 hF dX5_says_28 rfl ?_
  refine v_iconst (2) 30 hF dX5_says_29 rfl (by decide) ?_
  refine v_iadd 31 hF dX5_says_30 rfl ?_
  refine v_iald 32 hF dX5_says_31 rfl (hs.2.2.2.2.1) ?_
  refine v_putI 35 hF dX5_says_32 rfl fl_X5_191 fp_X5_15 hs.1 rfl (fun M8 => ?_)
  refine v_aload_n 0 36 hF dX5_says_35 rfl rfl rfl ?_
  refine v_aload_n 0 37 hF dX5_says_36 rfl rfl rfl ?_
  refine v_getR (b := 4) 40 hF dX5_says_37 rfl fl_X5_26 hs.1 rfl ?_
  refine v_iconst (3) 41 hF dX5_says_40 rfl (by decide) ?_
  refine v_iload_n 2 42 hF dX5_says_41 rfl rfl rfl ?_
  refine v_imul 43 hF dX5_says_42 rfl ?_
  refine v_iald 44 hF dX5_says_43 rfl (hs.2.2.2.2.1) ?_
  refine v_putI 47 hF dX5_says_44 rfl fl_X5_194 fp_X5_16 hs.1 rfl (fun M9 => ?_)
  refine v_aload_n 0 48 hF dX5_says_47 rfl rfl rfl ?_
  refine v_aload_n 0 49 hF dX5_says_48 rfl rfl rfl ?_
  refine v_getI 52 hF dX5_says_49 rfl fl_X5_108 hs.1 rfl ?_
  refine v_putI 55 hF dX5_says_52 rfl fl_X5_197 fp_X5_17 hs.1 rfl (fun M10 => ?_)
  refine v_aload_n 0 56 hF dX5_says_55 rfl rfl rfl ?_
  refine v_iload_n 3 57 hF dX5_says_56 rfl rfl rfl ?_
  refine v_iconst (-1) 58 hF dX5_says_57 rfl (by decide) ?_
  refine v_icmp_ne 61 65 hF dX5_says_58 rfl (by decide) (fun _ => ?_) (fun _ => ?_)
  · refine v_aload_n 0 66 hF dX5_says_65 rfl rfl rfl ?_
    refine v_getR (b := 5) 69 hF dX5_says_66 rfl fl_X5_29 hs.1 rfl ?_
    refine v_iconst (5) 70 hF dX5_says_69 rfl (by decide) ?_
    refine v_iload_n 3 71 hF dX5_says_70 rfl rfl rfl ?_
    refine v_imul 72 hF dX5_says_71 rfl ?_
    refine v_iconst (4) 73 hF dX5_says_72 rfl (by decide) ?_
    refine v_iadd 74 hF dX5_says_73 rfl ?_
    refine v_iald 75 hF dX5_says_74 rfl (hs.2.2.2.2.2.1) ?_
    refine v_staI ([.int ((M10 5 ((((5 : Int32) * x3) + (4 : Int32))).toNatClampNeg))]) ([.ref (G.2.2.2.2 0)]) 78 hF dX5_says_75 rfl cw_X5_246 (c_X5_bitsOf (G := G) (sh := sh) M10 ((M10 5 ((((5 : Int32) * x3) + (4 : Int32))).toNatClampNeg))) ⟨rfl, rfl, Nat.le_of_ble_eq_true rfl, Nat.le_of_ble_eq_true rfl⟩ rfl rfl (Nat.le_of_ble_eq_true rfl) (fun r12 M11 => ?_)
    refine VR.pick [0, 1, 2, 3] rfl ?_
    exact v_X5_says_J78 hF hs x1 x2 x3 r12 M11
  · refine v_iconst (0) 62 hF dX5_says_61 rfl (by decide) ?_
    refine v_goto 78 hF dX5_says_62 (by decide) ?_
    refine VR.pick [0, 1, 2, 3] rfl ?_
    exact v_X5_says_J78 hF hs x1 x2 x3 ((0 : Int32)) M10
set_option maxRecDepth 100000 in
set_option maxHeartbeats 4000000 in
theorem c_X5_says {G : Gx} {sh : List Sh} (hs : ModAt sh) (M : Mm) (x1 : Int32) (x2 : Int32) (x3 : Int32) : CT yX5_says cX5_says 4 (some .int) rmX5_says G sh [.ref (G.2.2.2.2 0), .int x1, .int x2, .int x3] rvI M (m_X5_says  x1 x2 x3 M) := by
  refine CT.of (by decide +kernel) (Nat.le_of_ble_eq_true rfl) (fun X hF => ?_)
  show VR X G sh 4 rvI M 0 [(0, .ref (G.2.2.2.2 0)), (1, .int x1), (2, .int x2), (3, .int x3)] [] _
  unfold m_X5_says
  refine v_aload_n 0 1 hF dX5_says_0 rfl rfl rfl ?_
  refine v_iload_n 3 2 hF dX5_says_1 rfl rfl rfl ?_
  refine v_iconst (-1) 3 hF dX5_says_2 rfl (by decide) ?_
  refine v_icmp_ne 6 10 hF dX5_says_3 rfl (by decide) (fun _ => ?_) (fun _ => ?_)
  · refine v_aload_n 0 11 hF dX5_says_10 rfl rfl rfl ?_
    refine v_getR (b := 5) 14 hF dX5_says_11 rfl fl_X5_29 hs.1 rfl ?_
    refine v_iconst (5) 15 hF dX5_says_14 rfl (by decide) ?_
    refine v_iload_n 3 16 hF dX5_says_15 rfl rfl rfl ?_
    refine v_imul 17 hF dX5_says_16 rfl ?_
    refine v_iald 18 hF dX5_says_17 rfl (hs.2.2.2.2.2.1) ?_
    refine VR.pick [0, 1, 2, 3] rfl ?_
    exact v_X5_says_J18 hF hs x1 x2 x3 ((M 5 (((5 : Int32) * x3)).toNatClampNeg)) M
  · refine v_iconst (0) 7 hF dX5_says_6 rfl (by decide) ?_
    refine v_goto 18 hF dX5_says_7 (by decide) ?_
    refine VR.pick [0, 1, 2, 3] rfl ?_
    exact v_X5_says_J18 hF hs x1 x2 x3 ((0 : Int32)) M
abbrev rmX5_carries : Room := { frames := 67, cells := 0, slots := 0, locals := 3044 }
def m_X5_carries_J161  (M : Mm) : Option (Int32 × Mm) := some ((1 : Int32), M)
def m_X5_carries_J123 (x5 : Int32) (M : Mm) : Option (Int32 × Mm) := if x5 = 0 then (some ((0 : Int32), M)) else (m_X5_carries_J161 M)
def m_X5_carries_J106 (x2 : Int32) (x3 : Int32) (x4 : Int32) (s0 : Int32) (M : Mm) : Option (Int32 × Mm) := lt1 s0 fun y1 => if x3 = (5 : Int32) then (m_X5_carries_J161 M) else (if x3 = (2 : Int32) then (m_X5_carries_J123 y1 M) else (if x3 = (4 : Int32) then (m_X5_carries_J123 y1 M) else (if x3 = 0 then (if x4 = 0 then (some ((0 : Int32), M)) else (m_X5_carries_J161 M)) else (if x4 = 0 then (gd (inr (((5 : Int32) * x2)) 40) (if (M 5 (((5 : Int32) * x2)).toNatClampNeg) ≤ (49 : Int32) then (some ((0 : Int32), M)) else (m_X5_carries_J161 M))) else (m_X5_carries_J161 M)))))
def m_X5_carries_J105 (x2 : Int32) (x3 : Int32) (x4 : Int32) (M : Mm) : Option (Int32 × Mm) := m_X5_carries_J106 x2 x3 x4 ((0 : Int32)) M
def m_X5_carries_J80 (x1 : Int32) (x2 : Int32) (x3 : Int32) (s0 : Int32) (M : Mm) : Option (Int32 × Mm) := lt1 s0 fun y2 => if y2 = 0 then (m_X5_carries_J105 x2 x3 y2 M) else (gd (inr ((((5 : Int32) * x2) + (1 : Int32))) 40) (if (M 5 ((((5 : Int32) * x2) + (1 : Int32))).toNatClampNeg) = x1 then (m_X5_carries_J105 x2 x3 y2 M) else (m_X5_carries_J106 x2 x3 y2 ((1 : Int32)) M)))
def m_X5_carries_J65 (x1 : Int32) (x2 : Int32) (x3 : Int32) (M : Mm) : Option (Int32 × Mm) := bd (m_X5_says ((0 : Int32)) x1 x2 M) fun r4 M3 => if r4 = 0 then (m_X5_carries_J80 x1 x2 x3 ((0 : Int32)) M3) else (m_X5_carries_J80 x1 x2 x3 ((1 : Int32)) M3)
def m_X5_carries_J40 (x1 : Int32) (x2 : Int32) (x3 : Int32) (M : Mm) : Option (Int32 × Mm) := if x3 = (3 : Int32) then (gd (!(decide ((7 : Int32) = 0))) (gd (inr (((3 : Int32) * x1)) 15) (if (irm ((M 0 7)) ((7 : Int32))) = (M 4 (((3 : Int32) * x1)).toNatClampNeg) then (some ((0 : Int32), M)) else (m_X5_carries_J65 x1 x2 x3 M)))) else (m_X5_carries_J65 x1 x2 x3 M)
def m_X5_carries (x1 : Int32) (x2 : Int32) (M : Mm) : Option (Int32 × Mm) := gd (inr ((((3 : Int32) * x1) + (1 : Int32))) 15) (lt1 ((M 4 ((((3 : Int32) * x1) + (1 : Int32))).toNatClampNeg)) fun y5 => if ((shr ((M 0 13)) x1) &&& (1 : Int32)) = (1 : Int32) then (some ((0 : Int32), M)) else (if y5 = (4 : Int32) then (gd (inr (((3 : Int32) * x1)) 15) (if (4 : Int32) < (M 4 (((3 : Int32) * x1)).toNatClampNeg) then (some ((0 : Int32), M)) else (m_X5_carries_J40 x1 x2 y5 M))) else (m_X5_carries_J40 x1 x2 y5 M)))
set_option maxRecDepth 100000 in
set_option maxHeartbeats 4000000 in
theorem v_X5_carries_J161 {X : Cx} {G : Gx} {sh : List Sh} (hF : FX X G sh 6 cX5_carries (yX5_carries).cls (some .boolean) rmX5_carries) (hs : ModAt sh) : ∀ (M : Mm), VR X G sh 6 rvI M 161 [(0, .ref (G.2.2.2.2 0))] [] (m_X5_carries_J161   M) := by
  intro  M
  unfold m_X5_carries_J161
  refine v_iconst (1) 162 hF dX5_carries_161 rfl (by decide) ?_
  refine v_goto 166 hF dX5_carries_162 (by decide) ?_
  exact v_zret0 hF dX5_carries_166 rfl
set_option maxRecDepth 100000 in
set_option maxHeartbeats 4000000 in
theorem v_X5_carries_J123 {X : Cx} {G : Gx} {sh : List Sh} (hF : FX X G sh 6 cX5_carries (yX5_carries).cls (some .boolean) rmX5_carries) (hs : ModAt sh) : ∀ (x5 : Int32) (M : Mm), VR X G sh 6 rvI M 123 [(0, .ref (G.2.2.2.2 0)), (5, .int x5)] [] (m_X5_carries_J123  x5 M) := by
  intro x5 M
  unfold m_X5_carries_J123
  refine v_iload 1 125 hF dX5_carries_123 rfl rfl ?_
  refine v_if_eq 128 165 hF dX5_carries_125 rfl (by decide) (fun _ => ?_) (fun _ => ?_)
  · refine v_iconst (0) 166 hF dX5_carries_165 rfl (by decide) ?_
    exact v_zret0 hF dX5_carries_166 rfl
  · refine v_goto 161 hF dX5_carries_128 (by decide) ?_
    refine VR.pick [0] rfl ?_
    exact v_X5_carries_J161 hF hs M
set_option maxRecDepth 100000 in
set_option maxHeartbeats 4000000 in
theorem v_X5_carries_J106 {X : Cx} {G : Gx} {sh : List Sh} (hF : FX X G sh 6 cX5_carries (yX5_carries).cls (some .boolean) rmX5_carries) (hs : ModAt sh) : ∀ (x2 : Int32) (x3 : Int32) (x4 : Int32) (s0 : Int32) (M : Mm), VR X G sh 6 rvI M 106 [(0, .ref (G.2.2.2.2 0)), (2, .int x2), (3, .int x3), (4, .int x4)] [.int s0] (m_X5_carries_J106  x2 x3 x4 s0 M) := by
  intro x2 x3 x4 s0 M
  unfold m_X5_carries_J106
  refine v_istore (lo' := fun y1 => [(5, .int y1), (0, .ref (G.2.2.2.2 0)), (2, .int x2), (3, .int x3), (4, .int x4)]) 108 hF dX5_carries_106 rfl (by decide) (fun _ => rfl) (fun y1 => ?_)
  refine v_iload_n 3 109 hF dX5_carries_108 rfl rfl rfl ?_
  refine v_iconst (5) 110 hF dX5_carries_109 rfl (by decide) ?_
  refine v_icmp_eq 113 161 hF dX5_carries_110 rfl (by decide) (fun _ => ?_) (fun _ => ?_)
  · refine VR.pick [1] rfl ?_
    exact v_X5_carries_J161 hF hs M
  · refine v_iload_n 3 114 hF dX5_carries_113 rfl rfl rfl ?_
    refine v_iconst (2) 115 hF dX5_carries_114 rfl (by decide) ?_
    refine v_icmp_eq 118 123 hF dX5_carries_115 rfl (by decide) (fun _ => ?_) (fun _ => ?_)
    · refine VR.pick [1, 0] rfl ?_
      exact v_X5_carries_J123 hF hs y1 M
    · refine v_iload_n 3 119 hF dX5_carries_118 rfl rfl rfl ?_
      refine v_iconst (4) 120 hF dX5_carries_119 rfl (by decide) ?_
      refine v_icmp_ne 123 131 hF dX5_carries_120 rfl (by decide) (fun _ => ?_) (fun _ => ?_)
      · refine v_iload_n 3 132 hF dX5_carries_131 rfl rfl rfl ?_
        refine v_if_ne 135 143 hF dX5_carries_132 rfl (by decide) (fun _ => ?_) (fun _ => ?_)
        · refine v_iload 4 145 hF dX5_carries_143 rfl rfl ?_
          refine v_if_ne 148 161 hF dX5_carries_145 rfl (by decide) (fun _ => ?_) (fun _ => ?_)
          · refine VR.pick [1] rfl ?_
            exact v_X5_carries_J161 hF hs M
          · refine v_aload_n 1 149 hF dX5_carries_148 rfl rfl rfl ?_
            refine v_getR (b := 5) 152 hF dX5_carries_149 rfl fl_X5_29 hs.1 rfl ?_
            refine v_iconst (5) 153 hF dX5_carries_152 rfl (by decide) ?_
            refine v_iload_n 2 154 hF dX5_carries_153 rfl rfl rfl ?_
            refine v_imul 155 hF dX5_carries_154 rfl ?_
            refine v_iald 156 hF dX5_carries_155 rfl (hs.2.2.2.2.2.1) ?_
            refine v_bipush (49) 158 hF dX5_carries_156 rfl (by decide) ?_
            refine v_icmp_le 161 165 hF dX5_carries_158 rfl (by decide) (fun _ => ?_) (fun _ => ?_)
            · refine v_iconst (0) 166 hF dX5_carries_165 rfl (by decide) ?_
              exact v_zret0 hF dX5_carries_166 rfl
            · refine VR.pick [1] rfl ?_
              exact v_X5_carries_J161 hF hs M
        · refine v_iload 4 137 hF dX5_carries_135 rfl rfl ?_
          refine v_if_eq 140 165 hF dX5_carries_137 rfl (by decide) (fun _ => ?_) (fun _ => ?_)
          · refine v_iconst (0) 166 hF dX5_carries_165 rfl (by decide) ?_
            exact v_zret0 hF dX5_carries_166 rfl
          · refine v_goto 161 hF dX5_carries_140 (by decide) ?_
            refine VR.pick [1] rfl ?_
            exact v_X5_carries_J161 hF hs M
      · refine VR.pick [1, 0] rfl ?_
        exact v_X5_carries_J123 hF hs y1 M
set_option maxRecDepth 100000 in
set_option maxHeartbeats 4000000 in
theorem v_X5_carries_J105 {X : Cx} {G : Gx} {sh : List Sh} (hF : FX X G sh 6 cX5_carries (yX5_carries).cls (some .boolean) rmX5_carries) (hs : ModAt sh) : ∀ (x2 : Int32) (x3 : Int32) (x4 : Int32) (M : Mm), VR X G sh 6 rvI M 105 [(0, .ref (G.2.2.2.2 0)), (2, .int x2), (3, .int x3), (4, .int x4)] [] (m_X5_carries_J105  x2 x3 x4 M) := by
  intro x2 x3 x4 M
  unfold m_X5_carries_J105
  refine v_iconst (0) 106 hF dX5_carries_105 rfl (by decide) ?_
  refine VR.pick [0, 1, 2, 3] rfl ?_
  exact v_X5_carries_J106 hF hs x2 x3 x4 ((0 : Int32)) M
set_option maxRecDepth 100000 in
set_option maxHeartbeats 4000000 in
theorem v_X5_carries_J80 {X : Cx} {G : Gx} {sh : List Sh} (hF : FX X G sh 6 cX5_carries (yX5_carries).cls (some .boolean) rmX5_carries) (hs : ModAt sh) : ∀ (x1 : Int32) (x2 : Int32) (x3 : Int32) (s0 : Int32) (M : Mm), VR X G sh 6 rvI M 80 [(0, .ref (G.2.2.2.2 0)), (1, .int x1), (2, .int x2), (3, .int x3)] [.int s0] (m_X5_carries_J80  x1 x2 x3 s0 M) := by
  intro x1 x2 x3 s0 M
  unfold m_X5_carries_J80
  refine v_istore (lo' := fun y2 => [(4, .int y2), (0, .ref (G.2.2.2.2 0)), (1, .int x1), (2, .int x2), (3, .int x3)]) 82 hF dX5_carries_80 rfl (by decide) (fun _ => rfl) (fun y2 => ?_)
  refine v_iload 0 84 hF dX5_carries_82 rfl rfl ?_
  refine v_if_eq 87 105 hF dX5_carries_84 rfl (by decide) (fun _ => ?_) (fun _ => ?_)
  · refine VR.pick [1, 3, 4, 0] rfl ?_
    exact v_X5_carries_J105 hF hs x2 x3 y2 M
  · refine v_aload_n 1 88 hF dX5_carries_87 rfl rfl rfl ?_
    refine v_getR (b := 5) 91 hF dX5_carries_88 rfl fl_X5_29 hs.1 rfl ?_
    refine v_iconst (5) 92 hF dX5_carries_91 rfl (by decide) ?_
    refine v_iload_n 3 93 hF dX5_carries_92 rfl rfl rfl ?_
    refine v_imul 94 hF dX5_carries_93 rfl ?_
    refine v_iconst (1) 95 hF dX5_carries_94 rfl (by decide) ?_
    refine v_iadd 96 hF dX5_carries_95 rfl ?_
    refine v_iald 97 hF dX5_carries_96 rfl (hs.2.2.2.2.2.1) ?_
    refine v_iload_n 2 98 hF dX5_carries_97 rfl rfl rfl ?_
    refine v_icmp_eq 101 105 hF dX5_carries_98 rfl (by decide) (fun _ => ?_) (fun _ => ?_)
    · refine VR.pick [1, 3, 4, 0] rfl ?_
      exact v_X5_carries_J105 hF hs x2 x3 y2 M
    · refine v_iconst (1) 102 hF dX5_carries_101 rfl (by decide) ?_
      refine v_goto 106 hF dX5_carries_102 (by decide) ?_
      refine VR.pick [1, 3, 4, 0] rfl ?_
      exact v_X5_carries_J106 hF hs x2 x3 y2 ((1 : Int32)) M
set_option maxRecDepth 100000 in
set_option maxHeartbeats 4000000 in
theorem v_X5_carries_J65 {X : Cx} {G : Gx} {sh : List Sh} (hF : FX X G sh 6 cX5_carries (yX5_carries).cls (some .boolean) rmX5_carries) (hs : ModAt sh) : ∀ (x1 : Int32) (x2 : Int32) (x3 : Int32) (M : Mm), VR X G sh 6 rvI M 65 [(0, .ref (G.2.2.2.2 0)), (1, .int x1), (2, .int x2), (3, .int x3)] [] (m_X5_carries_J65  x1 x2 x3 M) := by
  intro x1 x2 x3 M
  unfold m_X5_carries_J65
  refine v_aload_n 0 66 hF dX5_carries_65 rfl rfl rfl ?_
  refine v_iconst (0) 67 hF dX5_carries_66 rfl (by decide) ?_
  refine v_iload_n 1 68 hF dX5_carries_67 rfl rfl rfl ?_
  refine v_iload_n 2 69 hF dX5_carries_68 rfl rfl rfl ?_
  refine v_callI ([.int ((0 : Int32)), .int x1, .int x2]) ([]) 72 hF dX5_carries_69 rfl cw_X5_256 rfl (hs.1) (c_X5_says (G := G) hs M ((0 : Int32)) x1 x2) ⟨rfl, rfl, Nat.le_of_ble_eq_true rfl, Nat.le_of_ble_eq_true rfl⟩ rfl rfl (Nat.le_of_ble_eq_true rfl) (fun r4 M3 => ?_)
  refine v_if_eq 75 79 hF dX5_carries_72 rfl (by decide) (fun _ => ?_) (fun _ => ?_)
  · refine v_iconst (0) 80 hF dX5_carries_79 rfl (by decide) ?_
    refine VR.pick [0, 1, 2, 3] rfl ?_
    exact v_X5_carries_J80 hF hs x1 x2 x3 ((0 : Int32)) M3
  · refine v_iconst (1) 76 hF dX5_carries_75 rfl (by decide) ?_
    refine v_goto 80 hF dX5_carries_76 (by decide) ?_
    refine VR.pick [0, 1, 2, 3] rfl ?_
    exact v_X5_carries_J80 hF hs x1 x2 x3 ((1 : Int32)) M3
set_option maxRecDepth 100000 in
set_option maxHeartbeats 4000000 in
theorem v_X5_carries_J40 {X : Cx} {G : Gx} {sh : List Sh} (hF : FX X G sh 6 cX5_carries (yX5_carries).cls (some .boolean) rmX5_carries) (hs : ModAt sh) : ∀ (x1 : Int32) (x2 : Int32) (x3 : Int32) (M : Mm), VR X G sh 6 rvI M 40 [(0, .ref (G.2.2.2.2 0)), (1, .int x1), (2, .int x2), (3, .int x3)] [] (m_X5_carries_J40  x1 x2 x3 M) := by
  intro x1 x2 x3 M
  unfold m_X5_carries_J40
  refine v_iload_n 3 41 hF dX5_carries_40 rfl rfl rfl ?_
  refine v_iconst (3) 42 hF dX5_carries_41 rfl (by decide) ?_
  refine v_icmp_ne 45 65 hF dX5_carries_42 rfl (by decide) (fun _ => ?_) (fun _ => ?_)
  · refine VR.pick [0, 1, 2, 3] rfl ?_
    exact v_X5_carries_J65 hF hs x1 x2 x3 M
  · refine v_aload_n 0 46 hF dX5_carries_45 rfl rfl rfl ?_
    refine v_getI 49 hF dX5_carries_46 rfl fl_X5_108 hs.1 rfl ?_
    refine v_bipush (7) 51 hF dX5_carries_49 rfl (by decide) ?_
    refine v_irem 52 hF dX5_carries_51 rfl ?_
    refine v_aload_n 0 53 hF dX5_carries_52 rfl rfl rfl ?_
    refine v_getR (b := 4) 56 hF dX5_carries_53 rfl fl_X5_26 hs.1 rfl ?_
    refine v_iconst (3) 57 hF dX5_carries_56 rfl (by decide) ?_
    refine v_iload_n 1 58 hF dX5_carries_57 rfl rfl rfl ?_
    refine v_imul 59 hF dX5_carries_58 rfl ?_
    refine v_iald 60 hF dX5_carries_59 rfl (hs.2.2.2.2.1) ?_
    refine v_icmp_ne 63 65 hF dX5_carries_60 rfl (by decide) (fun _ => ?_) (fun _ => ?_)
    · refine VR.pick [0, 1, 2, 3] rfl ?_
      exact v_X5_carries_J65 hF hs x1 x2 x3 M
    · refine v_iconst (0) 64 hF dX5_carries_63 rfl (by decide) ?_
      exact v_zret0 hF dX5_carries_64 rfl
set_option maxRecDepth 100000 in
set_option maxHeartbeats 4000000 in
theorem c_X5_carries {G : Gx} {sh : List Sh} (hs : ModAt sh) (M : Mm) (x1 : Int32) (x2 : Int32) : CT yX5_carries cX5_carries 6 (some .boolean) rmX5_carries G sh [.ref (G.2.2.2.2 0), .int x1, .int x2] rvI M (m_X5_carries  x1 x2 M) := by
  refine CT.of (by decide +kernel) (Nat.le_of_ble_eq_true rfl) (fun X hF => ?_)
  show VR X G sh 6 rvI M 0 [(0, .ref (G.2.2.2.2 0)), (1, .int x1), (2, .int x2)] [] _
  unfold m_X5_carries
  refine v_aload_n 0 1 hF dX5_carries_0 rfl rfl rfl ?_
  refine v_getR (b := 4) 4 hF dX5_carries_1 rfl fl_X5_26 hs.1 rfl ?_
  refine v_iconst (3) 5 hF dX5_carries_4 rfl (by decide) ?_
  refine v_iload_n 1 6 hF dX5_carries_5 rfl rfl rfl ?_
  refine v_imul 7 hF dX5_carries_6 rfl ?_
  refine v_iconst (1) 8 hF dX5_carries_7 rfl (by decide) ?_
  refine v_iadd 9 hF dX5_carries_8 rfl ?_
  refine v_iald 10 hF dX5_carries_9 rfl (hs.2.2.2.2.1) ?_
  refine v_istore_n (lo' := fun y5 => [(3, .int y5), (0, .ref (G.2.2.2.2 0)), (1, .int x1), (2, .int x2)]) 11 hF dX5_carries_10 rfl rfl (by decide) (fun _ => rfl) (fun y5 => ?_)
  refine v_aload_n 1 12 hF dX5_carries_11 rfl rfl rfl ?_
  refine v_getI 15 hF dX5_carries_12 rfl fl_X5_253 hs.1 rfl ?_
  refine v_iload_n 2 16 hF dX5_carries_15 rfl rfl rfl ?_
  refine v_ishr 17 hF dX5_carries_16 rfl ?_
  refine v_iconst (1) 18 hF dX5_carries_17 rfl (by decide) ?_
  refine v_iand 19 hF dX5_carries_18 rfl ?_
  refine v_iconst (1) 20 hF dX5_carries_19 rfl (by decide) ?_
  refine v_icmp_eq 23 63 hF dX5_carries_20 rfl (by decide) (fun _ => ?_) (fun _ => ?_)
  · refine v_iconst (0) 64 hF dX5_carries_63 rfl (by decide) ?_
    exact v_zret0 hF dX5_carries_64 rfl
  · refine v_iload_n 0 24 hF dX5_carries_23 rfl rfl rfl ?_
    refine v_iconst (4) 25 hF dX5_carries_24 rfl (by decide) ?_
    refine v_icmp_ne 28 40 hF dX5_carries_25 rfl (by decide) (fun _ => ?_) (fun _ => ?_)
    · refine VR.pick [1, 2, 3, 0] rfl ?_
      exact v_X5_carries_J40 hF hs x1 x2 y5 M
    · refine v_aload_n 1 29 hF dX5_carries_28 rfl rfl rfl ?_
      refine v_getR (b := 4) 32 hF dX5_carries_29 rfl fl_X5_26 hs.1 rfl ?_
      refine v_iconst (3) 33 hF dX5_carries_32 rfl (by decide) ?_
      refine v_iload_n 2 34 hF dX5_carries_33 rfl rfl rfl ?_
      refine v_imul 35 hF dX5_carries_34 rfl ?_
      refine v_iald 36 hF dX5_carries_35 rfl (hs.2.2.2.2.1) ?_
      refine v_iconst (4) 37 hF dX5_carries_36 rfl (by decide) ?_
      refine v_icmp_gt 40 63 hF dX5_carries_37 rfl (by decide) (fun _ => ?_) (fun _ => ?_)
      · refine v_iconst (0) 64 hF dX5_carries_63 rfl (by decide) ?_
        exact v_zret0 hF dX5_carries_64 rfl
      · refine VR.pick [1, 2, 3, 0] rfl ?_
        exact v_X5_carries_J40 hF hs x1 x2 y5 M
abbrev rmX5_softens : Room := { frames := 67, cells := 0, slots := 0, locals := 3044 }
def m_X5_softens_J36 (x1 : Int32) (x2 : Int32) (x3 : Int32) (M : Mm) : Option (Int32 × Mm) := bd (m_X5_says ((1 : Int32)) x1 x2 M) fun r2 M1 => lt1 r2 fun y3 => gd (inr (((3 : Int32) * x1)) 15) (lt1 ((y3 + (M1 4 (((3 : Int32) * x1)).toNatClampNeg))) fun y4 => if x3 = (2 : Int32) then (some (y4, M1)) else (if x3 = (4 : Int32) then (some ((-y4), M1)) else (if x3 = 0 then (some (y3, M1)) else (some (((2 : Int32) * y3), M1)))))
def m_X5_softens (x1 : Int32) (x2 : Int32) (M : Mm) : Option (Int32 × Mm) := gd (inr ((((3 : Int32) * x1) + (1 : Int32))) 15) (lt1 ((M 4 ((((3 : Int32) * x1) + (1 : Int32))).toNatClampNeg)) fun y5 => if y5 = (5 : Int32) then (some ((0 : Int32), M)) else (if y5 = (3 : Int32) then (gd (inr (((5 : Int32) * x2)) 40) (if (21 : Int32) ≤ (M 5 (((5 : Int32) * x2)).toNatClampNeg) then (m_X5_softens_J36 x1 x2 y5 M) else (some ((0 : Int32), M)))) else (m_X5_softens_J36 x1 x2 y5 M)))
set_option maxRecDepth 100000 in
set_option maxHeartbeats 4000000 in
theorem v_X5_softens_J36 {X : Cx} {G : Gx} {sh : List Sh} (hF : FX X G sh 6 cX5_softens (yX5_softens).cls (some .int) rmX5_softens) (hs : ModAt sh) : ∀ (x1 : Int32) (x2 : Int32) (x3 : Int32) (M : Mm), VR X G sh 6 rvI M 36 [(0, .ref (G.2.2.2.2 0)), (1, .int x1), (2, .int x2), (3, .int x3)] [] (m_X5_softens_J36  x1 x2 x3 M) := by
  intro x1 x2 x3 M
  unfold m_X5_softens_J36
  refine v_aload_n 0 37 hF dX5_softens_36 rfl rfl rfl ?_
  refine v_iconst (1) 38 hF dX5_softens_37 rfl (by decide) ?_
  refine v_iload_n 1 39 hF dX5_softens_38 rfl rfl rfl ?_
  refine v_iload_n 2 40 hF dX5_softens_39 rfl rfl rfl ?_
  refine v_callI ([.int ((1 : Int32)), .int x1, .int x2]) ([]) 43 hF dX5_softens_40 rfl cw_X5_256 rfl (hs.1) (c_X5_says (G := G) hs M ((1 : Int32)) x1 x2) ⟨rfl, rfl, Nat.le_of_ble_eq_true rfl, Nat.le_of_ble_eq_true rfl⟩ rfl rfl (Nat.le_of_ble_eq_true rfl) (fun r2 M1 => ?_)
  refine v_istore (lo' := fun y3 => [(4, .int y3), (0, .ref (G.2.2.2.2 0)), (1, .int x1), (2, .int x2), (3, .int x3)]) 45 hF dX5_softens_43 rfl (by decide) (fun _ => rfl) (fun y3 => ?_)
  refine v_iload 0 47 hF dX5_softens_45 rfl rfl ?_
  refine v_aload_n 1 48 hF dX5_softens_47 rfl rfl rfl ?_
  refine v_getR (b := 4) 51 hF dX5_softens_48 rfl fl_X5_26 hs.1 rfl ?_
  refine v_iconst (3) 52 hF dX5_softens_51 rfl (by decide) ?_
  refine v_iload_n 2 53 hF dX5_softens_52 rfl rfl rfl ?_
  refine v_imul 54 hF dX5_softens_53 rfl ?_
  refine v_iald 55 hF dX5_softens_54 rfl (hs.2.2.2.2.1) ?_
  refine v_iadd 56 hF dX5_softens_55 rfl ?_
  refine v_istore (lo' := fun y4 => [(5, .int y4), (4, .int y3), (0, .ref (G.2.2.2.2 0)), (1, .int x1), (2, .int x2), (3, .int x3)]) 58 hF dX5_softens_56 rfl (by decide) (fun _ => rfl) (fun y4 => ?_)
  refine v_iload_n 5 59 hF dX5_softens_58 rfl rfl rfl ?_
  refine v_iconst (2) 60 hF dX5_softens_59 rfl (by decide) ?_
  refine v_icmp_ne 63 68 hF dX5_softens_60 rfl (by decide) (fun _ => ?_) (fun _ => ?_)
  · refine v_iload_n 5 69 hF dX5_softens_68 rfl rfl rfl ?_
    refine v_iconst (4) 70 hF dX5_softens_69 rfl (by decide) ?_
    refine v_icmp_ne 73 79 hF dX5_softens_70 rfl (by decide) (fun _ => ?_) (fun _ => ?_)
    · refine v_iload_n 5 80 hF dX5_softens_79 rfl rfl rfl ?_
      refine v_if_ne 83 88 hF dX5_softens_80 rfl (by decide) (fun _ => ?_) (fun _ => ?_)
      · refine v_iconst (2) 89 hF dX5_softens_88 rfl (by decide) ?_
        refine v_iload 1 91 hF dX5_softens_89 rfl rfl ?_
        refine v_imul 92 hF dX5_softens_91 rfl ?_
        exact v_iret hF dX5_softens_92
      · refine v_iload 1 85 hF dX5_softens_83 rfl rfl ?_
        refine v_goto 92 hF dX5_softens_85 (by decide) ?_
        exact v_iret hF dX5_softens_92
    · refine v_iload 0 75 hF dX5_softens_73 rfl rfl ?_
      refine v_ineg 76 hF dX5_softens_75 rfl ?_
      refine v_goto 92 hF dX5_softens_76 (by decide) ?_
      exact v_iret hF dX5_softens_92
  · refine v_iload 0 65 hF dX5_softens_63 rfl rfl ?_
    refine v_goto 92 hF dX5_softens_65 (by decide) ?_
    exact v_iret hF dX5_softens_92
set_option maxRecDepth 100000 in
set_option maxHeartbeats 4000000 in
theorem c_X5_softens {G : Gx} {sh : List Sh} (hs : ModAt sh) (M : Mm) (x1 : Int32) (x2 : Int32) : CT yX5_softens cX5_softens 6 (some .int) rmX5_softens G sh [.ref (G.2.2.2.2 0), .int x1, .int x2] rvI M (m_X5_softens  x1 x2 M) := by
  refine CT.of (by decide +kernel) (Nat.le_of_ble_eq_true rfl) (fun X hF => ?_)
  show VR X G sh 6 rvI M 0 [(0, .ref (G.2.2.2.2 0)), (1, .int x1), (2, .int x2)] [] _
  unfold m_X5_softens
  refine v_aload_n 0 1 hF dX5_softens_0 rfl rfl rfl ?_
  refine v_getR (b := 4) 4 hF dX5_softens_1 rfl fl_X5_26 hs.1 rfl ?_
  refine v_iconst (3) 5 hF dX5_softens_4 rfl (by decide) ?_
  refine v_iload_n 1 6 hF dX5_softens_5 rfl rfl rfl ?_
  refine v_imul 7 hF dX5_softens_6 rfl ?_
  refine v_iconst (1) 8 hF dX5_softens_7 rfl (by decide) ?_
  refine v_iadd 9 hF dX5_softens_8 rfl ?_
  refine v_iald 10 hF dX5_softens_9 rfl (hs.2.2.2.2.1) ?_
  refine v_istore_n (lo' := fun y5 => [(3, .int y5), (0, .ref (G.2.2.2.2 0)), (1, .int x1), (2, .int x2)]) 11 hF dX5_softens_10 rfl rfl (by decide) (fun _ => rfl) (fun y5 => ?_)
  refine v_iload_n 0 12 hF dX5_softens_11 rfl rfl rfl ?_
  refine v_iconst (5) 13 hF dX5_softens_12 rfl (by decide) ?_
  refine v_icmp_eq 16 34 hF dX5_softens_13 rfl (by decide) (fun _ => ?_) (fun _ => ?_)
  · refine v_iconst (0) 35 hF dX5_softens_34 rfl (by decide) ?_
    exact v_iret hF dX5_softens_35
  · refine v_iload_n 0 17 hF dX5_softens_16 rfl rfl rfl ?_
    refine v_iconst (3) 18 hF dX5_softens_17 rfl (by decide) ?_
    refine v_icmp_ne 21 36 hF dX5_softens_18 rfl (by decide) (fun _ => ?_) (fun _ => ?_)
    · refine VR.pick [1, 2, 3, 0] rfl ?_
      exact v_X5_softens_J36 hF hs x1 x2 y5 M
    · refine v_aload_n 1 22 hF dX5_softens_21 rfl rfl rfl ?_
      refine v_getR (b := 5) 25 hF dX5_softens_22 rfl fl_X5_29 hs.1 rfl ?_
      refine v_iconst (5) 26 hF dX5_softens_25 rfl (by decide) ?_
      refine v_iload_n 3 27 hF dX5_softens_26 rfl rfl rfl ?_
      refine v_imul 28 hF dX5_softens_27 rfl ?_
      refine v_iald 29 hF dX5_softens_28 rfl (hs.2.2.2.2.2.1) ?_
      refine v_bipush (21) 31 hF dX5_softens_29 rfl (by decide) ?_
      refine v_icmp_ge 34 36 hF dX5_softens_31 rfl (by decide) (fun _ => ?_) (fun _ => ?_)
      · refine VR.pick [1, 2, 3, 0] rfl ?_
        exact v_X5_softens_J36 hF hs x1 x2 y5 M
      · refine v_iconst (0) 35 hF dX5_softens_34 rfl (by decide) ?_
        exact v_iret hF dX5_softens_35
abbrev rmX5_writesOf : Room := { frames := 67, cells := 0, slots := 0, locals := 3044 }
def m_X5_writesOf_J64 (s0 : Int32) (M : Mm) : Option (Int32 × Mm) := bd (m_X5_within s0 ((0 : Int32)) ((99 : Int32)) M) fun r2 M1 => some (r2, M1)
def m_X5_writesOf_J46 (x3 : Int32) (M : Mm) : Option (Int32 × Mm) := gd (!(decide ((2 : Int32) = 0))) (m_X5_writesOf_J64 ((x3 / (2 : Int32))) M)
def m_X5_writesOf (x1 : Int32) (M : Mm) : Option (Int32 × Mm) := gd (inr ((((3 : Int32) * x1) + (1 : Int32))) 15) (lt1 ((M 4 ((((3 : Int32) * x1) + (1 : Int32))).toNatClampNeg)) fun y3 => if y3 = (5 : Int32) then (gd (inr (((3 : Int32) * x1)) 15) (some (((10 : Int32) * (M 4 (((3 : Int32) * x1)).toNatClampNeg)), M))) else (bd (m_X5_says ((2 : Int32)) x1 ((-1 : Int32)) M) fun r5 M4 => lt1 r5 fun y6 => if y3 = (1 : Int32) then (m_X5_writesOf_J46 y6 M4) else (if y3 = (3 : Int32) then (m_X5_writesOf_J46 y6 M4) else (if y3 = 0 then (m_X5_writesOf_J64 y6 M4) else (m_X5_writesOf_J64 (((99 : Int32) - y6)) M4)))))
set_option maxRecDepth 100000 in
set_option maxHeartbeats 4000000 in
theorem v_X5_writesOf_J64 {X : Cx} {G : Gx} {sh : List Sh} (hF : FX X G sh 4 cX5_writesOf (yX5_writesOf).cls (some .int) rmX5_writesOf) (hs : ModAt sh) : ∀ (s0 : Int32) (M : Mm), VR X G sh 4 rvI M 64 [(0, .ref (G.2.2.2.2 0))] [.int s0] (m_X5_writesOf_J64  s0 M) := by
  intro s0 M
  unfold m_X5_writesOf_J64
  refine v_iconst (0) 65 hF dX5_writesOf_64 rfl (by decide) ?_
  refine v_bipush (99) 67 hF dX5_writesOf_65 rfl (by decide) ?_
  refine v_staI ([.int s0, .int ((0 : Int32)), .int ((99 : Int32))]) ([]) 70 hF dX5_writesOf_67 rfl cw_X5_249 (c_X5_within (G := G) (sh := sh) M s0 ((0 : Int32)) ((99 : Int32))) ⟨rfl, rfl, Nat.le_of_ble_eq_true rfl, Nat.le_of_ble_eq_true rfl⟩ rfl rfl (Nat.le_of_ble_eq_true rfl) (fun r2 M1 => ?_)
  exact v_iret hF dX5_writesOf_70
set_option maxRecDepth 100000 in
set_option maxHeartbeats 4000000 in
theorem v_X5_writesOf_J46 {X : Cx} {G : Gx} {sh : List Sh} (hF : FX X G sh 4 cX5_writesOf (yX5_writesOf).cls (some .int) rmX5_writesOf) (hs : ModAt sh) : ∀ (x3 : Int32) (M : Mm), VR X G sh 4 rvI M 46 [(0, .ref (G.2.2.2.2 0)), (3, .int x3)] [] (m_X5_writesOf_J46  x3 M) := by
  intro x3 M
  unfold m_X5_writesOf_J46
  refine v_iload_n 1 47 hF dX5_writesOf_46 rfl rfl rfl ?_
  refine v_iconst (2) 48 hF dX5_writesOf_47 rfl (by decide) ?_
  refine v_idiv 49 hF dX5_writesOf_48 rfl ?_
  refine v_goto 64 hF dX5_writesOf_49 (by decide) ?_
  refine VR.pick [0] rfl ?_
  exact v_X5_writesOf_J64 hF hs ((x3 / (2 : Int32))) M
set_option maxRecDepth 100000 in
set_option maxHeartbeats 4000000 in
theorem c_X5_writesOf {G : Gx} {sh : List Sh} (hs : ModAt sh) (M : Mm) (x1 : Int32) : CT yX5_writesOf cX5_writesOf 4 (some .int) rmX5_writesOf G sh [.ref (G.2.2.2.2 0), .int x1] rvI M (m_X5_writesOf  x1 M) := by
  refine CT.of (by decide +kernel) (Nat.le_of_ble_eq_true rfl) (fun X hF => ?_)
  show VR X G sh 4 rvI M 0 [(0, .ref (G.2.2.2.2 0)), (1, .int x1)] [] _
  unfold m_X5_writesOf
  refine v_aload_n 0 1 hF dX5_writesOf_0 rfl rfl rfl ?_
  refine v_getR (b := 4) 4 hF dX5_writesOf_1 rfl fl_X5_26 hs.1 rfl ?_
  refine v_iconst (3) 5 hF dX5_writesOf_4 rfl (by decide) ?_
  refine v_iload_n 1 6 hF dX5_writesOf_5 rfl rfl rfl ?_
  refine v_imul 7 hF dX5_writesOf_6 rfl ?_
  refine v_iconst (1) 8 hF dX5_writesOf_7 rfl (by decide) ?_
  refine v_iadd 9 hF dX5_writesOf_8 rfl ?_
  refine v_iald 10 hF dX5_writesOf_9 rfl (hs.2.2.2.2.1) ?_
  refine v_istore_n (lo' := fun y3 => [(2, .int y3), (0, .ref (G.2.2.2.2 0)), (1, .int x1)]) 11 hF dX5_writesOf_10 rfl rfl (by decide) (fun _ => rfl) (fun y3 => ?_)
  refine v_iload_n 0 12 hF dX5_writesOf_11 rfl rfl rfl ?_
  refine v_iconst (5) 13 hF dX5_writesOf_12 rfl (by decide) ?_
  refine v_icmp_ne 16 28 hF dX5_writesOf_13 rfl (by decide) (fun _ => ?_) (fun _ => ?_)
  · refine v_aload_n 1 29 hF dX5_writesOf_28 rfl rfl rfl ?_
    refine v_iconst (2) 30 hF dX5_writesOf_29 rfl (by decide) ?_
    refine v_iload_n 2 31 hF dX5_writesOf_30 rfl rfl rfl ?_
    refine v_iconst (-1) 32 hF dX5_writesOf_31 rfl (by decide) ?_
    refine v_callI ([.int ((2 : Int32)), .int x1, .int ((-1 : Int32))]) ([]) 35 hF dX5_writesOf_32 rfl cw_X5_256 rfl (hs.1) (c_X5_says (G := G) hs M ((2 : Int32)) x1 ((-1 : Int32))) ⟨rfl, rfl, Nat.le_of_ble_eq_true rfl, Nat.le_of_ble_eq_true rfl⟩ rfl rfl (Nat.le_of_ble_eq_true rfl) (fun r5 M4 => ?_)
    refine v_istore_n (lo' := fun y6 => [(3, .int y6), (2, .int y3), (0, .ref (G.2.2.2.2 0)), (1, .int x1)]) 36 hF dX5_writesOf_35 rfl rfl (by decide) (fun _ => rfl) (fun y6 => ?_)
    refine v_iload_n 1 37 hF dX5_writesOf_36 rfl rfl rfl ?_
    refine v_iconst (1) 38 hF dX5_writesOf_37 rfl (by decide) ?_
    refine v_icmp_eq 41 46 hF dX5_writesOf_38 rfl (by decide) (fun _ => ?_) (fun _ => ?_)
    · refine VR.pick [2, 0] rfl ?_
      exact v_X5_writesOf_J46 hF hs y6 M4
    · refine v_iload_n 1 42 hF dX5_writesOf_41 rfl rfl rfl ?_
      refine v_iconst (3) 43 hF dX5_writesOf_42 rfl (by decide) ?_
      refine v_icmp_ne 46 52 hF dX5_writesOf_43 rfl (by decide) (fun _ => ?_) (fun _ => ?_)
      · refine v_iload_n 1 53 hF dX5_writesOf_52 rfl rfl rfl ?_
        refine v_if_ne 56 60 hF dX5_writesOf_53 rfl (by decide) (fun _ => ?_) (fun _ => ?_)
        · refine v_bipush (99) 62 hF dX5_writesOf_60 rfl (by decide) ?_
          refine v_iload_n 0 63 hF dX5_writesOf_62 rfl rfl rfl ?_
          refine v_isub 64 hF dX5_writesOf_63 rfl ?_
          refine VR.pick [2] rfl ?_
          exact v_X5_writesOf_J64 hF hs (((99 : Int32) - y6)) M4
        · refine v_iload_n 0 57 hF dX5_writesOf_56 rfl rfl rfl ?_
          refine v_goto 64 hF dX5_writesOf_57 (by decide) ?_
          refine VR.pick [2] rfl ?_
          exact v_X5_writesOf_J64 hF hs y6 M4
      · refine VR.pick [2, 0] rfl ?_
        exact v_X5_writesOf_J46 hF hs y6 M4
  · refine v_bipush (10) 18 hF dX5_writesOf_16 rfl (by decide) ?_
    refine v_aload_n 1 19 hF dX5_writesOf_18 rfl rfl rfl ?_
    refine v_getR (b := 4) 22 hF dX5_writesOf_19 rfl fl_X5_26 hs.1 rfl ?_
    refine v_iconst (3) 23 hF dX5_writesOf_22 rfl (by decide) ?_
    refine v_iload_n 2 24 hF dX5_writesOf_23 rfl rfl rfl ?_
    refine v_imul 25 hF dX5_writesOf_24 rfl ?_
    refine v_iald 26 hF dX5_writesOf_25 rfl (hs.2.2.2.2.1) ?_
    refine v_imul 27 hF dX5_writesOf_26 rfl ?_
    exact v_iret hF dX5_writesOf_27
abbrev rmX5_asks : Room := { frames := 68, cells := 0, slots := 0, locals := 3069 }
def m_X5_asks (x1 : Int32) (x2 : Int32) (x3 : Int32) (M : Mm) : Option (Int32 × Mm) := bd (m_X5_isOne x1 M) fun r2 M1 => if r2 = 0 then (some ((-1000 : Int32), M1)) else (bd (m_X5_isLetter x2 M1) fun r4 M3 => if r4 = 0 then (some ((-1000 : Int32), M3)) else (bd (m_X5_in (((x3).toInt64)) ((0 : Int64)) ((1 : Int64)) M3) fun r6 M5 => if r6 = 0 then (some ((-1000 : Int32), M5)) else (if x3 = (1 : Int32) then (bd (m_X5_softens x1 x2 M5) fun r10 M9 => some (r10, M9)) else (bd (m_X5_carries x1 x2 M5) fun r8 M7 => if r8 = 0 then (some ((0 : Int32), M7)) else (some ((1 : Int32), M7))))))
set_option maxRecDepth 100000 in
set_option maxHeartbeats 4000000 in
theorem c_X5_asks {G : Gx} {sh : List Sh} (hs : ModAt sh) (M : Mm) (x1 : Int32) (x2 : Int32) (x3 : Int32) : CT yX5_asks cX5_asks 4 (some .int) rmX5_asks G sh [.ref (G.2.2.2.2 0), .int x1, .int x2, .int x3] rvI M (m_X5_asks  x1 x2 x3 M) := by
  refine CT.of (by decide +kernel) (Nat.le_of_ble_eq_true rfl) (fun X hF => ?_)
  show VR X G sh 4 rvI M 0 [(0, .ref (G.2.2.2.2 0)), (1, .int x1), (2, .int x2), (3, .int x3)] [] _
  unfold m_X5_asks
  refine v_aload_n 0 1 hF dX5_asks_0 rfl rfl rfl ?_
  refine v_iload_n 1 2 hF dX5_asks_1 rfl rfl rfl ?_
  refine v_callI ([.int x1]) ([]) 5 hF dX5_asks_2 rfl cw_X5_83 rfl (hs.1) (c_X5_isOne (G := G) hs M x1) ⟨rfl, rfl, Nat.le_of_ble_eq_true rfl, Nat.le_of_ble_eq_true rfl⟩ rfl rfl (Nat.le_of_ble_eq_true rfl) (fun r2 M1 => ?_)
  refine v_if_eq 8 26 hF dX5_asks_5 rfl (by decide) (fun _ => ?_) (fun _ => ?_)
  · refine v_sipush (-1000) 29 hF dX5_asks_26 rfl (by decide) ?_
    exact v_iret hF dX5_asks_29
  · refine v_aload_n 0 9 hF dX5_asks_8 rfl rfl rfl ?_
    refine v_iload_n 2 10 hF dX5_asks_9 rfl rfl rfl ?_
    refine v_callI ([.int x2]) ([]) 13 hF dX5_asks_10 rfl cw_X5_87 rfl (hs.1) (c_X5_isLetter (G := G) hs M1 x2) ⟨rfl, rfl, Nat.le_of_ble_eq_true rfl, Nat.le_of_ble_eq_true rfl⟩ rfl rfl (Nat.le_of_ble_eq_true rfl) (fun r4 M3 => ?_)
    refine v_if_eq 16 26 hF dX5_asks_13 rfl (by decide) (fun _ => ?_) (fun _ => ?_)
    · refine v_sipush (-1000) 29 hF dX5_asks_26 rfl (by decide) ?_
      exact v_iret hF dX5_asks_29
    · refine v_iload_n 3 17 hF dX5_asks_16 rfl rfl rfl ?_
      refine v_i2l 18 hF dX5_asks_17 rfl ?_
      refine v_lconst 0 19 hF dX5_asks_18 rfl (by decide) ?_
      refine v_lconst 1 20 hF dX5_asks_19 rfl (by decide) ?_
      refine v_staI ([.long (((x3).toInt64)), .long ((0 : Int64)), .long ((1 : Int64))]) ([]) 23 hF dX5_asks_20 rfl cw_X5_76 (c_X5_in (G := G) (sh := sh) M3 (((x3).toInt64)) ((0 : Int64)) ((1 : Int64))) ⟨rfl, rfl, Nat.le_of_ble_eq_true rfl, Nat.le_of_ble_eq_true rfl⟩ rfl rfl (Nat.le_of_ble_eq_true rfl) (fun r6 M5 => ?_)
      refine v_if_ne 26 30 hF dX5_asks_23 rfl (by decide) (fun _ => ?_) (fun _ => ?_)
      · refine v_iload_n 3 31 hF dX5_asks_30 rfl rfl rfl ?_
        refine v_iconst (1) 32 hF dX5_asks_31 rfl (by decide) ?_
        refine v_icmp_ne 35 44 hF dX5_asks_32 rfl (by decide) (fun _ => ?_) (fun _ => ?_)
        · refine v_aload_n 0 45 hF dX5_asks_44 rfl rfl rfl ?_
          refine v_iload_n 1 46 hF dX5_asks_45 rfl rfl rfl ?_
          refine v_iload_n 2 47 hF dX5_asks_46 rfl rfl rfl ?_
          refine v_callI ([.int x1, .int x2]) ([]) 50 hF dX5_asks_47 rfl cw_X5_262 rfl (hs.1) (c_X5_carries (G := G) hs M5 x1 x2) ⟨rfl, rfl, Nat.le_of_ble_eq_true rfl, Nat.le_of_ble_eq_true rfl⟩ rfl rfl (Nat.le_of_ble_eq_true rfl) (fun r8 M7 => ?_)
          refine v_if_eq 53 57 hF dX5_asks_50 rfl (by decide) (fun _ => ?_) (fun _ => ?_)
          · refine v_iconst (0) 58 hF dX5_asks_57 rfl (by decide) ?_
            exact v_iret hF dX5_asks_58
          · refine v_iconst (1) 54 hF dX5_asks_53 rfl (by decide) ?_
            refine v_goto 58 hF dX5_asks_54 (by decide) ?_
            exact v_iret hF dX5_asks_58
        · refine v_aload_n 0 36 hF dX5_asks_35 rfl rfl rfl ?_
          refine v_iload_n 1 37 hF dX5_asks_36 rfl rfl rfl ?_
          refine v_iload_n 2 38 hF dX5_asks_37 rfl rfl rfl ?_
          refine v_callI ([.int x1, .int x2]) ([]) 41 hF dX5_asks_38 rfl cw_X5_259 rfl (hs.1) (c_X5_softens (G := G) hs M5 x1 x2) ⟨rfl, rfl, Nat.le_of_ble_eq_true rfl, Nat.le_of_ble_eq_true rfl⟩ rfl rfl (Nat.le_of_ble_eq_true rfl) (fun r10 M9 => ?_)
          refine v_goto 58 hF dX5_asks_41 (by decide) ?_
          exact v_iret hF dX5_asks_58
      · refine v_sipush (-1000) 29 hF dX5_asks_26 rfl (by decide) ?_
        exact v_iret hF dX5_asks_29
abbrev rmX5_writes : Room := { frames := 68, cells := 0, slots := 0, locals := 3067 }
def m_X5_writes (x1 : Int32) (M : Mm) : Option (Int32 × Mm) := bd (m_X5_isOne x1 M) fun r2 M1 => if r2 = 0 then (some ((-2 : Int32), M1)) else (bd (m_X5_writesOf x1 M1) fun r4 M3 => some (r4, M3))
set_option maxRecDepth 100000 in
set_option maxHeartbeats 4000000 in
theorem c_X5_writes {G : Gx} {sh : List Sh} (hs : ModAt sh) (M : Mm) (x1 : Int32) : CT yX5_writes cX5_writes 2 (some .int) rmX5_writes G sh [.ref (G.2.2.2.2 0), .int x1] rvI M (m_X5_writes  x1 M) := by
  refine CT.of (by decide +kernel) (Nat.le_of_ble_eq_true rfl) (fun X hF => ?_)
  show VR X G sh 2 rvI M 0 [(0, .ref (G.2.2.2.2 0)), (1, .int x1)] [] _
  unfold m_X5_writes
  refine v_aload_n 0 1 hF dX5_writes_0 rfl rfl rfl ?_
  refine v_iload_n 1 2 hF dX5_writes_1 rfl rfl rfl ?_
  refine v_callI ([.int x1]) ([]) 5 hF dX5_writes_2 rfl cw_X5_83 rfl (hs.1) (c_X5_isOne (G := G) hs M x1) ⟨rfl, rfl, Nat.le_of_ble_eq_true rfl, Nat.le_of_ble_eq_true rfl⟩ rfl rfl (Nat.le_of_ble_eq_true rfl) (fun r2 M1 => ?_)
  refine v_if_eq 8 16 hF dX5_writes_5 rfl (by decide) (fun _ => ?_) (fun _ => ?_)
  · refine v_bipush (-2) 18 hF dX5_writes_16 rfl (by decide) ?_
    exact v_iret hF dX5_writes_18
  · refine v_aload_n 0 9 hF dX5_writes_8 rfl rfl rfl ?_
    refine v_iload_n 1 10 hF dX5_writes_9 rfl rfl rfl ?_
    refine v_callI ([.int x1]) ([]) 13 hF dX5_writes_10 rfl cw_X5_265 rfl (hs.1) (c_X5_writesOf (G := G) hs M1 x1) ⟨rfl, rfl, Nat.le_of_ble_eq_true rfl, Nat.le_of_ble_eq_true rfl⟩ rfl rfl (Nat.le_of_ble_eq_true rfl) (fun r4 M3 => ?_)
    refine v_goto 18 hF dX5_writes_13 (by decide) ?_
    exact v_iret hF dX5_writes_18
abbrev rmX5_sends : Room := { frames := 68, cells := 0, slots := 0, locals := 3067 }
def m_X5_sends (x1 : Int32) (x2 : Int32) (M : Mm) : Option (Unit × Mm) := lt1 (((5 : Int32) * (M 0 12))) fun y1 => bd (m_X5_writesOf x1 M) fun r3 M2 => gd (inr y1 40) (lt1 (up M2 5 y1.toNatClampNeg r3) fun M4 => gd (inr ((y1 + (1 : Int32))) 40) (lt1 (up M4 5 ((y1 + (1 : Int32))).toNatClampNeg x1) fun M5 => gd (inr ((y1 + (2 : Int32))) 40) (lt1 (up M5 5 ((y1 + (2 : Int32))).toNatClampNeg x2) fun M6 => gd (inr ((((3 : Int32) * x2) + (2 : Int32))) 15) (gd (!(decide ((8 : Int32) = 0))) (gd (inr ((y1 + (3 : Int32))) 40) (lt1 (up M6 5 ((y1 + (3 : Int32))).toNatClampNeg ((irm (((M6 4 ((((3 : Int32) * x2) + (2 : Int32))).toNatClampNeg) + (M6 0 8))) ((8 : Int32))))) fun M7 => gd (inr ((y1 + (4 : Int32))) 40) (lt1 (up M7 5 ((y1 + (4 : Int32))).toNatClampNeg ((shl ((1 : Int32)) x1))) fun M8 => lt1 (up M8 0 12 (((M8 0 12) + (1 : Int32)))) fun M9 => some ((), M9))))))))
set_option maxRecDepth 100000 in
set_option maxHeartbeats 4000000 in
theorem c_X5_sends {G : Gx} {sh : List Sh} (hs : ModAt sh) (M : Mm) (x1 : Int32) (x2 : Int32) : CT yX5_sends cX5_sends 4 none rmX5_sends G sh [.ref (G.2.2.2.2 0), .int x1, .int x2] rvV M (m_X5_sends  x1 x2 M) := by
  refine CT.of (by decide +kernel) (Nat.le_of_ble_eq_true rfl) (fun X hF => ?_)
  show VR X G sh 4 rvV M 0 [(0, .ref (G.2.2.2.2 0)), (1, .int x1), (2, .int x2)] [] _
  unfold m_X5_sends
  refine v_iconst (5) 1 hF dX5_sends_0 rfl (by decide) ?_
  refine v_aload_n 0 2 hF dX5_sends_1 rfl rfl rfl ?_
  refine v_getI 5 hF dX5_sends_2 rfl fl_X5_80 hs.1 rfl ?_
  refine v_imul 6 hF dX5_sends_5 rfl ?_
  refine v_istore_n (lo' := fun y1 => [(3, .int y1), (0, .ref (G.2.2.2.2 0)), (1, .int x1), (2, .int x2)]) 7 hF dX5_sends_6 rfl rfl (by decide) (fun _ => rfl) (fun y1 => ?_)
  refine v_aload_n 1 8 hF dX5_sends_7 rfl rfl rfl ?_
  refine v_getR (b := 5) 11 hF dX5_sends_8 rfl fl_X5_29 hs.1 rfl ?_
  refine v_iload_n 0 12 hF dX5_sends_11 rfl rfl rfl ?_
  refine v_aload_n 1 13 hF dX5_sends_12 rfl rfl rfl ?_
  refine v_iload_n 2 14 hF dX5_sends_13 rfl rfl rfl ?_
  refine v_callI ([.int x1]) ([.int y1, .ref (G.2.2.2.2 5)]) 17 hF dX5_sends_14 rfl cw_X5_265 rfl (hs.1) (c_X5_writesOf (G := G) hs M x1) ⟨rfl, rfl, Nat.le_of_ble_eq_true rfl, Nat.le_of_ble_eq_true rfl⟩ rfl rfl (Nat.le_of_ble_eq_true rfl) (fun r3 M2 => ?_)
  refine v_iast 18 hF dX5_sends_17 rfl (hs.2.2.2.2.2.1) (fun M4 => ?_)
  refine v_aload_n 1 19 hF dX5_sends_18 rfl rfl rfl ?_
  refine v_getR (b := 5) 22 hF dX5_sends_19 rfl fl_X5_29 hs.1 rfl ?_
  refine v_iload_n 0 23 hF dX5_sends_22 rfl rfl rfl ?_
  refine v_iconst (1) 24 hF dX5_sends_23 rfl (by decide) ?_
  refine v_iadd 25 hF dX5_sends_24 rfl ?_
  refine v_iload_n 2 26 hF dX5_sends_25 rfl rfl rfl ?_
  refine v_iast 27 hF dX5_sends_26 rfl (hs.2.2.2.2.2.1) (fun M5 => ?_)
  refine v_aload_n 1 28 hF dX5_sends_27 rfl rfl rfl ?_
  refine v_getR (b := 5) 31 hF dX5_sends_28 rfl fl_X5_29 hs.1 rfl ?_
  refine v_iload_n 0 32 hF dX5_sends_31 rfl rfl rfl ?_
  refine v_iconst (2) 33 hF dX5_sends_32 rfl (by decide) ?_
  refine v_iadd 34 hF dX5_sends_33 rfl ?_
  refine v_iload_n 3 35 hF dX5_sends_34 rfl rfl rfl ?_
  refine v_iast 36 hF dX5_sends_35 rfl (hs.2.2.2.2.2.1) (fun M6 => ?_)
  refine v_aload_n 1 37 hF dX5_sends_36 rfl rfl rfl ?_
  refine v_getR (b := 5) 40 hF dX5_sends_37 rfl fl_X5_29 hs.1 rfl ?_
  refine v_iload_n 0 41 hF dX5_sends_40 rfl rfl rfl ?_
  refine v_iconst (3) 42 hF dX5_sends_41 rfl (by decide) ?_
  refine v_iadd 43 hF dX5_sends_42 rfl ?_
  refine v_aload_n 1 44 hF dX5_sends_43 rfl rfl rfl ?_
  refine v_getR (b := 4) 47 hF dX5_sends_44 rfl fl_X5_26 hs.1 rfl ?_
  refine v_iconst (3) 48 hF dX5_sends_47 rfl (by decide) ?_
  refine v_iload_n 3 49 hF dX5_sends_48 rfl rfl rfl ?_
  refine v_imul 50 hF dX5_sends_49 rfl ?_
  refine v_iconst (2) 51 hF dX5_sends_50 rfl (by decide) ?_
  refine v_iadd 52 hF dX5_sends_51 rfl ?_
  refine v_iald 53 hF dX5_sends_52 rfl (hs.2.2.2.2.1) ?_
  refine v_aload_n 1 54 hF dX5_sends_53 rfl rfl rfl ?_
  refine v_getI 57 hF dX5_sends_54 rfl fl_X5_23 hs.1 rfl ?_
  refine v_iadd 58 hF dX5_sends_57 rfl ?_
  refine v_bipush (8) 60 hF dX5_sends_58 rfl (by decide) ?_
  refine v_irem 61 hF dX5_sends_60 rfl ?_
  refine v_iast 62 hF dX5_sends_61 rfl (hs.2.2.2.2.2.1) (fun M7 => ?_)
  refine v_aload_n 1 63 hF dX5_sends_62 rfl rfl rfl ?_
  refine v_getR (b := 5) 66 hF dX5_sends_63 rfl fl_X5_29 hs.1 rfl ?_
  refine v_iload_n 0 67 hF dX5_sends_66 rfl rfl rfl ?_
  refine v_iconst (4) 68 hF dX5_sends_67 rfl (by decide) ?_
  refine v_iadd 69 hF dX5_sends_68 rfl ?_
  refine v_iconst (1) 70 hF dX5_sends_69 rfl (by decide) ?_
  refine v_iload_n 2 71 hF dX5_sends_70 rfl rfl rfl ?_
  refine v_ishl 72 hF dX5_sends_71 rfl ?_
  refine v_iast 73 hF dX5_sends_72 rfl (hs.2.2.2.2.2.1) (fun M8 => ?_)
  refine v_aload_n 1 74 hF dX5_sends_73 rfl rfl rfl ?_
  refine v_dupR 75 hF dX5_sends_74 rfl ?_
  refine v_getI 78 hF dX5_sends_75 rfl fl_X5_80 hs.1 rfl ?_
  refine v_iconst (1) 79 hF dX5_sends_78 rfl (by decide) ?_
  refine v_iadd 80 hF dX5_sends_79 rfl ?_
  refine v_putI 83 hF dX5_sends_80 rfl fl_X5_80 fp_X5_12 hs.1 rfl (fun M9 => ?_)
  exact v_vret hF dX5_sends_83
