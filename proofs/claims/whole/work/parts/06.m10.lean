abbrev rmX5_isOne : Room := { frames := 1, cells := 0, slots := 0, locals := 25 }
def m_X5_isOne (x1 : Int32) (M : Mm) : Option (Int32 × Mm) := bd (m_X5_in (((x1).toInt64)) ((0 : Int64)) (((((M 0 10) - (1 : Int32))).toInt64)) M) fun r2 M1 => gd (z01 r2) (some (r2, M1))
set_option maxRecDepth 100000 in
set_option maxHeartbeats 4000000 in
theorem c_X5_isOne {G : Gx} {sh : List Sh} (hs : ModAt sh) (M : Mm) (x1 : Int32) : CT yX5_isOne cX5_isOne 2 (some .boolean) rmX5_isOne G sh [.ref (G.2.2.2.2 0), .int x1] rvI M (m_X5_isOne  x1 M) := by
  refine CT.of (by decide +kernel) (Nat.le_of_ble_eq_true rfl) (fun X hF => ?_)
  show VR X G sh 2 rvI M 0 [(0, .ref (G.2.2.2.2 0)), (1, .int x1)] [] _
  unfold m_X5_isOne
  refine v_iload_n 1 1 hF dX5_isOne_0 rfl rfl rfl ?_
  refine v_i2l 2 hF dX5_isOne_1 rfl ?_
  refine v_lconst 0 3 hF dX5_isOne_2 rfl (by decide) ?_
  refine v_aload_n 0 4 hF dX5_isOne_3 rfl rfl rfl ?_
  refine v_getI 7 hF dX5_isOne_4 rfl fl_X5_73 hs.1 rfl ?_
  refine v_iconst (1) 8 hF dX5_isOne_7 rfl (by decide) ?_
  refine v_isub 9 hF dX5_isOne_8 rfl ?_
  refine v_i2l 10 hF dX5_isOne_9 rfl ?_
  refine v_staI ([.long (((x1).toInt64)), .long ((0 : Int64)), .long (((((M 0 10) - (1 : Int32))).toInt64))]) ([]) 13 hF dX5_isOne_10 rfl cw_X5_76 (c_X5_in (G := G) (sh := sh) M (((x1).toInt64)) ((0 : Int64)) (((((M 0 10) - (1 : Int32))).toInt64))) ⟨rfl, rfl, Nat.le_of_ble_eq_true rfl, Nat.le_of_ble_eq_true rfl⟩ rfl rfl (Nat.le_of_ble_eq_true rfl) (fun r2 M1 => ?_)
  exact v_zret hF dX5_isOne_13
abbrev rmX5_isLetter : Room := { frames := 1, cells := 0, slots := 0, locals := 25 }
def m_X5_isLetter (x1 : Int32) (M : Mm) : Option (Int32 × Mm) := bd (m_X5_in (((x1).toInt64)) ((0 : Int64)) (((((M 0 12) - (1 : Int32))).toInt64)) M) fun r2 M1 => gd (z01 r2) (some (r2, M1))
set_option maxRecDepth 100000 in
set_option maxHeartbeats 4000000 in
theorem c_X5_isLetter {G : Gx} {sh : List Sh} (hs : ModAt sh) (M : Mm) (x1 : Int32) : CT yX5_isLetter cX5_isLetter 2 (some .boolean) rmX5_isLetter G sh [.ref (G.2.2.2.2 0), .int x1] rvI M (m_X5_isLetter  x1 M) := by
  refine CT.of (by decide +kernel) (Nat.le_of_ble_eq_true rfl) (fun X hF => ?_)
  show VR X G sh 2 rvI M 0 [(0, .ref (G.2.2.2.2 0)), (1, .int x1)] [] _
  unfold m_X5_isLetter
  refine v_iload_n 1 1 hF dX5_isLetter_0 rfl rfl rfl ?_
  refine v_i2l 2 hF dX5_isLetter_1 rfl ?_
  refine v_lconst 0 3 hF dX5_isLetter_2 rfl (by decide) ?_
  refine v_aload_n 0 4 hF dX5_isLetter_3 rfl rfl rfl ?_
  refine v_getI 7 hF dX5_isLetter_4 rfl fl_X5_80 hs.1 rfl ?_
  refine v_iconst (1) 8 hF dX5_isLetter_7 rfl (by decide) ?_
  refine v_isub 9 hF dX5_isLetter_8 rfl ?_
  refine v_i2l 10 hF dX5_isLetter_9 rfl ?_
  refine v_staI ([.long (((x1).toInt64)), .long ((0 : Int64)), .long (((((M 0 12) - (1 : Int32))).toInt64))]) ([]) 13 hF dX5_isLetter_10 rfl cw_X5_76 (c_X5_in (G := G) (sh := sh) M (((x1).toInt64)) ((0 : Int64)) (((((M 0 12) - (1 : Int32))).toInt64))) ⟨rfl, rfl, Nat.le_of_ble_eq_true rfl, Nat.le_of_ble_eq_true rfl⟩ rfl rfl (Nat.le_of_ble_eq_true rfl) (fun r2 M1 => ?_)
  exact v_zret hF dX5_isLetter_13
abbrev rmX5_areTwo : Room := { frames := 2, cells := 0, slots := 0, locals := 46 }
def m_X5_areTwo (x1 : Int32) (x2 : Int32) (M : Mm) : Option (Int32 × Mm) := bd (m_X5_isOne x1 M) fun r2 M1 => if r2 = 0 then (some ((0 : Int32), M1)) else (bd (m_X5_isOne x2 M1) fun r4 M3 => if r4 = 0 then (some ((0 : Int32), M3)) else (if x1 = x2 then (some ((0 : Int32), M3)) else (some ((1 : Int32), M3))))
set_option maxRecDepth 100000 in
set_option maxHeartbeats 4000000 in
theorem c_X5_areTwo {G : Gx} {sh : List Sh} (hs : ModAt sh) (M : Mm) (x1 : Int32) (x2 : Int32) : CT yX5_areTwo cX5_areTwo 3 (some .boolean) rmX5_areTwo G sh [.ref (G.2.2.2.2 0), .int x1, .int x2] rvI M (m_X5_areTwo  x1 x2 M) := by
  refine CT.of (by decide +kernel) (Nat.le_of_ble_eq_true rfl) (fun X hF => ?_)
  show VR X G sh 3 rvI M 0 [(0, .ref (G.2.2.2.2 0)), (1, .int x1), (2, .int x2)] [] _
  unfold m_X5_areTwo
  refine v_aload_n 0 1 hF dX5_areTwo_0 rfl rfl rfl ?_
  refine v_iload_n 1 2 hF dX5_areTwo_1 rfl rfl rfl ?_
  refine v_callI ([.int x1]) ([]) 5 hF dX5_areTwo_2 rfl cw_X5_83 rfl (hs.1) (c_X5_isOne (G := G) hs M x1) ⟨rfl, rfl, Nat.le_of_ble_eq_true rfl, Nat.le_of_ble_eq_true rfl⟩ rfl rfl (Nat.le_of_ble_eq_true rfl) (fun r2 M1 => ?_)
  refine v_if_eq 8 25 hF dX5_areTwo_5 rfl (by decide) (fun _ => ?_) (fun _ => ?_)
  · refine v_iconst (0) 26 hF dX5_areTwo_25 rfl (by decide) ?_
    exact v_zret0 hF dX5_areTwo_26 rfl
  · refine v_aload_n 0 9 hF dX5_areTwo_8 rfl rfl rfl ?_
    refine v_iload_n 2 10 hF dX5_areTwo_9 rfl rfl rfl ?_
    refine v_callI ([.int x2]) ([]) 13 hF dX5_areTwo_10 rfl cw_X5_83 rfl (hs.1) (c_X5_isOne (G := G) hs M1 x2) ⟨rfl, rfl, Nat.le_of_ble_eq_true rfl, Nat.le_of_ble_eq_true rfl⟩ rfl rfl (Nat.le_of_ble_eq_true rfl) (fun r4 M3 => ?_)
    refine v_if_eq 16 25 hF dX5_areTwo_13 rfl (by decide) (fun _ => ?_) (fun _ => ?_)
    · refine v_iconst (0) 26 hF dX5_areTwo_25 rfl (by decide) ?_
      exact v_zret0 hF dX5_areTwo_26 rfl
    · refine v_iload_n 1 17 hF dX5_areTwo_16 rfl rfl rfl ?_
      refine v_iload_n 2 18 hF dX5_areTwo_17 rfl rfl rfl ?_
      refine v_icmp_eq 21 25 hF dX5_areTwo_18 rfl (by decide) (fun _ => ?_) (fun _ => ?_)
      · refine v_iconst (0) 26 hF dX5_areTwo_25 rfl (by decide) ?_
        exact v_zret0 hF dX5_areTwo_26 rfl
      · refine v_iconst (1) 22 hF dX5_areTwo_21 rfl (by decide) ?_
        refine v_goto 26 hF dX5_areTwo_22 (by decide) ?_
        exact v_zret0 hF dX5_areTwo_26 rfl
abbrev rmX5_isOf : Room := { frames := 2, cells := 0, slots := 0, locals := 46 }
def m_X5_isOf_J35  (M : Mm) : Option (Int32 × Mm) := some ((1 : Int32), M)
def m_X5_isOf_J16 (x2 : Int32) (M : Mm) : Option (Int32 × Mm) := bd (m_X5_isLetter x2 M) fun r2 M1 => if r2 = 0 then (some ((0 : Int32), M1)) else (m_X5_isOf_J35 M1)
def m_X5_isOf (x1 : Int32) (x2 : Int32) (M : Mm) : Option (Int32 × Mm) := if x1 < (2 : Int32) then (m_X5_isOf_J35 M) else (if x1 = (3 : Int32) then (m_X5_isOf_J16 x2 M) else (if x1 ≤ (6 : Int32) then (bd (m_X5_isOne x2 M) fun r4 M3 => if r4 = 0 then (some ((0 : Int32), M3)) else (m_X5_isOf_J35 M3)) else (m_X5_isOf_J16 x2 M)))
set_option maxRecDepth 100000 in
set_option maxHeartbeats 4000000 in
theorem v_X5_isOf_J35 {X : Cx} {G : Gx} {sh : List Sh} (hF : FX X G sh 3 cX5_isOf (yX5_isOf).cls (some .boolean) rmX5_isOf) (hs : ModAt sh) : ∀ (M : Mm), VR X G sh 3 rvI M 35 [(0, .ref (G.2.2.2.2 0))] [] (m_X5_isOf_J35   M) := by
  intro  M
  unfold m_X5_isOf_J35
  refine v_iconst (1) 36 hF dX5_isOf_35 rfl (by decide) ?_
  refine v_goto 40 hF dX5_isOf_36 (by decide) ?_
  exact v_zret0 hF dX5_isOf_40 rfl
set_option maxRecDepth 100000 in
set_option maxHeartbeats 4000000 in
theorem v_X5_isOf_J16 {X : Cx} {G : Gx} {sh : List Sh} (hF : FX X G sh 3 cX5_isOf (yX5_isOf).cls (some .boolean) rmX5_isOf) (hs : ModAt sh) : ∀ (x2 : Int32) (M : Mm), VR X G sh 3 rvI M 16 [(0, .ref (G.2.2.2.2 0)), (2, .int x2)] [] (m_X5_isOf_J16  x2 M) := by
  intro x2 M
  unfold m_X5_isOf_J16
  refine v_aload_n 0 17 hF dX5_isOf_16 rfl rfl rfl ?_
  refine v_iload_n 1 18 hF dX5_isOf_17 rfl rfl rfl ?_
  refine v_callI ([.int x2]) ([]) 21 hF dX5_isOf_18 rfl cw_X5_87 rfl (hs.1) (c_X5_isLetter (G := G) hs M x2) ⟨rfl, rfl, Nat.le_of_ble_eq_true rfl, Nat.le_of_ble_eq_true rfl⟩ rfl rfl (Nat.le_of_ble_eq_true rfl) (fun r2 M1 => ?_)
  refine v_if_eq 24 39 hF dX5_isOf_21 rfl (by decide) (fun _ => ?_) (fun _ => ?_)
  · refine v_iconst (0) 40 hF dX5_isOf_39 rfl (by decide) ?_
    exact v_zret0 hF dX5_isOf_40 rfl
  · refine v_goto 35 hF dX5_isOf_24 (by decide) ?_
    refine VR.pick [0] rfl ?_
    exact v_X5_isOf_J35 hF hs M1
set_option maxRecDepth 100000 in
set_option maxHeartbeats 4000000 in
theorem c_X5_isOf {G : Gx} {sh : List Sh} (hs : ModAt sh) (M : Mm) (x1 : Int32) (x2 : Int32) : CT yX5_isOf cX5_isOf 3 (some .boolean) rmX5_isOf G sh [.ref (G.2.2.2.2 0), .int x1, .int x2] rvI M (m_X5_isOf  x1 x2 M) := by
  refine CT.of (by decide +kernel) (Nat.le_of_ble_eq_true rfl) (fun X hF => ?_)
  show VR X G sh 3 rvI M 0 [(0, .ref (G.2.2.2.2 0)), (1, .int x1), (2, .int x2)] [] _
  unfold m_X5_isOf
  refine v_iload_n 1 1 hF dX5_isOf_0 rfl rfl rfl ?_
  refine v_iconst (2) 2 hF dX5_isOf_1 rfl (by decide) ?_
  refine v_icmp_lt 5 35 hF dX5_isOf_2 rfl (by decide) (fun _ => ?_) (fun _ => ?_)
  · refine VR.pick [0] rfl ?_
    exact v_X5_isOf_J35 hF hs M
  · refine v_iload_n 1 6 hF dX5_isOf_5 rfl rfl rfl ?_
    refine v_iconst (3) 7 hF dX5_isOf_6 rfl (by decide) ?_
    refine v_icmp_eq 10 16 hF dX5_isOf_7 rfl (by decide) (fun _ => ?_) (fun _ => ?_)
    · refine VR.pick [0, 2] rfl ?_
      exact v_X5_isOf_J16 hF hs x2 M
    · refine v_iload_n 1 11 hF dX5_isOf_10 rfl rfl rfl ?_
      refine v_bipush (6) 13 hF dX5_isOf_11 rfl (by decide) ?_
      refine v_icmp_le 16 27 hF dX5_isOf_13 rfl (by decide) (fun _ => ?_) (fun _ => ?_)
      · refine v_aload_n 0 28 hF dX5_isOf_27 rfl rfl rfl ?_
        refine v_iload_n 2 29 hF dX5_isOf_28 rfl rfl rfl ?_
        refine v_callI ([.int x2]) ([]) 32 hF dX5_isOf_29 rfl cw_X5_83 rfl (hs.1) (c_X5_isOne (G := G) hs M x2) ⟨rfl, rfl, Nat.le_of_ble_eq_true rfl, Nat.le_of_ble_eq_true rfl⟩ rfl rfl (Nat.le_of_ble_eq_true rfl) (fun r4 M3 => ?_)
        refine v_if_eq 35 39 hF dX5_isOf_32 rfl (by decide) (fun _ => ?_) (fun _ => ?_)
        · refine v_iconst (0) 40 hF dX5_isOf_39 rfl (by decide) ?_
          exact v_zret0 hF dX5_isOf_40 rfl
        · refine VR.pick [0] rfl ?_
          exact v_X5_isOf_J35 hF hs M3
      · refine VR.pick [0, 2] rfl ?_
        exact v_X5_isOf_J16 hF hs x2 M
abbrev rmX5_mostOf : Room := { frames := 0, cells := 0, slots := 0, locals := 0 }
def m_X5_mostOf (x0 : Int32) (M : Mm) : Option (Int32 × Mm) := if x0 = 0 then (some ((999 : Int32), M)) else (if x0 = (1 : Int32) then (some ((7 : Int32), M)) else (if x0 = (2 : Int32) then (some ((9 : Int32), M)) else (some ((99 : Int32), M))))
set_option maxRecDepth 100000 in
set_option maxHeartbeats 4000000 in
theorem c_X5_mostOf {G : Gx} {sh : List Sh} (M : Mm) (x0 : Int32) : CT yX5_mostOf cX5_mostOf 1 (some .int) rmX5_mostOf G sh [.int x0] rvI M (m_X5_mostOf  x0 M) := by
  refine CT.of (by decide +kernel) (Nat.le_of_ble_eq_true rfl) (fun X hF => ?_)
  show VR X G sh 1 rvI M 0 [(0, .int x0)] [] _
  unfold m_X5_mostOf
  refine v_iload_n 0 1 hF dX5_mostOf_0 rfl rfl rfl ?_
  refine v_if_ne 4 10 hF dX5_mostOf_1 rfl (by decide) (fun _ => ?_) (fun _ => ?_)
  · refine v_iload_n 0 11 hF dX5_mostOf_10 rfl rfl rfl ?_
    refine v_iconst (1) 12 hF dX5_mostOf_11 rfl (by decide) ?_
    refine v_icmp_ne 15 20 hF dX5_mostOf_12 rfl (by decide) (fun _ => ?_) (fun _ => ?_)
    · refine v_iload_n 0 21 hF dX5_mostOf_20 rfl rfl rfl ?_
      refine v_iconst (2) 22 hF dX5_mostOf_21 rfl (by decide) ?_
      refine v_icmp_ne 25 30 hF dX5_mostOf_22 rfl (by decide) (fun _ => ?_) (fun _ => ?_)
      · refine v_bipush (99) 32 hF dX5_mostOf_30 rfl (by decide) ?_
        exact v_iret hF dX5_mostOf_32
      · refine v_bipush (9) 27 hF dX5_mostOf_25 rfl (by decide) ?_
        refine v_goto 32 hF dX5_mostOf_27 (by decide) ?_
        exact v_iret hF dX5_mostOf_32
    · refine v_bipush (7) 17 hF dX5_mostOf_15 rfl (by decide) ?_
      refine v_goto 32 hF dX5_mostOf_17 (by decide) ?_
      exact v_iret hF dX5_mostOf_32
  · refine v_sipush (999) 7 hF dX5_mostOf_4 rfl (by decide) ?_
    refine v_goto 32 hF dX5_mostOf_7 (by decide) ?_
    exact v_iret hF dX5_mostOf_32
abbrev rmX5_lays : Room := { frames := 0, cells := 0, slots := 0, locals := 0 }
def m_X5_lays_J35 (s0 : Int32) (M : Mm) : Option (Unit × Mm) := lt1 (up M 0 8 s0) fun M1 => some ((), M1)
def m_X5_lays_J18 (x1 : Int32) (x3 : Int32) (s0 : Int32) (M : Mm) : Option (Unit × Mm) := lt1 (up M 0 7 s0) fun M2 => if x1 = (1 : Int32) then (m_X5_lays_J35 x3 M2) else (m_X5_lays_J35 ((M2 0 8)) M2)
def m_X5_lays (x1 : Int32) (x2 : Int32) (x3 : Int32) (M : Mm) : Option (Unit × Mm) := if (2 : Int32) ≤ x1 then (if x1 = (2 : Int32) then (gd (inr (((3 : Int32) * x2)) 15) (lt1 (up M 4 (((3 : Int32) * x2)).toNatClampNeg x3) fun M6 => some ((), M6))) else (if x1 = (3 : Int32) then (gd (inr (((5 : Int32) * x2)) 40) (lt1 (up M 5 (((5 : Int32) * x2)).toNatClampNeg x3) fun M5 => some ((), M5))) else (if x1 = (4 : Int32) then (gd (inr ((((3 : Int32) * x2) + (1 : Int32))) 15) (lt1 (up M 4 ((((3 : Int32) * x2) + (1 : Int32))).toNatClampNeg x3) fun M4 => some ((), M4))) else (lt1 (up M 0 4 x3) fun M3 => some ((), M3))))) else (if x1 = 0 then (m_X5_lays_J18 x1 x3 x3 M) else (m_X5_lays_J18 x1 x3 ((M 0 7)) M))
set_option maxRecDepth 100000 in
set_option maxHeartbeats 4000000 in
theorem v_X5_lays_J35 {X : Cx} {G : Gx} {sh : List Sh} (hF : FX X G sh 4 cX5_lays (yX5_lays).cls none rmX5_lays) (hs : ModAt sh) : ∀ (s0 : Int32) (M : Mm), VR X G sh 4 rvV M 35 [(0, .ref (G.2.2.2.2 0))] [.int s0, .ref (G.2.2.2.2 0)] (m_X5_lays_J35  s0 M) := by
  intro s0 M
  unfold m_X5_lays_J35
  refine v_putI 38 hF dX5_lays_35 rfl fl_X5_23 fp_X5_8 hs.1 rfl (fun M1 => ?_)
  refine v_goto 99 hF dX5_lays_38 (by decide) ?_
  exact v_vret hF dX5_lays_99
set_option maxRecDepth 100000 in
set_option maxHeartbeats 4000000 in
theorem v_X5_lays_J18 {X : Cx} {G : Gx} {sh : List Sh} (hF : FX X G sh 4 cX5_lays (yX5_lays).cls none rmX5_lays) (hs : ModAt sh) : ∀ (x1 : Int32) (x3 : Int32) (s0 : Int32) (M : Mm), VR X G sh 4 rvV M 18 [(0, .ref (G.2.2.2.2 0)), (1, .int x1), (3, .int x3)] [.int s0, .ref (G.2.2.2.2 0)] (m_X5_lays_J18  x1 x3 s0 M) := by
  intro x1 x3 s0 M
  unfold m_X5_lays_J18
  refine v_putI 21 hF dX5_lays_18 rfl fl_X5_108 fp_X5_7 hs.1 rfl (fun M2 => ?_)
  refine v_aload_n 0 22 hF dX5_lays_21 rfl rfl rfl ?_
  refine v_iload_n 1 23 hF dX5_lays_22 rfl rfl rfl ?_
  refine v_iconst (1) 24 hF dX5_lays_23 rfl (by decide) ?_
  refine v_icmp_ne 27 31 hF dX5_lays_24 rfl (by decide) (fun _ => ?_) (fun _ => ?_)
  · refine v_aload_n 0 32 hF dX5_lays_31 rfl rfl rfl ?_
    refine v_getI 35 hF dX5_lays_32 rfl fl_X5_23 hs.1 rfl ?_
    refine VR.pick [0] rfl ?_
    exact v_X5_lays_J35 hF hs ((M2 0 8)) M2
  · refine v_iload_n 2 28 hF dX5_lays_27 rfl rfl rfl ?_
    refine v_goto 35 hF dX5_lays_28 (by decide) ?_
    refine VR.pick [0] rfl ?_
    exact v_X5_lays_J35 hF hs x3 M2
set_option maxRecDepth 100000 in
set_option maxHeartbeats 4000000 in
theorem c_X5_lays {G : Gx} {sh : List Sh} (hs : ModAt sh) (M : Mm) (x1 : Int32) (x2 : Int32) (x3 : Int32) : CT yX5_lays cX5_lays 4 none rmX5_lays G sh [.ref (G.2.2.2.2 0), .int x1, .int x2, .int x3] rvV M (m_X5_lays  x1 x2 x3 M) := by
  refine CT.of (by decide +kernel) (Nat.le_of_ble_eq_true rfl) (fun X hF => ?_)
  show VR X G sh 4 rvV M 0 [(0, .ref (G.2.2.2.2 0)), (1, .int x1), (2, .int x2), (3, .int x3)] [] _
  unfold m_X5_lays
  refine v_iload_n 1 1 hF dX5_lays_0 rfl rfl rfl ?_
  refine v_iconst (2) 2 hF dX5_lays_1 rfl (by decide) ?_
  refine v_icmp_ge 5 41 hF dX5_lays_2 rfl (by decide) (fun _ => ?_) (fun _ => ?_)
  · refine v_iload_n 1 42 hF dX5_lays_41 rfl rfl rfl ?_
    refine v_iconst (2) 43 hF dX5_lays_42 rfl (by decide) ?_
    refine v_icmp_ne 46 58 hF dX5_lays_43 rfl (by decide) (fun _ => ?_) (fun _ => ?_)
    · refine v_iload_n 1 59 hF dX5_lays_58 rfl rfl rfl ?_
      refine v_iconst (3) 60 hF dX5_lays_59 rfl (by decide) ?_
      refine v_icmp_ne 63 75 hF dX5_lays_60 rfl (by decide) (fun _ => ?_) (fun _ => ?_)
      · refine v_iload_n 1 76 hF dX5_lays_75 rfl rfl rfl ?_
        refine v_iconst (4) 77 hF dX5_lays_76 rfl (by decide) ?_
        refine v_icmp_ne 80 94 hF dX5_lays_77 rfl (by decide) (fun _ => ?_) (fun _ => ?_)
        · refine v_aload_n 0 95 hF dX5_lays_94 rfl rfl rfl ?_
          refine v_iload_n 3 96 hF dX5_lays_95 rfl rfl rfl ?_
          refine v_putI 99 hF dX5_lays_96 rfl fl_X5_111 fp_X5_4 hs.1 rfl (fun M3 => ?_)
          exact v_vret hF dX5_lays_99
        · refine v_aload_n 0 81 hF dX5_lays_80 rfl rfl rfl ?_
          refine v_getR (b := 4) 84 hF dX5_lays_81 rfl fl_X5_26 hs.1 rfl ?_
          refine v_iconst (3) 85 hF dX5_lays_84 rfl (by decide) ?_
          refine v_iload_n 2 86 hF dX5_lays_85 rfl rfl rfl ?_
          refine v_imul 87 hF dX5_lays_86 rfl ?_
          refine v_iconst (1) 88 hF dX5_lays_87 rfl (by decide) ?_
          refine v_iadd 89 hF dX5_lays_88 rfl ?_
          refine v_iload_n 3 90 hF dX5_lays_89 rfl rfl rfl ?_
          refine v_iast 91 hF dX5_lays_90 rfl (hs.2.2.2.2.1) (fun M4 => ?_)
          refine v_goto 99 hF dX5_lays_91 (by decide) ?_
          exact v_vret hF dX5_lays_99
      · refine v_aload_n 0 64 hF dX5_lays_63 rfl rfl rfl ?_
        refine v_getR (b := 5) 67 hF dX5_lays_64 rfl fl_X5_29 hs.1 rfl ?_
        refine v_iconst (5) 68 hF dX5_lays_67 rfl (by decide) ?_
        refine v_iload_n 2 69 hF dX5_lays_68 rfl rfl rfl ?_
        refine v_imul 70 hF dX5_lays_69 rfl ?_
        refine v_iload_n 3 71 hF dX5_lays_70 rfl rfl rfl ?_
        refine v_iast 72 hF dX5_lays_71 rfl (hs.2.2.2.2.2.1) (fun M5 => ?_)
        refine v_goto 99 hF dX5_lays_72 (by decide) ?_
        exact v_vret hF dX5_lays_99
    · refine v_aload_n 0 47 hF dX5_lays_46 rfl rfl rfl ?_
      refine v_getR (b := 4) 50 hF dX5_lays_47 rfl fl_X5_26 hs.1 rfl ?_
      refine v_iconst (3) 51 hF dX5_lays_50 rfl (by decide) ?_
      refine v_iload_n 2 52 hF dX5_lays_51 rfl rfl rfl ?_
      refine v_imul 53 hF dX5_lays_52 rfl ?_
      refine v_iload_n 3 54 hF dX5_lays_53 rfl rfl rfl ?_
      refine v_iast 55 hF dX5_lays_54 rfl (hs.2.2.2.2.1) (fun M6 => ?_)
      refine v_goto 99 hF dX5_lays_55 (by decide) ?_
      exact v_vret hF dX5_lays_99
  · refine v_aload_n 0 6 hF dX5_lays_5 rfl rfl rfl ?_
    refine v_iload_n 1 7 hF dX5_lays_6 rfl rfl rfl ?_
    refine v_if_ne 10 14 hF dX5_lays_7 rfl (by decide) (fun _ => ?_) (fun _ => ?_)
    · refine v_aload_n 0 15 hF dX5_lays_14 rfl rfl rfl ?_
      refine v_getI 18 hF dX5_lays_15 rfl fl_X5_108 hs.1 rfl ?_
      refine VR.pick [0, 1, 3] rfl ?_
      exact v_X5_lays_J18 hF hs x1 x3 ((M 0 7)) M
    · refine v_iload_n 3 11 hF dX5_lays_10 rfl rfl rfl ?_
      refine v_goto 18 hF dX5_lays_11 (by decide) ?_
      refine VR.pick [0, 1, 3] rfl ?_
      exact v_X5_lays_J18 hF hs x1 x3 x3 M
abbrev rmX5_known : Room := { frames := 0, cells := 0, slots := 0, locals := 0 }
def m_X5_known_B4 (n4 : Int32 → Int32 → Int32 → Mm → Option (Int32 × Mm)) (x1 : Int32) (x2 : Int32) (x3 : Int32) (M : Mm) : Option (Int32 × Mm) := if (M 0 12) ≤ x3 then (some (x2, M)) else (gd (inr ((((5 : Int32) * x3) + (4 : Int32))) 40) (lt1 ((x2 ||| (shl (((shr ((M 5 ((((5 : Int32) * x3) + (4 : Int32))).toNatClampNeg)) x1) &&& (1 : Int32))) x3))) fun y1 => lt1 (x3 + 1) fun y2 => n4 x1 y1 y2 M))
def m_X5_known_L4 : Nat → Int32 → Int32 → Int32 → Mm → Option (Int32 × Mm)
  | 0 => fun _ _ _ _ => none
  | n + 1 => m_X5_known_B4  (m_X5_known_L4  n)
def m_X5_known (x1 : Int32) (M : Mm) : Option (Int32 × Mm) := lt1 ((0 : Int32)) fun y3 => lt1 ((0 : Int32)) fun y4 => m_X5_known_L4 FU x1 y3 y4 M
set_option maxRecDepth 100000 in
set_option maxHeartbeats 4000000 in
theorem v_X5_known_B4 {X : Cx} {G : Gx} {sh : List Sh} (hF : FX X G sh 4 cX5_known (yX5_known).cls (some .int) rmX5_known) (hs : ModAt sh) (n4 : Int32 → Int32 → Int32 → Mm → Option (Int32 × Mm)) (h4 : ∀ (x1 : Int32) (x2 : Int32) (x3 : Int32) (M : Mm), VR X G sh 4 rvI M 4 [(0, .ref (G.2.2.2.2 0)), (1, .int x1), (2, .int x2), (3, .int x3)] [] (n4 x1 x2 x3 M)) : ∀ (x1 : Int32) (x2 : Int32) (x3 : Int32) (M : Mm), VR X G sh 4 rvI M 4 [(0, .ref (G.2.2.2.2 0)), (1, .int x1), (2, .int x2), (3, .int x3)] [] (m_X5_known_B4  n4 x1 x2 x3 M) := by
  intro x1 x2 x3 M
  unfold m_X5_known_B4
  refine v_iload_n 3 5 hF dX5_known_4 rfl rfl rfl ?_
  refine v_aload_n 0 6 hF dX5_known_5 rfl rfl rfl ?_
  refine v_getI 9 hF dX5_known_6 rfl fl_X5_80 hs.1 rfl ?_
  refine v_icmp_ge 12 37 hF dX5_known_9 rfl (by decide) (fun _ => ?_) (fun _ => ?_)
  · refine v_iload_n 2 38 hF dX5_known_37 rfl rfl rfl ?_
    exact v_iret hF dX5_known_38
  · refine v_iload_n 2 13 hF dX5_known_12 rfl rfl rfl ?_
    refine v_aload_n 0 14 hF dX5_known_13 rfl rfl rfl ?_
    refine v_getR (b := 5) 17 hF dX5_known_14 rfl fl_X5_29 hs.1 rfl ?_
    refine v_iconst (5) 18 hF dX5_known_17 rfl (by decide) ?_
    refine v_iload_n 3 19 hF dX5_known_18 rfl rfl rfl ?_
    refine v_imul 20 hF dX5_known_19 rfl ?_
    refine v_iconst (4) 21 hF dX5_known_20 rfl (by decide) ?_
    refine v_iadd 22 hF dX5_known_21 rfl ?_
    refine v_iald 23 hF dX5_known_22 rfl (hs.2.2.2.2.2.1) ?_
    refine v_iload_n 1 24 hF dX5_known_23 rfl rfl rfl ?_
    refine v_ishr 25 hF dX5_known_24 rfl ?_
    refine v_iconst (1) 26 hF dX5_known_25 rfl (by decide) ?_
    refine v_iand 27 hF dX5_known_26 rfl ?_
    refine v_iload_n 3 28 hF dX5_known_27 rfl rfl rfl ?_
    refine v_ishl 29 hF dX5_known_28 rfl ?_
    refine v_ior 30 hF dX5_known_29 rfl ?_
    refine v_istore_n (lo' := fun y1 => [(2, .int y1), (0, .ref (G.2.2.2.2 0)), (1, .int x1), (3, .int x3)]) 31 hF dX5_known_30 rfl rfl (by decide) (fun _ => rfl) (fun y1 => ?_)
    refine v_iinc (v := (x3 + 1)) (lo' := fun y2 => [(3, .int y2), (2, .int y1), (0, .ref (G.2.2.2.2 0)), (1, .int x1)]) 3 34 hF dX5_known_31 rfl rfl rfl (by decide) (fun _ => rfl) (fun y2 => ?_)
    refine v_goto 4 hF dX5_known_34 (by decide) ?_
    refine VR.pick [2, 3, 1, 0] rfl ?_
    exact h4 x1 y1 y2 M
theorem v_X5_known_L4 {X : Cx} {G : Gx} {sh : List Sh} (hF : FX X G sh 4 cX5_known (yX5_known).cls (some .int) rmX5_known) (hs : ModAt sh) : ∀ (n : Nat), ∀ (x1 : Int32) (x2 : Int32) (x3 : Int32) (M : Mm), VR X G sh 4 rvI M 4 [(0, .ref (G.2.2.2.2 0)), (1, .int x1), (2, .int x2), (3, .int x3)] [] (m_X5_known_L4  n x1 x2 x3 M) := by
  intro n
  induction n with
  | zero => intro x1 x2 x3 M; exact VR.none
  | succ n ih => exact v_X5_known_B4 hF hs _ ih
set_option maxRecDepth 100000 in
set_option maxHeartbeats 4000000 in
theorem c_X5_known {G : Gx} {sh : List Sh} (hs : ModAt sh) (M : Mm) (x1 : Int32) : CT yX5_known cX5_known 4 (some .int) rmX5_known G sh [.ref (G.2.2.2.2 0), .int x1] rvI M (m_X5_known  x1 M) := by
  refine CT.of (by decide +kernel) (Nat.le_of_ble_eq_true rfl) (fun X hF => ?_)
  show VR X G sh 4 rvI M 0 [(0, .ref (G.2.2.2.2 0)), (1, .int x1)] [] _
  unfold m_X5_known
  refine v_iconst (0) 1 hF dX5_known_0 rfl (by decide) ?_
  refine v_istore_n (lo' := fun y3 => [(2, .int y3), (0, .ref (G.2.2.2.2 0)), (1, .int x1)]) 2 hF dX5_known_1 rfl rfl (by decide) (fun _ => rfl) (fun y3 => ?_)
  refine v_iconst (0) 3 hF dX5_known_2 rfl (by decide) ?_
  refine v_istore_n (lo' := fun y4 => [(3, .int y4), (2, .int y3), (0, .ref (G.2.2.2.2 0)), (1, .int x1)]) 4 hF dX5_known_3 rfl rfl (by decide) (fun _ => rfl) (fun y4 => ?_)
  refine VR.pick [2, 3, 1, 0] rfl ?_
  exact v_X5_known_L4 hF hs FU x1 y3 y4 M
abbrev rmX5_told : Room := { frames := 3, cells := 0, slots := 0, locals := 68 }
def m_X5_told (x1 : Int32) (x2 : Int32) (M : Mm) : Option (Int32 × Mm) := bd (m_X5_in (((x2).toInt64)) ((0 : Int64)) ((10 : Int64)) M) fun r2 M1 => if r2 = 0 then (some ((-1000 : Int32), M1)) else (bd (m_X5_isOf x2 x1 M1) fun r4 M3 => if r4 = 0 then (some ((-1000 : Int32), M3)) else (if (4 : Int32) ≤ x2 then (if (6 : Int32) ≤ x2 then (if x2 = (6 : Int32) then (bd (m_X5_known x1 M3) fun r6 M5 => some (r6, M5)) else (gd (inr (((((5 : Int32) * x1) + x2) - (6 : Int32))) 40) (some ((M3 5 (((((5 : Int32) * x1) + x2) - (6 : Int32))).toNatClampNeg), M3)))) else (gd (inr (((((3 : Int32) * x1) + x2) - (3 : Int32))) 15) (some ((M3 4 (((((3 : Int32) * x1) + x2) - (3 : Int32))).toNatClampNeg), M3)))) else (if x2 = 0 then (some ((M3 0 7), M3)) else (if x2 = (1 : Int32) then (some ((M3 0 8), M3)) else (if x2 = (2 : Int32) then (gd (inr (((3 : Int32) * x1)) 15) (some ((M3 4 (((3 : Int32) * x1)).toNatClampNeg), M3))) else (gd (inr (((5 : Int32) * x1)) 40) (some ((M3 5 (((5 : Int32) * x1)).toNatClampNeg), M3))))))))
set_option maxRecDepth 100000 in
set_option maxHeartbeats 4000000 in
theorem c_X5_told {G : Gx} {sh : List Sh} (hs : ModAt sh) (M : Mm) (x1 : Int32) (x2 : Int32) : CT yX5_told cX5_told 3 (some .int) rmX5_told G sh [.ref (G.2.2.2.2 0), .int x1, .int x2] rvI M (m_X5_told  x1 x2 M) := by
  refine CT.of (by decide +kernel) (Nat.le_of_ble_eq_true rfl) (fun X hF => ?_)
  show VR X G sh 3 rvI M 0 [(0, .ref (G.2.2.2.2 0)), (1, .int x1), (2, .int x2)] [] _
  unfold m_X5_told
  refine v_iload_n 2 1 hF dX5_told_0 rfl rfl rfl ?_
  refine v_i2l 2 hF dX5_told_1 rfl ?_
  refine v_lconst 0 3 hF dX5_told_2 rfl (by decide) ?_
  refine v_ldc2 (10) 6 hF dX5_told_3 rfl cc_X5_126 ?_
  refine v_staI ([.long (((x2).toInt64)), .long ((0 : Int64)), .long ((10 : Int64))]) ([]) 9 hF dX5_told_6 rfl cw_X5_76 (c_X5_in (G := G) (sh := sh) M (((x2).toInt64)) ((0 : Int64)) ((10 : Int64))) ⟨rfl, rfl, Nat.le_of_ble_eq_true rfl, Nat.le_of_ble_eq_true rfl⟩ rfl rfl (Nat.le_of_ble_eq_true rfl) (fun r2 M1 => ?_)
  refine v_if_eq 12 21 hF dX5_told_9 rfl (by decide) (fun _ => ?_) (fun _ => ?_)
  · refine v_sipush (-1000) 24 hF dX5_told_21 rfl (by decide) ?_
    exact v_iret hF dX5_told_24
  · refine v_aload_n 0 13 hF dX5_told_12 rfl rfl rfl ?_
    refine v_iload_n 2 14 hF dX5_told_13 rfl rfl rfl ?_
    refine v_iload_n 1 15 hF dX5_told_14 rfl rfl rfl ?_
    refine v_callI ([.int x2, .int x1]) ([]) 18 hF dX5_told_15 rfl cw_X5_92 rfl (hs.1) (c_X5_isOf (G := G) hs M1 x2 x1) ⟨rfl, rfl, Nat.le_of_ble_eq_true rfl, Nat.le_of_ble_eq_true rfl⟩ rfl rfl (Nat.le_of_ble_eq_true rfl) (fun r4 M3 => ?_)
    refine v_if_ne 21 25 hF dX5_told_18 rfl (by decide) (fun _ => ?_) (fun _ => ?_)
    · refine v_iload_n 2 26 hF dX5_told_25 rfl rfl rfl ?_
      refine v_iconst (4) 27 hF dX5_told_26 rfl (by decide) ?_
      refine v_icmp_ge 30 78 hF dX5_told_27 rfl (by decide) (fun _ => ?_) (fun _ => ?_)
      · refine v_iload_n 2 79 hF dX5_told_78 rfl rfl rfl ?_
        refine v_bipush (6) 81 hF dX5_told_79 rfl (by decide) ?_
        refine v_icmp_ge 84 99 hF dX5_told_81 rfl (by decide) (fun _ => ?_) (fun _ => ?_)
        · refine v_iload_n 2 100 hF dX5_told_99 rfl rfl rfl ?_
          refine v_bipush (6) 102 hF dX5_told_100 rfl (by decide) ?_
          refine v_icmp_ne 105 113 hF dX5_told_102 rfl (by decide) (fun _ => ?_) (fun _ => ?_)
          · refine v_aload_n 0 114 hF dX5_told_113 rfl rfl rfl ?_
            refine v_getR (b := 5) 117 hF dX5_told_114 rfl fl_X5_29 hs.1 rfl ?_
            refine v_iconst (5) 118 hF dX5_told_117 rfl (by decide) ?_
            refine v_iload_n 1 119 hF dX5_told_118 rfl rfl rfl ?_
            refine v_imul 120 hF dX5_told_119 rfl ?_
            refine v_iload_n 2 121 hF dX5_told_120 rfl rfl rfl ?_
            refine v_iadd 122 hF dX5_told_121 rfl ?_
            refine v_bipush (6) 124 hF dX5_told_122 rfl (by decide) ?_
            refine v_isub 125 hF dX5_told_124 rfl ?_
            refine v_iald 126 hF dX5_told_125 rfl (hs.2.2.2.2.2.1) ?_
            exact v_iret hF dX5_told_126
          · refine v_aload_n 0 106 hF dX5_told_105 rfl rfl rfl ?_
            refine v_iload_n 1 107 hF dX5_told_106 rfl rfl rfl ?_
            refine v_callI ([.int x1]) ([]) 110 hF dX5_told_107 rfl cw_X5_128 rfl (hs.1) (c_X5_known (G := G) hs M3 x1) ⟨rfl, rfl, Nat.le_of_ble_eq_true rfl, Nat.le_of_ble_eq_true rfl⟩ rfl rfl (Nat.le_of_ble_eq_true rfl) (fun r6 M5 => ?_)
            refine v_goto 126 hF dX5_told_110 (by decide) ?_
            exact v_iret hF dX5_told_126
        · refine v_aload_n 0 85 hF dX5_told_84 rfl rfl rfl ?_
          refine v_getR (b := 4) 88 hF dX5_told_85 rfl fl_X5_26 hs.1 rfl ?_
          refine v_iconst (3) 89 hF dX5_told_88 rfl (by decide) ?_
          refine v_iload_n 1 90 hF dX5_told_89 rfl rfl rfl ?_
          refine v_imul 91 hF dX5_told_90 rfl ?_
          refine v_iload_n 2 92 hF dX5_told_91 rfl rfl rfl ?_
          refine v_iadd 93 hF dX5_told_92 rfl ?_
          refine v_iconst (3) 94 hF dX5_told_93 rfl (by decide) ?_
          refine v_isub 95 hF dX5_told_94 rfl ?_
          refine v_iald 96 hF dX5_told_95 rfl (hs.2.2.2.2.1) ?_
          refine v_goto 126 hF dX5_told_96 (by decide) ?_
          exact v_iret hF dX5_told_126
      · refine v_iload_n 2 31 hF dX5_told_30 rfl rfl rfl ?_
        refine v_if_ne 34 41 hF dX5_told_31 rfl (by decide) (fun _ => ?_) (fun _ => ?_)
        · refine v_iload_n 2 42 hF dX5_told_41 rfl rfl rfl ?_
          refine v_iconst (1) 43 hF dX5_told_42 rfl (by decide) ?_
          refine v_icmp_ne 46 53 hF dX5_told_43 rfl (by decide) (fun _ => ?_) (fun _ => ?_)
          · refine v_iload_n 2 54 hF dX5_told_53 rfl rfl rfl ?_
            refine v_iconst (2) 55 hF dX5_told_54 rfl (by decide) ?_
            refine v_icmp_ne 58 69 hF dX5_told_55 rfl (by decide) (fun _ => ?_) (fun _ => ?_)
            · refine v_aload_n 0 70 hF dX5_told_69 rfl rfl rfl ?_
              refine v_getR (b := 5) 73 hF dX5_told_70 rfl fl_X5_29 hs.1 rfl ?_
              refine v_iconst (5) 74 hF dX5_told_73 rfl (by decide) ?_
              refine v_iload_n 1 75 hF dX5_told_74 rfl rfl rfl ?_
              refine v_imul 76 hF dX5_told_75 rfl ?_
              refine v_iald 77 hF dX5_told_76 rfl (hs.2.2.2.2.2.1) ?_
              exact v_iret hF dX5_told_77
            · refine v_aload_n 0 59 hF dX5_told_58 rfl rfl rfl ?_
              refine v_getR (b := 4) 62 hF dX5_told_59 rfl fl_X5_26 hs.1 rfl ?_
              refine v_iconst (3) 63 hF dX5_told_62 rfl (by decide) ?_
              refine v_iload_n 1 64 hF dX5_told_63 rfl rfl rfl ?_
              refine v_imul 65 hF dX5_told_64 rfl ?_
              refine v_iald 66 hF dX5_told_65 rfl (hs.2.2.2.2.1) ?_
              refine v_goto 77 hF dX5_told_66 (by decide) ?_
              exact v_iret hF dX5_told_77
          · refine v_aload_n 0 47 hF dX5_told_46 rfl rfl rfl ?_
            refine v_getI 50 hF dX5_told_47 rfl fl_X5_23 hs.1 rfl ?_
            refine v_goto 77 hF dX5_told_50 (by decide) ?_
            exact v_iret hF dX5_told_77
        · refine v_aload_n 0 35 hF dX5_told_34 rfl rfl rfl ?_
          refine v_getI 38 hF dX5_told_35 rfl fl_X5_108 hs.1 rfl ?_
          refine v_goto 77 hF dX5_told_38 (by decide) ?_
          exact v_iret hF dX5_told_77
    · refine v_sipush (-1000) 24 hF dX5_told_21 rfl (by decide) ?_
      exact v_iret hF dX5_told_24
abbrev rmX5_set : Room := { frames := 4, cells := 0, slots := 0, locals := 90 }
def m_X5_set (x1 : Int32) (x2 : Int32) (x3 : Int32) (M : Mm) : Option (Int32 × Mm) := bd (m_X5_in (((x1).toInt64)) ((0 : Int64)) ((3 : Int64)) M) fun r2 M1 => if r2 = 0 then (some ((-2 : Int32), M1)) else (bd (m_X5_isOf x1 x2 M1) fun r4 M3 => if r4 = 0 then (some ((-2 : Int32), M3)) else (bd (m_X5_mostOf x1 M3) fun r6 M5 => bd (m_X5_in (((x3).toInt64)) ((0 : Int64)) (((r6).toInt64)) M5) fun r8 M7 => if r8 = 0 then (some ((-2 : Int32), M7)) else (bd (m_X5_told x2 x1 M7) fun r10 M9 => lt1 r10 fun y11 => bd (m_X5_lays x1 x2 x3 M9) fun _ M12 => some (y11, M12))))
set_option maxRecDepth 100000 in
set_option maxHeartbeats 4000000 in
theorem c_X5_set {G : Gx} {sh : List Sh} (hs : ModAt sh) (M : Mm) (x1 : Int32) (x2 : Int32) (x3 : Int32) : CT yX5_set cX5_set 5 (some .int) rmX5_set G sh [.ref (G.2.2.2.2 0), .int x1, .int x2, .int x3] rvI M (m_X5_set  x1 x2 x3 M) := by
  refine CT.of (by decide +kernel) (Nat.le_of_ble_eq_true rfl) (fun X hF => ?_)
  show VR X G sh 5 rvI M 0 [(0, .ref (G.2.2.2.2 0)), (1, .int x1), (2, .int x2), (3, .int x3)] [] _
  unfold m_X5_set
  refine v_iload_n 1 1 hF dX5_set_0 rfl rfl rfl ?_
  refine v_i2l 2 hF dX5_set_1 rfl ?_
  refine v_lconst 0 3 hF dX5_set_2 rfl (by decide) ?_
  refine v_ldc2 (3) 6 hF dX5_set_3 rfl cc_X5_90 ?_
  refine v_staI ([.long (((x1).toInt64)), .long ((0 : Int64)), .long ((3 : Int64))]) ([]) 9 hF dX5_set_6 rfl cw_X5_76 (c_X5_in (G := G) (sh := sh) M (((x1).toInt64)) ((0 : Int64)) ((3 : Int64))) ⟨rfl, rfl, Nat.le_of_ble_eq_true rfl, Nat.le_of_ble_eq_true rfl⟩ rfl rfl (Nat.le_of_ble_eq_true rfl) (fun r2 M1 => ?_)
  refine v_if_eq 12 35 hF dX5_set_9 rfl (by decide) (fun _ => ?_) (fun _ => ?_)
  · refine v_bipush (-2) 37 hF dX5_set_35 rfl (by decide) ?_
    exact v_iret hF dX5_set_37
  · refine v_aload_n 0 13 hF dX5_set_12 rfl rfl rfl ?_
    refine v_iload_n 1 14 hF dX5_set_13 rfl rfl rfl ?_
    refine v_iload_n 2 15 hF dX5_set_14 rfl rfl rfl ?_
    refine v_callI ([.int x1, .int x2]) ([]) 18 hF dX5_set_15 rfl cw_X5_92 rfl (hs.1) (c_X5_isOf (G := G) hs M1 x1 x2) ⟨rfl, rfl, Nat.le_of_ble_eq_true rfl, Nat.le_of_ble_eq_true rfl⟩ rfl rfl (Nat.le_of_ble_eq_true rfl) (fun r4 M3 => ?_)
    refine v_if_eq 21 35 hF dX5_set_18 rfl (by decide) (fun _ => ?_) (fun _ => ?_)
    · refine v_bipush (-2) 37 hF dX5_set_35 rfl (by decide) ?_
      exact v_iret hF dX5_set_37
    · refine v_iload_n 3 22 hF dX5_set_21 rfl rfl rfl ?_
      refine v_i2l 23 hF dX5_set_22 rfl ?_
      refine v_lconst 0 24 hF dX5_set_23 rfl (by decide) ?_
      refine v_iload_n 1 25 hF dX5_set_24 rfl rfl rfl ?_
      refine v_staI ([.int x1]) ([.long ((0 : Int64)), .long (((x3).toInt64))]) 28 hF dX5_set_25 rfl cw_X5_96 (c_X5_mostOf (G := G) (sh := sh) M3 x1) ⟨rfl, rfl, Nat.le_of_ble_eq_true rfl, Nat.le_of_ble_eq_true rfl⟩ rfl rfl (Nat.le_of_ble_eq_true rfl) (fun r6 M5 => ?_)
      refine v_i2l 29 hF dX5_set_28 rfl ?_
      refine v_staI ([.long (((x3).toInt64)), .long ((0 : Int64)), .long (((r6).toInt64))]) ([]) 32 hF dX5_set_29 rfl cw_X5_76 (c_X5_in (G := G) (sh := sh) M5 (((x3).toInt64)) ((0 : Int64)) (((r6).toInt64))) ⟨rfl, rfl, Nat.le_of_ble_eq_true rfl, Nat.le_of_ble_eq_true rfl⟩ rfl rfl (Nat.le_of_ble_eq_true rfl) (fun r8 M7 => ?_)
      refine v_if_ne 35 38 hF dX5_set_32 rfl (by decide) (fun _ => ?_) (fun _ => ?_)
      · refine v_aload_n 0 39 hF dX5_set_38 rfl rfl rfl ?_
        refine v_iload_n 2 40 hF dX5_set_39 rfl rfl rfl ?_
        refine v_iload_n 1 41 hF dX5_set_40 rfl rfl rfl ?_
        refine v_callI ([.int x2, .int x1]) ([]) 44 hF dX5_set_41 rfl cw_X5_100 rfl (hs.1) (c_X5_told (G := G) hs M7 x2 x1) ⟨rfl, rfl, Nat.le_of_ble_eq_true rfl, Nat.le_of_ble_eq_true rfl⟩ rfl rfl (Nat.le_of_ble_eq_true rfl) (fun r10 M9 => ?_)
        refine v_istore (lo' := fun y11 => [(4, .int y11), (0, .ref (G.2.2.2.2 0)), (1, .int x1), (2, .int x2), (3, .int x3)]) 46 hF dX5_set_44 rfl (by decide) (fun _ => rfl) (fun y11 => ?_)
        refine v_aload_n 1 47 hF dX5_set_46 rfl rfl rfl ?_
        refine v_iload_n 2 48 hF dX5_set_47 rfl rfl rfl ?_
        refine v_iload_n 3 49 hF dX5_set_48 rfl rfl rfl ?_
        refine v_iload_n 4 50 hF dX5_set_49 rfl rfl rfl ?_
        refine v_callV ([.int x1, .int x2, .int x3]) ([]) 53 hF dX5_set_50 rfl cw_X5_104 rfl (hs.1) (c_X5_lays (G := G) hs M9 x1 x2 x3) ⟨rfl, rfl, Nat.le_of_ble_eq_true rfl, Nat.le_of_ble_eq_true rfl⟩ rfl rfl (Nat.le_of_ble_eq_true rfl) (fun _ M12 => ?_)
        refine v_iload 0 55 hF dX5_set_53 rfl rfl ?_
        exact v_iret hF dX5_set_55
      · refine v_bipush (-2) 37 hF dX5_set_35 rfl (by decide) ?_
        exact v_iret hF dX5_set_37
abbrev rmX5_whoIn : Room := { frames := 0, cells := 0, slots := 0, locals := 0 }
def m_X5_whoIn_J31 (n4 : Int32 → Int32 → Int32 → Mm → Option (Int32 × Mm)) (x1 : Int32) (x3 : Int32) (s0 : Int32) (M : Mm) : Option (Int32 × Mm) := lt1 s0 fun y1 => lt1 (x3 + 1) fun y2 => n4 x1 y1 y2 M
def m_X5_whoIn_B4 (n4 : Int32 → Int32 → Int32 → Mm → Option (Int32 × Mm)) (x1 : Int32) (x2 : Int32) (x3 : Int32) (M : Mm) : Option (Int32 × Mm) := if (M 0 10) ≤ x3 then (some (x2, M)) else (gd (inr ((((3 : Int32) * x3) + (2 : Int32))) 15) (if (M 4 ((((3 : Int32) * x3) + (2 : Int32))).toNatClampNeg) = x1 then (m_X5_whoIn_J31 n4 x1 x3 x3 M) else (m_X5_whoIn_J31 n4 x1 x3 x2 M)))
def m_X5_whoIn_L4 : Nat → Int32 → Int32 → Int32 → Mm → Option (Int32 × Mm)
  | 0 => fun _ _ _ _ => none
  | n + 1 => m_X5_whoIn_B4  (m_X5_whoIn_L4  n)
def m_X5_whoIn (x1 : Int32) (M : Mm) : Option (Int32 × Mm) := lt1 ((-1 : Int32)) fun y3 => lt1 ((0 : Int32)) fun y4 => m_X5_whoIn_L4 FU x1 y3 y4 M
set_option maxRecDepth 100000 in
set_option maxHeartbeats 4000000 in
theorem v_X5_whoIn_J31 {X : Cx} {G : Gx} {sh : List Sh} (hF : FX X G sh 4 cX5_whoIn (yX5_whoIn).cls (some .int) rmX5_whoIn) (hs : ModAt sh) (n4 : Int32 → Int32 → Int32 → Mm → Option (Int32 × Mm)) (h4 : ∀ (x1 : Int32) (x2 : Int32) (x3 : Int32) (M : Mm), VR X G sh 4 rvI M 4 [(0, .ref (G.2.2.2.2 0)), (1, .int x1), (2, .int x2), (3, .int x3)] [] (n4 x1 x2 x3 M)) : ∀ (x1 : Int32) (x3 : Int32) (s0 : Int32) (M : Mm), VR X G sh 4 rvI M 31 [(0, .ref (G.2.2.2.2 0)), (1, .int x1), (3, .int x3)] [.int s0] (m_X5_whoIn_J31  n4 x1 x3 s0 M) := by
  intro x1 x3 s0 M
  unfold m_X5_whoIn_J31
  refine v_istore_n (lo' := fun y1 => [(2, .int y1), (0, .ref (G.2.2.2.2 0)), (1, .int x1), (3, .int x3)]) 32 hF dX5_whoIn_31 rfl rfl (by decide) (fun _ => rfl) (fun y1 => ?_)
  refine v_iinc (v := (x3 + 1)) (lo' := fun y2 => [(3, .int y2), (2, .int y1), (0, .ref (G.2.2.2.2 0)), (1, .int x1)]) 3 35 hF dX5_whoIn_32 rfl rfl rfl (by decide) (fun _ => rfl) (fun y2 => ?_)
  refine v_goto 4 hF dX5_whoIn_35 (by decide) ?_
  refine VR.pick [2, 3, 1, 0] rfl ?_
  exact h4 x1 y1 y2 M
set_option maxRecDepth 100000 in
set_option maxHeartbeats 4000000 in
theorem v_X5_whoIn_B4 {X : Cx} {G : Gx} {sh : List Sh} (hF : FX X G sh 4 cX5_whoIn (yX5_whoIn).cls (some .int) rmX5_whoIn) (hs : ModAt sh) (n4 : Int32 → Int32 → Int32 → Mm → Option (Int32 × Mm)) (h4 : ∀ (x1 : Int32) (x2 : Int32) (x3 : Int32) (M : Mm), VR X G sh 4 rvI M 4 [(0, .ref (G.2.2.2.2 0)), (1, .int x1), (2, .int x2), (3, .int x3)] [] (n4 x1 x2 x3 M)) : ∀ (x1 : Int32) (x2 : Int32) (x3 : Int32) (M : Mm), VR X G sh 4 rvI M 4 [(0, .ref (G.2.2.2.2 0)), (1, .int x1), (2, .int x2), (3, .int x3)] [] (m_X5_whoIn_B4  n4 x1 x2 x3 M) := by
  intro x1 x2 x3 M
  unfold m_X5_whoIn_B4
  refine v_iload_n 3 5 hF dX5_whoIn_4 rfl rfl rfl ?_
  refine v_aload_n 0 6 hF dX5_whoIn_5 rfl rfl rfl ?_
  refine v_getI 9 hF dX5_whoIn_6 rfl fl_X5_73 hs.1 rfl ?_
  refine v_icmp_ge 12 38 hF dX5_whoIn_9 rfl (by decide) (fun _ => ?_) (fun _ => ?_)
  · refine v_iload_n 2 39 hF dX5_whoIn_38 rfl rfl rfl ?_
    exact v_iret hF dX5_whoIn_39
  · refine v_aload_n 0 13 hF dX5_whoIn_12 rfl rfl rfl ?_
    refine v_getR (b := 4) 16 hF dX5_whoIn_13 rfl fl_X5_26 hs.1 rfl ?_
    refine v_iconst (3) 17 hF dX5_whoIn_16 rfl (by decide) ?_
    refine v_iload_n 3 18 hF dX5_whoIn_17 rfl rfl rfl ?_
    refine v_imul 19 hF dX5_whoIn_18 rfl ?_
    refine v_iconst (2) 20 hF dX5_whoIn_19 rfl (by decide) ?_
    refine v_iadd 21 hF dX5_whoIn_20 rfl ?_
    refine v_iald 22 hF dX5_whoIn_21 rfl (hs.2.2.2.2.1) ?_
    refine v_iload_n 1 23 hF dX5_whoIn_22 rfl rfl rfl ?_
    refine v_icmp_ne 26 30 hF dX5_whoIn_23 rfl (by decide) (fun _ => ?_) (fun _ => ?_)
    · refine v_iload_n 2 31 hF dX5_whoIn_30 rfl rfl rfl ?_
      refine VR.pick [0, 1, 3] rfl ?_
      exact v_X5_whoIn_J31 hF hs _ h4 x1 x3 x2 M
    · refine v_iload_n 3 27 hF dX5_whoIn_26 rfl rfl rfl ?_
      refine v_goto 31 hF dX5_whoIn_27 (by decide) ?_
      refine VR.pick [0, 1, 3] rfl ?_
      exact v_X5_whoIn_J31 hF hs _ h4 x1 x3 x3 M
theorem v_X5_whoIn_L4 {X : Cx} {G : Gx} {sh : List Sh} (hF : FX X G sh 4 cX5_whoIn (yX5_whoIn).cls (some .int) rmX5_whoIn) (hs : ModAt sh) : ∀ (n : Nat), ∀ (x1 : Int32) (x2 : Int32) (x3 : Int32) (M : Mm), VR X G sh 4 rvI M 4 [(0, .ref (G.2.2.2.2 0)), (1, .int x1), (2, .int x2), (3, .int x3)] [] (m_X5_whoIn_L4  n x1 x2 x3 M) := by
  intro n
  induction n with
  | zero => intro x1 x2 x3 M; exact VR.none
  | succ n ih => exact v_X5_whoIn_B4 hF hs _ ih
set_option maxRecDepth 100000 in
set_option maxHeartbeats 4000000 in
theorem c_X5_whoIn {G : Gx} {sh : List Sh} (hs : ModAt sh) (M : Mm) (x1 : Int32) : CT yX5_whoIn cX5_whoIn 4 (some .int) rmX5_whoIn G sh [.ref (G.2.2.2.2 0), .int x1] rvI M (m_X5_whoIn  x1 M) := by
  refine CT.of (by decide +kernel) (Nat.le_of_ble_eq_true rfl) (fun X hF => ?_)
  show VR X G sh 4 rvI M 0 [(0, .ref (G.2.2.2.2 0)), (1, .int x1)] [] _
  unfold m_X5_whoIn
  refine v_iconst (-1) 1 hF dX5_whoIn_0 rfl (by decide) ?_
  refine v_istore_n (lo' := fun y3 => [(2, .int y3), (0, .ref (G.2.2.2.2 0)), (1, .int x1)]) 2 hF dX5_whoIn_1 rfl rfl (by decide) (fun _ => rfl) (fun y3 => ?_)
  refine v_iconst (0) 3 hF dX5_whoIn_2 rfl (by decide) ?_
  refine v_istore_n (lo' := fun y4 => [(3, .int y4), (2, .int y3), (0, .ref (G.2.2.2.2 0)), (1, .int x1)]) 4 hF dX5_whoIn_3 rfl rfl (by decide) (fun _ => rfl) (fun y4 => ?_)
  refine VR.pick [2, 3, 1, 0] rfl ?_
  exact v_X5_whoIn_L4 hF hs FU x1 y3 y4 M
abbrev rmX5_person : Room := { frames := 1, cells := 0, slots := 0, locals := 25 }
def m_X5_person (x1 : Int32) (x2 : Int32) (x3 : Int32) (M : Mm) : Option (Int32 × Mm) := bd (m_X5_in (((x1).toInt64)) ((0 : Int64)) ((5 : Int64)) M) fun r2 M1 => if r2 = 0 then (some ((-2 : Int32), M1)) else (bd (m_X5_in (((x2).toInt64)) ((0 : Int64)) ((9 : Int64)) M1) fun r4 M3 => if r4 = 0 then (some ((-2 : Int32), M3)) else (bd (m_X5_in (((x3).toInt64)) ((0 : Int64)) ((7 : Int64)) M3) fun r6 M5 => if r6 = 0 then (some ((-2 : Int32), M5)) else (bd (m_X5_whoIn x3 M5) fun r8 M7 => if r8 = (-1 : Int32) then (if (M7 0 10) = (5 : Int32) then (some ((-4 : Int32), M7)) else (gd (inr (((3 : Int32) * (M7 0 10))) 15) (lt1 (up M7 4 (((3 : Int32) * (M7 0 10))).toNatClampNeg x2) fun M9 => gd (inr ((((3 : Int32) * (M9 0 10)) + (1 : Int32))) 15) (lt1 (up M9 4 ((((3 : Int32) * (M9 0 10)) + (1 : Int32))).toNatClampNeg x1) fun M10 => gd (inr ((((3 : Int32) * (M10 0 10)) + (2 : Int32))) 15) (lt1 (up M10 4 ((((3 : Int32) * (M10 0 10)) + (2 : Int32))).toNatClampNeg x3) fun M11 => lt1 (up M11 0 10 (((M11 0 10) + (1 : Int32)))) fun M12 => some (((M12 0 10) - (1 : Int32)), M12)))))) else (some ((-2 : Int32), M7)))))
set_option maxRecDepth 100000 in
set_option maxHeartbeats 4000000 in
theorem c_X5_person {G : Gx} {sh : List Sh} (hs : ModAt sh) (M : Mm) (x1 : Int32) (x2 : Int32) (x3 : Int32) : CT yX5_person cX5_person 4 (some .int) rmX5_person G sh [.ref (G.2.2.2.2 0), .int x1, .int x2, .int x3] rvI M (m_X5_person  x1 x2 x3 M) := by
  refine CT.of (by decide +kernel) (Nat.le_of_ble_eq_true rfl) (fun X hF => ?_)
  show VR X G sh 4 rvI M 0 [(0, .ref (G.2.2.2.2 0)), (1, .int x1), (2, .int x2), (3, .int x3)] [] _
  unfold m_X5_person
  refine v_iload_n 1 1 hF dX5_person_0 rfl rfl rfl ?_
  refine v_i2l 2 hF dX5_person_1 rfl ?_
  refine v_lconst 0 3 hF dX5_person_2 rfl (by decide) ?_
  refine v_ldc2 (5) 6 hF dX5_person_3 rfl cc_X5_114 ?_
  refine v_staI ([.long (((x1).toInt64)), .long ((0 : Int64)), .long ((5 : Int64))]) ([]) 9 hF dX5_person_6 rfl cw_X5_76 (c_X5_in (G := G) (sh := sh) M (((x1).toInt64)) ((0 : Int64)) ((5 : Int64))) ⟨rfl, rfl, Nat.le_of_ble_eq_true rfl, Nat.le_of_ble_eq_true rfl⟩ rfl rfl (Nat.le_of_ble_eq_true rfl) (fun r2 M1 => ?_)
  refine v_if_eq 12 45 hF dX5_person_9 rfl (by decide) (fun _ => ?_) (fun _ => ?_)
  · refine v_bipush (-2) 47 hF dX5_person_45 rfl (by decide) ?_
    exact v_iret hF dX5_person_47
  · refine v_iload_n 2 13 hF dX5_person_12 rfl rfl rfl ?_
    refine v_i2l 14 hF dX5_person_13 rfl ?_
    refine v_lconst 0 15 hF dX5_person_14 rfl (by decide) ?_
    refine v_ldc2 (9) 18 hF dX5_person_15 rfl cc_X5_116 ?_
    refine v_staI ([.long (((x2).toInt64)), .long ((0 : Int64)), .long ((9 : Int64))]) ([]) 21 hF dX5_person_18 rfl cw_X5_76 (c_X5_in (G := G) (sh := sh) M1 (((x2).toInt64)) ((0 : Int64)) ((9 : Int64))) ⟨rfl, rfl, Nat.le_of_ble_eq_true rfl, Nat.le_of_ble_eq_true rfl⟩ rfl rfl (Nat.le_of_ble_eq_true rfl) (fun r4 M3 => ?_)
    refine v_if_eq 24 45 hF dX5_person_21 rfl (by decide) (fun _ => ?_) (fun _ => ?_)
    · refine v_bipush (-2) 47 hF dX5_person_45 rfl (by decide) ?_
      exact v_iret hF dX5_person_47
    · refine v_iload_n 3 25 hF dX5_person_24 rfl rfl rfl ?_
      refine v_i2l 26 hF dX5_person_25 rfl ?_
      refine v_lconst 0 27 hF dX5_person_26 rfl (by decide) ?_
      refine v_ldc2 (7) 30 hF dX5_person_27 rfl cc_X5_118 ?_
      refine v_staI ([.long (((x3).toInt64)), .long ((0 : Int64)), .long ((7 : Int64))]) ([]) 33 hF dX5_person_30 rfl cw_X5_76 (c_X5_in (G := G) (sh := sh) M3 (((x3).toInt64)) ((0 : Int64)) ((7 : Int64))) ⟨rfl, rfl, Nat.le_of_ble_eq_true rfl, Nat.le_of_ble_eq_true rfl⟩ rfl rfl (Nat.le_of_ble_eq_true rfl) (fun r6 M5 => ?_)
      refine v_if_eq 36 45 hF dX5_person_33 rfl (by decide) (fun _ => ?_) (fun _ => ?_)
      · refine v_bipush (-2) 47 hF dX5_person_45 rfl (by decide) ?_
        exact v_iret hF dX5_person_47
      · refine v_aload_n 0 37 hF dX5_person_36 rfl rfl rfl ?_
        refine v_iload_n 3 38 hF dX5_person_37 rfl rfl rfl ?_
        refine v_callI ([.int x3]) ([]) 41 hF dX5_person_38 rfl cw_X5_120 rfl (hs.1) (c_X5_whoIn (G := G) hs M5 x3) ⟨rfl, rfl, Nat.le_of_ble_eq_true rfl, Nat.le_of_ble_eq_true rfl⟩ rfl rfl (Nat.le_of_ble_eq_true rfl) (fun r8 M7 => ?_)
        refine v_iconst (-1) 42 hF dX5_person_41 rfl (by decide) ?_
        refine v_icmp_eq 45 48 hF dX5_person_42 rfl (by decide) (fun _ => ?_) (fun _ => ?_)
        · refine v_aload_n 0 49 hF dX5_person_48 rfl rfl rfl ?_
          refine v_getI 52 hF dX5_person_49 rfl fl_X5_73 hs.1 rfl ?_
          refine v_iconst (5) 53 hF dX5_person_52 rfl (by decide) ?_
          refine v_icmp_ne 56 59 hF dX5_person_53 rfl (by decide) (fun _ => ?_) (fun _ => ?_)
          · refine v_aload_n 0 60 hF dX5_person_59 rfl rfl rfl ?_
            refine v_getR (b := 4) 63 hF dX5_person_60 rfl fl_X5_26 hs.1 rfl ?_
            refine v_iconst (3) 64 hF dX5_person_63 rfl (by decide) ?_
            refine v_aload_n 0 65 hF dX5_person_64 rfl rfl rfl ?_
            refine v_getI 68 hF dX5_person_65 rfl fl_X5_73 hs.1 rfl ?_
            refine v_imul 69 hF dX5_person_68 rfl ?_
            refine v_iload_n 2 70 hF dX5_person_69 rfl rfl rfl ?_
            refine v_iast 71 hF dX5_person_70 rfl (hs.2.2.2.2.1) (fun M9 => ?_)
            refine v_aload_n 0 72 hF dX5_person_71 rfl rfl rfl ?_
            refine v_getR (b := 4) 75 hF dX5_person_72 rfl fl_X5_26 hs.1 rfl ?_
            refine v_iconst (3) 76 hF dX5_person_75 rfl (by decide) ?_
            refine v_aload_n 0 77 hF dX5_person_76 rfl rfl rfl ?_
            refine v_getI 80 hF dX5_person_77 rfl fl_X5_73 hs.1 rfl ?_
            refine v_imul 81 hF dX5_person_80 rfl ?_
            refine v_iconst (1) 82 hF dX5_person_81 rfl (by decide) ?_
            refine v_iadd 83 hF dX5_person_82 rfl ?_
            refine v_iload_n 1 84 hF dX5_person_83 rfl rfl rfl ?_
            refine v_iast 85 hF dX5_person_84 rfl (hs.2.2.2.2.1) (fun M10 => ?_)
            refine v_aload_n 0 86 hF dX5_person_85 rfl rfl rfl ?_
            refine v_getR (b := 4) 89 hF dX5_person_86 rfl fl_X5_26 hs.1 rfl ?_
            refine v_iconst (3) 90 hF dX5_person_89 rfl (by decide) ?_
            refine v_aload_n 0 91 hF dX5_person_90 rfl rfl rfl ?_
            refine v_getI 94 hF dX5_person_91 rfl fl_X5_73 hs.1 rfl ?_
            refine v_imul 95 hF dX5_person_94 rfl ?_
            refine v_iconst (2) 96 hF dX5_person_95 rfl (by decide) ?_
            refine v_iadd 97 hF dX5_person_96 rfl ?_
            refine v_iload_n 3 98 hF dX5_person_97 rfl rfl rfl ?_
            refine v_iast 99 hF dX5_person_98 rfl (hs.2.2.2.2.1) (fun M11 => ?_)
            refine v_aload_n 0 100 hF dX5_person_99 rfl rfl rfl ?_
            refine v_dupR 101 hF dX5_person_100 rfl ?_
            refine v_getI 104 hF dX5_person_101 rfl fl_X5_73 hs.1 rfl ?_
            refine v_iconst (1) 105 hF dX5_person_104 rfl (by decide) ?_
            refine v_iadd 106 hF dX5_person_105 rfl ?_
            refine v_putI 109 hF dX5_person_106 rfl fl_X5_73 fp_X5_10 hs.1 rfl (fun M12 => ?_)
            refine v_aload_n 0 110 hF dX5_person_109 rfl rfl rfl ?_
            refine v_getI 113 hF dX5_person_110 rfl fl_X5_73 hs.1 rfl ?_
            refine v_iconst (1) 114 hF dX5_person_113 rfl (by decide) ?_
            refine v_isub 115 hF dX5_person_114 rfl ?_
            exact v_iret hF dX5_person_115
          · refine v_bipush (-4) 58 hF dX5_person_56 rfl (by decide) ?_
            exact v_iret hF dX5_person_58
        · refine v_bipush (-2) 47 hF dX5_person_45 rfl (by decide) ?_
          exact v_iret hF dX5_person_47
abbrev rmX5_swap : Room := { frames := 3, cells := 0, slots := 0, locals := 68 }
def m_X5_swap (x1 : Int32) (x2 : Int32) (M : Mm) : Option (Int32 × Mm) := bd (m_X5_areTwo x1 x2 M) fun r2 M1 => if r2 = 0 then (some ((-2 : Int32), M1)) else (gd (inr ((((3 : Int32) * x1) + (2 : Int32))) 15) (lt1 ((M1 4 ((((3 : Int32) * x1) + (2 : Int32))).toNatClampNeg)) fun y3 => gd (inr ((((3 : Int32) * x2) + (2 : Int32))) 15) (gd (inr ((((3 : Int32) * x1) + (2 : Int32))) 15) (lt1 (up M1 4 ((((3 : Int32) * x1) + (2 : Int32))).toNatClampNeg ((M1 4 ((((3 : Int32) * x2) + (2 : Int32))).toNatClampNeg))) fun M4 => gd (inr ((((3 : Int32) * x2) + (2 : Int32))) 15) (lt1 (up M4 4 ((((3 : Int32) * x2) + (2 : Int32))).toNatClampNeg y3) fun M5 => gd (inr ((((3 : Int32) * x1) + (2 : Int32))) 15) (some ((M5 4 ((((3 : Int32) * x1) + (2 : Int32))).toNatClampNeg), M5)))))))
set_option maxRecDepth 100000 in
set_option maxHeartbeats 4000000 in
theorem c_X5_swap {G : Gx} {sh : List Sh} (hs : ModAt sh) (M : Mm) (x1 : Int32) (x2 : Int32) : CT yX5_swap cX5_swap 4 (some .int) rmX5_swap G sh [.ref (G.2.2.2.2 0), .int x1, .int x2] rvI M (m_X5_swap  x1 x2 M) := by
  refine CT.of (by decide +kernel) (Nat.le_of_ble_eq_true rfl) (fun X hF => ?_)
  show VR X G sh 4 rvI M 0 [(0, .ref (G.2.2.2.2 0)), (1, .int x1), (2, .int x2)] [] _
  unfold m_X5_swap
  refine v_aload_n 0 1 hF dX5_swap_0 rfl rfl rfl ?_
  refine v_iload_n 1 2 hF dX5_swap_1 rfl rfl rfl ?_
  refine v_iload_n 2 3 hF dX5_swap_2 rfl rfl rfl ?_
  refine v_callI ([.int x1, .int x2]) ([]) 6 hF dX5_swap_3 rfl cw_X5_123 rfl (hs.1) (c_X5_areTwo (G := G) hs M x1 x2) ⟨rfl, rfl, Nat.le_of_ble_eq_true rfl, Nat.le_of_ble_eq_true rfl⟩ rfl rfl (Nat.le_of_ble_eq_true rfl) (fun r2 M1 => ?_)
  refine v_if_ne 9 12 hF dX5_swap_6 rfl (by decide) (fun _ => ?_) (fun _ => ?_)
  · refine v_aload_n 0 13 hF dX5_swap_12 rfl rfl rfl ?_
    refine v_getR (b := 4) 16 hF dX5_swap_13 rfl fl_X5_26 hs.1 rfl ?_
    refine v_iconst (3) 17 hF dX5_swap_16 rfl (by decide) ?_
    refine v_iload_n 1 18 hF dX5_swap_17 rfl rfl rfl ?_
    refine v_imul 19 hF dX5_swap_18 rfl ?_
    refine v_iconst (2) 20 hF dX5_swap_19 rfl (by decide) ?_
    refine v_iadd 21 hF dX5_swap_20 rfl ?_
    refine v_iald 22 hF dX5_swap_21 rfl (hs.2.2.2.2.1) ?_
    refine v_istore_n (lo' := fun y3 => [(3, .int y3), (0, .ref (G.2.2.2.2 0)), (1, .int x1), (2, .int x2)]) 23 hF dX5_swap_22 rfl rfl (by decide) (fun _ => rfl) (fun y3 => ?_)
    refine v_aload_n 1 24 hF dX5_swap_23 rfl rfl rfl ?_
    refine v_getR (b := 4) 27 hF dX5_swap_24 rfl fl_X5_26 hs.1 rfl ?_
    refine v_iconst (3) 28 hF dX5_swap_27 rfl (by decide) ?_
    refine v_iload_n 2 29 hF dX5_swap_28 rfl rfl rfl ?_
    refine v_imul 30 hF dX5_swap_29 rfl ?_
    refine v_iconst (2) 31 hF dX5_swap_30 rfl (by decide) ?_
    refine v_iadd 32 hF dX5_swap_31 rfl ?_
    refine v_aload_n 1 33 hF dX5_swap_32 rfl rfl rfl ?_
    refine v_getR (b := 4) 36 hF dX5_swap_33 rfl fl_X5_26 hs.1 rfl ?_
    refine v_iconst (3) 37 hF dX5_swap_36 rfl (by decide) ?_
    refine v_iload_n 3 38 hF dX5_swap_37 rfl rfl rfl ?_
    refine v_imul 39 hF dX5_swap_38 rfl ?_
    refine v_iconst (2) 40 hF dX5_swap_39 rfl (by decide) ?_
    refine v_iadd 41 hF dX5_swap_40 rfl ?_
    refine v_iald 42 hF dX5_swap_41 rfl (hs.2.2.2.2.1) ?_
    refine v_iast 43 hF dX5_swap_42 rfl (hs.2.2.2.2.1) (fun M4 => ?_)
    refine v_aload_n 1 44 hF dX5_swap_43 rfl rfl rfl ?_
    refine v_getR (b := 4) 47 hF dX5_swap_44 rfl fl_X5_26 hs.1 rfl ?_
    refine v_iconst (3) 48 hF dX5_swap_47 rfl (by decide) ?_
    refine v_iload_n 3 49 hF dX5_swap_48 rfl rfl rfl ?_
    refine v_imul 50 hF dX5_swap_49 rfl ?_
    refine v_iconst (2) 51 hF dX5_swap_50 rfl (by decide) ?_
    refine v_iadd 52 hF dX5_swap_51 rfl ?_
    refine v_iload_n 0 53 hF dX5_swap_52 rfl rfl rfl ?_
    refine v_iast 54 hF dX5_swap_53 rfl (hs.2.2.2.2.1) (fun M5 => ?_)
    refine v_aload_n 1 55 hF dX5_swap_54 rfl rfl rfl ?_
    refine v_getR (b := 4) 58 hF dX5_swap_55 rfl fl_X5_26 hs.1 rfl ?_
    refine v_iconst (3) 59 hF dX5_swap_58 rfl (by decide) ?_
    refine v_iload_n 2 60 hF dX5_swap_59 rfl rfl rfl ?_
    refine v_imul 61 hF dX5_swap_60 rfl ?_
    refine v_iconst (2) 62 hF dX5_swap_61 rfl (by decide) ?_
    refine v_iadd 63 hF dX5_swap_62 rfl ?_
    refine v_iald 64 hF dX5_swap_63 rfl (hs.2.2.2.2.1) ?_
    exact v_iret hF dX5_swap_64
  · refine v_bipush (-2) 11 hF dX5_swap_9 rfl (by decide) ?_
    exact v_iret hF dX5_swap_11
abbrev rmX5_bitsOf : Room := { frames := 0, cells := 0, slots := 0, locals := 0 }
def m_X5_bitsOf_B4 (n4 : Int32 → Int32 → Mm → Option (Int32 × Mm)) (x1 : Int32) (x2 : Int32) (M : Mm) : Option (Int32 × Mm) := if x2 = 0 then (some (x1, M)) else (lt1 (x1 + 1) fun y1 => lt1 ((x2 &&& (x2 - (1 : Int32)))) fun y2 => n4 y1 y2 M)
def m_X5_bitsOf_L4 : Nat → Int32 → Int32 → Mm → Option (Int32 × Mm)
  | 0 => fun _ _ _ => none
  | n + 1 => m_X5_bitsOf_B4  (m_X5_bitsOf_L4  n)
def m_X5_bitsOf (x0 : Int32) (M : Mm) : Option (Int32 × Mm) := lt1 ((0 : Int32)) fun y3 => lt1 x0 fun y4 => m_X5_bitsOf_L4 FU y3 y4 M
set_option maxRecDepth 100000 in
set_option maxHeartbeats 4000000 in
theorem v_X5_bitsOf_B4 {X : Cx} {G : Gx} {sh : List Sh} (hF : FX X G sh 3 cX5_bitsOf (yX5_bitsOf).cls (some .int) rmX5_bitsOf) (n4 : Int32 → Int32 → Mm → Option (Int32 × Mm)) (h4 : ∀ (x1 : Int32) (x2 : Int32) (M : Mm), VR X G sh 3 rvI M 4 [(1, .int x1), (2, .int x2)] [] (n4 x1 x2 M)) : ∀ (x1 : Int32) (x2 : Int32) (M : Mm), VR X G sh 3 rvI M 4 [(1, .int x1), (2, .int x2)] [] (m_X5_bitsOf_B4  n4 x1 x2 M) := by
  intro x1 x2 M
  unfold m_X5_bitsOf_B4
  refine v_iload_n 1 5 hF dX5_bitsOf_4 rfl rfl rfl ?_
  refine v_if_eq 8 20 hF dX5_bitsOf_5 rfl (by decide) (fun _ => ?_) (fun _ => ?_)
  · refine v_iload_n 0 21 hF dX5_bitsOf_20 rfl rfl rfl ?_
    exact v_iret hF dX5_bitsOf_21
  · refine v_iinc (v := (x1 + 1)) (lo' := fun y1 => [(1, .int y1), (2, .int x2)]) 0 11 hF dX5_bitsOf_8 rfl rfl rfl (by decide) (fun _ => rfl) (fun y1 => ?_)
    refine v_iload_n 1 12 hF dX5_bitsOf_11 rfl rfl rfl ?_
    refine v_iload_n 1 13 hF dX5_bitsOf_12 rfl rfl rfl ?_
    refine v_iconst (1) 14 hF dX5_bitsOf_13 rfl (by decide) ?_
    refine v_isub 15 hF dX5_bitsOf_14 rfl ?_
    refine v_iand 16 hF dX5_bitsOf_15 rfl ?_
    refine v_istore_n (lo' := fun y2 => [(2, .int y2), (1, .int y1)]) 17 hF dX5_bitsOf_16 rfl rfl (by decide) (fun _ => rfl) (fun y2 => ?_)
    refine v_goto 4 hF dX5_bitsOf_17 (by decide) ?_
    refine VR.pick [1, 0] rfl ?_
    exact h4 y1 y2 M
theorem v_X5_bitsOf_L4 {X : Cx} {G : Gx} {sh : List Sh} (hF : FX X G sh 3 cX5_bitsOf (yX5_bitsOf).cls (some .int) rmX5_bitsOf) : ∀ (n : Nat), ∀ (x1 : Int32) (x2 : Int32) (M : Mm), VR X G sh 3 rvI M 4 [(1, .int x1), (2, .int x2)] [] (m_X5_bitsOf_L4  n x1 x2 M) := by
  intro n
  induction n with
  | zero => intro x1 x2 M; exact VR.none
  | succ n ih => exact v_X5_bitsOf_B4 hF  _ ih
set_option maxRecDepth 100000 in
set_option maxHeartbeats 4000000 in
theorem c_X5_bitsOf {G : Gx} {sh : List Sh} (M : Mm) (x0 : Int32) : CT yX5_bitsOf cX5_bitsOf 3 (some .int) rmX5_bitsOf G sh [.int x0] rvI M (m_X5_bitsOf  x0 M) := by
  refine CT.of (by decide +kernel) (Nat.le_of_ble_eq_true rfl) (fun X hF => ?_)
  show VR X G sh 3 rvI M 0 [(0, .int x0)] [] _
  unfold m_X5_bitsOf
  refine v_iconst (0) 1 hF dX5_bitsOf_0 rfl (by decide) ?_
  refine v_istore_n (lo' := fun y3 => [(1, .int y3), (0, .int x0)]) 2 hF dX5_bitsOf_1 rfl rfl (by decide) (fun _ => rfl) (fun y3 => ?_)
  refine v_iload_n 1 3 hF dX5_bitsOf_2 rfl rfl rfl ?_
  refine v_istore_n (lo' := fun y4 => [(2, .int y4), (1, .int y3), (0, .int x0)]) 4 hF dX5_bitsOf_3 rfl rfl (by decide) (fun _ => rfl) (fun y4 => ?_)
  refine VR.pick [1, 0] rfl ?_
  exact v_X5_bitsOf_L4 hF FU y3 y4 M
abbrev rmX5_feed : Room := { frames := 1, cells := 0, slots := 0, locals := 25 }
def m_X5_feed (x1 : Int32) (M : Mm) : Option (Int32 × Mm) := bd (m_X5_in (((x1).toInt64)) ((0 : Int64)) ((255 : Int64)) M) fun r2 M1 => if r2 = 0 then (some ((-2 : Int32), M1)) else (if (M1 0 6) = (160 : Int32) then (some ((-4 : Int32), M1)) else (gd (inr ((M1 0 6)) 160) (lt1 (up M1 3 ((M1 0 6)).toNatClampNeg x1) fun M3 => lt1 (up M3 0 6 (((M3 0 6) + (1 : Int32)))) fun M4 => some ((M4 0 6), M4))))
set_option maxRecDepth 100000 in
set_option maxHeartbeats 4000000 in
theorem c_X5_feed {G : Gx} {sh : List Sh} (hs : ModAt sh) (M : Mm) (x1 : Int32) : CT yX5_feed cX5_feed 2 (some .int) rmX5_feed G sh [.ref (G.2.2.2.2 0), .int x1] rvI M (m_X5_feed  x1 M) := by
  refine CT.of (by decide +kernel) (Nat.le_of_ble_eq_true rfl) (fun X hF => ?_)
  show VR X G sh 2 rvI M 0 [(0, .ref (G.2.2.2.2 0)), (1, .int x1)] [] _
  unfold m_X5_feed
  refine v_iload_n 1 1 hF dX5_feed_0 rfl rfl rfl ?_
  refine v_i2l 2 hF dX5_feed_1 rfl ?_
  refine v_lconst 0 3 hF dX5_feed_2 rfl (by decide) ?_
  refine v_ldc2 (255) 6 hF dX5_feed_3 rfl cc_X5_131 ?_
  refine v_staI ([.long (((x1).toInt64)), .long ((0 : Int64)), .long ((255 : Int64))]) ([]) 9 hF dX5_feed_6 rfl cw_X5_76 (c_X5_in (G := G) (sh := sh) M (((x1).toInt64)) ((0 : Int64)) ((255 : Int64))) ⟨rfl, rfl, Nat.le_of_ble_eq_true rfl, Nat.le_of_ble_eq_true rfl⟩ rfl rfl (Nat.le_of_ble_eq_true rfl) (fun r2 M1 => ?_)
  refine v_if_ne 12 15 hF dX5_feed_9 rfl (by decide) (fun _ => ?_) (fun _ => ?_)
  · refine v_aload_n 0 16 hF dX5_feed_15 rfl rfl rfl ?_
    refine v_getI 19 hF dX5_feed_16 rfl fl_X5_133 hs.1 rfl ?_
    refine v_sipush (160) 22 hF dX5_feed_19 rfl (by decide) ?_
    refine v_icmp_ne 25 28 hF dX5_feed_22 rfl (by decide) (fun _ => ?_) (fun _ => ?_)
    · refine v_aload_n 0 29 hF dX5_feed_28 rfl rfl rfl ?_
      refine v_getR (b := 3) 32 hF dX5_feed_29 rfl fl_X5_20 hs.1 rfl ?_
      refine v_aload_n 0 33 hF dX5_feed_32 rfl rfl rfl ?_
      refine v_getI 36 hF dX5_feed_33 rfl fl_X5_133 hs.1 rfl ?_
      refine v_iload_n 1 37 hF dX5_feed_36 rfl rfl rfl ?_
      refine v_iast 38 hF dX5_feed_37 rfl (hs.2.2.2.1) (fun M3 => ?_)
      refine v_aload_n 0 39 hF dX5_feed_38 rfl rfl rfl ?_
      refine v_dupR 40 hF dX5_feed_39 rfl ?_
      refine v_getI 43 hF dX5_feed_40 rfl fl_X5_133 hs.1 rfl ?_
      refine v_iconst (1) 44 hF dX5_feed_43 rfl (by decide) ?_
      refine v_iadd 45 hF dX5_feed_44 rfl ?_
      refine v_putI 48 hF dX5_feed_45 rfl fl_X5_133 fp_X5_6 hs.1 rfl (fun M4 => ?_)
      refine v_aload_n 0 49 hF dX5_feed_48 rfl rfl rfl ?_
      refine v_getI 52 hF dX5_feed_49 rfl fl_X5_133 hs.1 rfl ?_
      exact v_iret hF dX5_feed_52
    · refine v_bipush (-4) 27 hF dX5_feed_25 rfl (by decide) ?_
      exact v_iret hF dX5_feed_27
  · refine v_bipush (-2) 14 hF dX5_feed_12 rfl (by decide) ?_
    exact v_iret hF dX5_feed_14
abbrev rmX5_byteAt : Room := { frames := 0, cells := 0, slots := 0, locals := 0 }
def m_X5_byteAt (x1 : Int32) (M : Mm) : Option (Int32 × Mm) := if (M 0 21) ≤ x1 then (some ((-1 : Int32), M)) else (gd (inr (((M 0 20) + x1)) 960) (some ((M 1 (((M 0 20) + x1)).toNatClampNeg), M)))
set_option maxRecDepth 100000 in
set_option maxHeartbeats 4000000 in
theorem c_X5_byteAt {G : Gx} {sh : List Sh} (hs : ModAt sh) (M : Mm) (x1 : Int32) : CT yX5_byteAt cX5_byteAt 2 (some .int) rmX5_byteAt G sh [.ref (G.2.2.2.2 0), .int x1] rvI M (m_X5_byteAt  x1 M) := by
  refine CT.of (by decide +kernel) (Nat.le_of_ble_eq_true rfl) (fun X hF => ?_)
  show VR X G sh 2 rvI M 0 [(0, .ref (G.2.2.2.2 0)), (1, .int x1)] [] _
  unfold m_X5_byteAt
  refine v_iload_n 1 1 hF dX5_byteAt_0 rfl rfl rfl ?_
  refine v_aload_n 0 2 hF dX5_byteAt_1 rfl rfl rfl ?_
  refine v_getI 5 hF dX5_byteAt_2 rfl fl_X5_136 hs.1 rfl ?_
  refine v_icmp_ge 8 22 hF dX5_byteAt_5 rfl (by decide) (fun _ => ?_) (fun _ => ?_)
  · refine v_iconst (-1) 23 hF dX5_byteAt_22 rfl (by decide) ?_
    exact v_iret hF dX5_byteAt_23
  · refine v_aload_n 0 9 hF dX5_byteAt_8 rfl rfl rfl ?_
    refine v_getR (b := 1) 12 hF dX5_byteAt_9 rfl fl_X5_13 hs.1 rfl ?_
    refine v_aload_n 0 13 hF dX5_byteAt_12 rfl rfl rfl ?_
    refine v_getI 16 hF dX5_byteAt_13 rfl fl_X5_139 hs.1 rfl ?_
    refine v_iload_n 1 17 hF dX5_byteAt_16 rfl rfl rfl ?_
    refine v_iadd 18 hF dX5_byteAt_17 rfl ?_
    refine v_iald 19 hF dX5_byteAt_18 rfl (hs.2.1) ?_
    refine v_goto 23 hF dX5_byteAt_19 (by decide) ?_
    exact v_iret hF dX5_byteAt_23
