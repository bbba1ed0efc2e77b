abbrev rmX4_force : Room := { frames := 1, cells := 0, slots := 0, locals := 21 }
def m_X4_force (x1 : Int32) (M : Mm) : Option (Int32 × Mm) := bd (m_X2_isText x1 M) fun r2 M1 => if r2 = 0 then (some ((-2 : Int32), M1)) else (lt1 ((M1 7 3)) fun y3 => lt1 (up M1 7 3 x1) fun M4 => some (y3, M4))
set_option maxRecDepth 100000 in
set_option maxHeartbeats 4000000 in
theorem c_X4_force {G : Gx} {sh : List Sh} (hs : TopAt sh) (M : Mm) (x1 : Int32) : CT yX4_force cX4_force 3 (some .int) rmX4_force G sh [.ref (G.2.2.2.2 0), .int x1] rvI M (m_X4_force  x1 M) := by
  refine CT.of (by decide +kernel) (Nat.le_of_ble_eq_true rfl) (fun X hF => ?_)
  show VR X G sh 3 rvI M 0 [(0, .ref (G.2.2.2.2 0)), (1, .int x1)] [] _
  unfold m_X4_force
  refine v_aload_n 0 1 hF dX4_force_0 rfl rfl rfl ?_
  refine v_getR (b := 1) 4 hF dX4_force_1 rfl fl_X4_10 hs.1 rfl ?_
  refine v_iload_n 1 5 hF dX4_force_4 rfl rfl rfl ?_
  refine v_callI ([.int x1]) ([]) 8 hF dX4_force_5 rfl cw_X4_155 rfl (hs.2.1.1) (c_X2_isText (G := G) (hs.2.1) M x1) ⟨rfl, rfl, Nat.le_of_ble_eq_true rfl, Nat.le_of_ble_eq_true rfl⟩ rfl rfl (Nat.le_of_ble_eq_true rfl) (fun r2 M1 => ?_)
  refine v_if_ne 11 14 hF dX4_force_8 rfl (by decide) (fun _ => ?_) (fun _ => ?_)
  · refine v_aload_n 0 15 hF dX4_force_14 rfl rfl rfl ?_
    refine v_getR (b := 7) 18 hF dX4_force_15 rfl fl_X4_38 hs.1 rfl ?_
    refine v_getI 21 hF dX4_force_18 rfl fl_X4_158 hs.2.2.2.1.1 rfl ?_
    refine v_istore_n (lo' := fun y3 => [(2, .int y3), (0, .ref (G.2.2.2.2 0)), (1, .int x1)]) 22 hF dX4_force_21 rfl rfl (by decide) (fun _ => rfl) (fun y3 => ?_)
    refine v_aload_n 1 23 hF dX4_force_22 rfl rfl rfl ?_
    refine v_getR (b := 7) 26 hF dX4_force_23 rfl fl_X4_38 hs.1 rfl ?_
    refine v_iload_n 2 27 hF dX4_force_26 rfl rfl rfl ?_
    refine v_putI 30 hF dX4_force_27 rfl fl_X4_158 fp_X3_3 hs.2.2.2.1.1 rfl (fun M4 => ?_)
    refine v_iload_n 0 31 hF dX4_force_30 rfl rfl rfl ?_
    exact v_iret hF dX4_force_31
  · refine v_bipush (-2) 13 hF dX4_force_11 rfl (by decide) ?_
    exact v_iret hF dX4_force_13
abbrev rmX4_send : Room := { frames := 5, cells := 0, slots := 0, locals := 119 }
def m_X4_send (x1 : Int32) (x2 : Int32) (M : Mm) : Option (Int32 × Mm) := bd (m_X3_areTwo 7 x1 x2 M) fun r2 M1 => if r2 = 0 then (some ((-2 : Int32), M1)) else (bd (m_X3_post 7 x1 x2 M1) fun r4 M3 => some (r4, M3))
set_option maxRecDepth 100000 in
set_option maxHeartbeats 4000000 in
theorem c_X4_send {G : Gx} {sh : List Sh} (hs : TopAt sh) (M : Mm) (x1 : Int32) (x2 : Int32) : CT yX4_send cX4_send 3 (some .int) rmX4_send G sh [.ref (G.2.2.2.2 0), .int x1, .int x2] rvI M (m_X4_send  x1 x2 M) := by
  refine CT.of (by decide +kernel) (Nat.le_of_ble_eq_true rfl) (fun X hF => ?_)
  show VR X G sh 3 rvI M 0 [(0, .ref (G.2.2.2.2 0)), (1, .int x1), (2, .int x2)] [] _
  unfold m_X4_send
  refine v_aload_n 0 1 hF dX4_send_0 rfl rfl rfl ?_
  refine v_getR (b := 7) 4 hF dX4_send_1 rfl fl_X4_38 hs.1 rfl ?_
  refine v_iload_n 1 5 hF dX4_send_4 rfl rfl rfl ?_
  refine v_iload_n 2 6 hF dX4_send_5 rfl rfl rfl ?_
  refine v_callI ([.int x1, .int x2]) ([]) 9 hF dX4_send_6 rfl cw_X4_88 rfl (hs.2.2.2.1.1) (c_X3_areTwo (G := G) (hs.2.1) (hs.2.2.2.1) M x1 x2) ⟨rfl, rfl, Nat.le_of_ble_eq_true rfl, Nat.le_of_ble_eq_true rfl⟩ rfl rfl (Nat.le_of_ble_eq_true rfl) (fun r2 M1 => ?_)
  refine v_if_eq 12 24 hF dX4_send_9 rfl (by decide) (fun _ => ?_) (fun _ => ?_)
  · refine v_bipush (-2) 26 hF dX4_send_24 rfl (by decide) ?_
    exact v_iret hF dX4_send_26
  · refine v_aload_n 0 13 hF dX4_send_12 rfl rfl rfl ?_
    refine v_getR (b := 7) 16 hF dX4_send_13 rfl fl_X4_38 hs.1 rfl ?_
    refine v_iload_n 1 17 hF dX4_send_16 rfl rfl rfl ?_
    refine v_iload_n 2 18 hF dX4_send_17 rfl rfl rfl ?_
    refine v_callI ([.int x1, .int x2]) ([]) 21 hF dX4_send_18 rfl cw_X4_161 rfl (hs.2.2.2.1.1) (c_X3_post (G := G) (hs.2.1) (hs.2.2.2.1) M1 x1 x2) ⟨rfl, rfl, Nat.le_of_ble_eq_true rfl, Nat.le_of_ble_eq_true rfl⟩ rfl rfl (Nat.le_of_ble_eq_true rfl) (fun r4 M3 => ?_)
    refine v_goto 26 hF dX4_send_21 (by decide) ?_
    exact v_iret hF dX4_send_26
abbrev rmX4_day : Room := { frames := 6, cells := 0, slots := 0, locals := 143 }
def m_X4_day  (M : Mm) : Option (Int32 × Mm) := if (M 7 1) < (999 : Int32) then (bd (m_X3_passDay 7 M) fun r2 M1 => some (r2, M1)) else (some ((-3 : Int32), M))
set_option maxRecDepth 100000 in
set_option maxHeartbeats 4000000 in
theorem c_X4_day {G : Gx} {sh : List Sh} (hs : TopAt sh) (M : Mm)  : CT yX4_day cX4_day 1 (some .int) rmX4_day G sh [.ref (G.2.2.2.2 0)] rvI M (m_X4_day   M) := by
  refine CT.of (by decide +kernel) (Nat.le_of_ble_eq_true rfl) (fun X hF => ?_)
  show VR X G sh 1 rvI M 0 [(0, .ref (G.2.2.2.2 0))] [] _
  unfold m_X4_day
  refine v_aload_n 0 1 hF dX4_day_0 rfl rfl rfl ?_
  refine v_getR (b := 7) 4 hF dX4_day_1 rfl fl_X4_38 hs.1 rfl ?_
  refine v_getI 7 hF dX4_day_4 rfl fl_X4_67 hs.2.2.2.1.1 rfl ?_
  refine v_sipush (999) 10 hF dX4_day_7 rfl (by decide) ?_
  refine v_icmp_lt 13 18 hF dX4_day_10 rfl (by decide) (fun _ => ?_) (fun _ => ?_)
  · refine v_aload_n 0 19 hF dX4_day_18 rfl rfl rfl ?_
    refine v_getR (b := 7) 22 hF dX4_day_19 rfl fl_X4_38 hs.1 rfl ?_
    refine v_callI ([]) ([]) 25 hF dX4_day_22 rfl cw_X4_164 rfl (hs.2.2.2.1.1) (c_X3_passDay (G := G) (hs.2.1) (hs.2.2.2.1) M) ⟨rfl, rfl, Nat.le_of_ble_eq_true rfl, Nat.le_of_ble_eq_true rfl⟩ rfl rfl (Nat.le_of_ble_eq_true rfl) (fun r2 M1 => ?_)
    exact v_iret hF dX4_day_25
  · refine v_bipush (-3) 15 hF dX4_day_13 rfl (by decide) ?_
    refine v_goto 25 hF dX4_day_15 (by decide) ?_
    exact v_iret hF dX4_day_25
abbrev rmX4_run : Room := { frames := 7, cells := 0, slots := 0, locals := 165 }
def m_X4_run (x1 : Int32) (x2 : Int32) (x3 : Int32) (M : Mm) : Option (Int32 × Mm) := bd (m_X3_isLetter 7 x1 M) fun r2 M1 => if r2 = 0 then (some ((-2 : Int32), M1)) else (if x2 < 0 then (some ((-2 : Int32), M1)) else (if (40 : Int32) < x2 then (some ((-2 : Int32), M1)) else (if x3 < 0 then (some ((-2 : Int32), M1)) else (if x3 ≤ (3 : Int32) then (bd (m_X3_takeOver 16 7 M1) fun _ M3 => bd (m_X3_passDays 16 x2 M3) fun _ M4 => if x3 = (0) then (bd (m_X3_whereIs 16 x1 M4) fun r6 M5 => some (r6, M5)) else (if x3 = (1) then (bd (m_X3_toneOf 16 x1 M4) fun r8 M7 => some (r8, M7)) else (if x3 = (2) then (bd (m_X3_readBy 16 x1 M4) fun r10 M9 => some (r10, M9)) else (bd (m_X3_homes 16 M4) fun r12 M11 => some (r12, M11))))) else (some ((-2 : Int32), M1))))))
set_option maxRecDepth 100000 in
set_option maxHeartbeats 4000000 in
theorem c_X4_run {G : Gx} {sh : List Sh} (hs : TopAt sh) (M : Mm) (x1 : Int32) (x2 : Int32) (x3 : Int32) : CT yX4_run cX4_run 4 (some .int) rmX4_run G sh [.ref (G.2.2.2.2 0), .int x1, .int x2, .int x3] rvI M (m_X4_run  x1 x2 x3 M) := by
  refine CT.of (by decide +kernel) (Nat.le_of_ble_eq_true rfl) (fun X hF => ?_)
  show VR X G sh 4 rvI M 0 [(0, .ref (G.2.2.2.2 0)), (1, .int x1), (2, .int x2), (3, .int x3)] [] _
  unfold m_X4_run
  refine v_aload_n 0 1 hF dX4_run_0 rfl rfl rfl ?_
  refine v_getR (b := 7) 4 hF dX4_run_1 rfl fl_X4_38 hs.1 rfl ?_
  refine v_iload_n 1 5 hF dX4_run_4 rfl rfl rfl ?_
  refine v_callI ([.int x1]) ([]) 8 hF dX4_run_5 rfl cw_X4_98 rfl (hs.2.2.2.1.1) (c_X3_isLetter (G := G) (hs.2.1) (hs.2.2.2.1) M x1) ⟨rfl, rfl, Nat.le_of_ble_eq_true rfl, Nat.le_of_ble_eq_true rfl⟩ rfl rfl (Nat.le_of_ble_eq_true rfl) (fun r2 M1 => ?_)
  refine v_if_eq 11 30 hF dX4_run_8 rfl (by decide) (fun _ => ?_) (fun _ => ?_)
  · refine v_bipush (-2) 32 hF dX4_run_30 rfl (by decide) ?_
    exact v_iret hF dX4_run_32
  · refine v_iload_n 2 12 hF dX4_run_11 rfl rfl rfl ?_
    refine v_if_lt 15 30 hF dX4_run_12 rfl (by decide) (fun _ => ?_) (fun _ => ?_)
    · refine v_bipush (-2) 32 hF dX4_run_30 rfl (by decide) ?_
      exact v_iret hF dX4_run_32
    · refine v_iload_n 2 16 hF dX4_run_15 rfl rfl rfl ?_
      refine v_bipush (40) 18 hF dX4_run_16 rfl (by decide) ?_
      refine v_icmp_gt 21 30 hF dX4_run_18 rfl (by decide) (fun _ => ?_) (fun _ => ?_)
      · refine v_bipush (-2) 32 hF dX4_run_30 rfl (by decide) ?_
        exact v_iret hF dX4_run_32
      · refine v_iload_n 3 22 hF dX4_run_21 rfl rfl rfl ?_
        refine v_if_lt 25 30 hF dX4_run_22 rfl (by decide) (fun _ => ?_) (fun _ => ?_)
        · refine v_bipush (-2) 32 hF dX4_run_30 rfl (by decide) ?_
          exact v_iret hF dX4_run_32
        · refine v_iload_n 3 26 hF dX4_run_25 rfl rfl rfl ?_
          refine v_iconst (3) 27 hF dX4_run_26 rfl (by decide) ?_
          refine v_icmp_le 30 33 hF dX4_run_27 rfl (by decide) (fun _ => ?_) (fun _ => ?_)
          · refine v_aload_n 0 34 hF dX4_run_33 rfl rfl rfl ?_
            refine v_getR (b := 16) 37 hF dX4_run_34 rfl fl_X4_42 hs.1 rfl ?_
            refine v_aload_n 0 38 hF dX4_run_37 rfl rfl rfl ?_
            refine v_getR (b := 7) 41 hF dX4_run_38 rfl fl_X4_38 hs.1 rfl ?_
            refine v_callV ([.ref (G.2.2.2.2 7)]) ([]) 44 hF dX4_run_41 rfl cw_X4_167 rfl (hs.2.2.2.2.1.1) (c_X3_takeOver (G := G) (hs.2.1) (hs.2.2.2.2.1) (hs.2.2.2.1) M1) ⟨rfl, rfl, Nat.le_of_ble_eq_true rfl, Nat.le_of_ble_eq_true rfl⟩ rfl rfl (Nat.le_of_ble_eq_true rfl) (fun _ M3 => ?_)
            refine v_aload_n 0 45 hF dX4_run_44 rfl rfl rfl ?_
            refine v_getR (b := 16) 48 hF dX4_run_45 rfl fl_X4_42 hs.1 rfl ?_
            refine v_iload_n 2 49 hF dX4_run_48 rfl rfl rfl ?_
            refine v_callV ([.int x2]) ([]) 52 hF dX4_run_49 rfl cw_X4_171 rfl (hs.2.2.2.2.1.1) (c_X3_passDays (G := G) (hs.2.1) (hs.2.2.2.2.1) M3 x2) ⟨rfl, rfl, Nat.le_of_ble_eq_true rfl, Nat.le_of_ble_eq_true rfl⟩ rfl rfl (Nat.le_of_ble_eq_true rfl) (fun _ M4 => ?_)
            refine v_iload_n 3 53 hF dX4_run_52 rfl rfl rfl ?_
            refine v_ite (fun e1 => ?_) (fun n0 => ?_)
            · refine v_tsIn (0) (27) 80 hF dX4_run_53 e1 (by decide) rfl (by decide) ?_
              refine v_aload_n 0 81 hF dX4_run_80 rfl rfl rfl ?_
              refine v_getR (b := 16) 84 hF dX4_run_81 rfl fl_X4_42 hs.1 rfl ?_
              refine v_iload_n 1 85 hF dX4_run_84 rfl rfl rfl ?_
              refine v_callI ([.int x1]) ([]) 88 hF dX4_run_85 rfl cw_X4_138 rfl (hs.2.2.2.2.1.1) (c_X3_whereIs (G := G) (hs.2.1) (hs.2.2.2.2.1) M4 x1) ⟨rfl, rfl, Nat.le_of_ble_eq_true rfl, Nat.le_of_ble_eq_true rfl⟩ rfl rfl (Nat.le_of_ble_eq_true rfl) (fun r6 M5 => ?_)
              exact v_iret hF dX4_run_88
            · refine v_ite (fun e1 => ?_) (fun n1 => ?_)
              · refine v_tsIn (1) (36) 89 hF dX4_run_53 e1 (by decide) rfl (by decide) ?_
                refine v_aload_n 0 90 hF dX4_run_89 rfl rfl rfl ?_
                refine v_getR (b := 16) 93 hF dX4_run_90 rfl fl_X4_42 hs.1 rfl ?_
                refine v_iload_n 1 94 hF dX4_run_93 rfl rfl rfl ?_
                refine v_callI ([.int x1]) ([]) 97 hF dX4_run_94 rfl cw_X4_129 rfl (hs.2.2.2.2.1.1) (c_X3_toneOf (G := G) (hs.2.1) (hs.2.2.2.2.1) M4 x1) ⟨rfl, rfl, Nat.le_of_ble_eq_true rfl, Nat.le_of_ble_eq_true rfl⟩ rfl rfl (Nat.le_of_ble_eq_true rfl) (fun r8 M7 => ?_)
                exact v_iret hF dX4_run_97
              · refine v_ite (fun e1 => ?_) (fun n2 => ?_)
                · refine v_tsIn (2) (45) 98 hF dX4_run_53 e1 (by decide) rfl (by decide) ?_
                  refine v_aload_n 0 99 hF dX4_run_98 rfl rfl rfl ?_
                  refine v_getR (b := 16) 102 hF dX4_run_99 rfl fl_X4_42 hs.1 rfl ?_
                  refine v_iload_n 1 103 hF dX4_run_102 rfl rfl rfl ?_
                  refine v_callI ([.int x1]) ([]) 106 hF dX4_run_103 rfl cw_X4_141 rfl (hs.2.2.2.2.1.1) (c_X3_readBy (G := G) (hs.2.1) (hs.2.2.2.2.1) M4 x1) ⟨rfl, rfl, Nat.le_of_ble_eq_true rfl, Nat.le_of_ble_eq_true rfl⟩ rfl rfl (Nat.le_of_ble_eq_true rfl) (fun r10 M9 => ?_)
                  exact v_iret hF dX4_run_106
                · refine v_tsOut 107 hF dX4_run_53 (by have a0 := lv_neT n0 (a := (0)) (by decide); have a1 := lv_neT n1 (a := (1)) (by decide); have a2 := lv_neT n2 (a := (2)) (by decide); omega) (by decide) ?_
                  refine v_aload_n 0 108 hF dX4_run_107 rfl rfl rfl ?_
                  refine v_getR (b := 16) 111 hF dX4_run_108 rfl fl_X4_42 hs.1 rfl ?_
                  refine v_callI ([]) ([]) 114 hF dX4_run_111 rfl cw_X4_175 rfl (hs.2.2.2.2.1.1) (c_X3_homes (G := G) (hs.2.1) (hs.2.2.2.2.1) M4) ⟨rfl, rfl, Nat.le_of_ble_eq_true rfl, Nat.le_of_ble_eq_true rfl⟩ rfl rfl (Nat.le_of_ble_eq_true rfl) (fun r12 M11 => ?_)
                  exact v_iret hF dX4_run_114
          · refine v_bipush (-2) 32 hF dX4_run_30 rfl (by decide) ?_
            exact v_iret hF dX4_run_32
abbrev rmX4_comes : Room := { frames := 6, cells := 0, slots := 0, locals := 142 }
def m_X4_comes_B27 (n27 : Int32 → Int32 → Mm → Option (Int32 × Mm)) (x1 : Int32) (x2 : Int32) (M : Mm) : Option (Int32 × Mm) := if (60 : Int32) < x2 then (some ((-1 : Int32), M)) else (bd (m_X3_whereIs 16 x1 M) fun r2 M1 => if r2 = (-1 : Int32) then (some (x2, M1)) else (bd (m_X3_passDayOf 16 x1 M1) fun _ M3 => lt1 (x2 + 1) fun y4 => n27 x1 y4 M3))
def m_X4_comes_L27 : Nat → Int32 → Int32 → Mm → Option (Int32 × Mm)
  | 0 => fun _ _ _ => none
  | n + 1 => m_X4_comes_B27  (m_X4_comes_L27  n)
def m_X4_comes (x1 : Int32) (M : Mm) : Option (Int32 × Mm) := bd (m_X3_isLetter 7 x1 M) fun r6 M5 => if r6 = 0 then (some ((-2 : Int32), M5)) else (bd (m_X3_takeOver 16 7 M5) fun _ M7 => lt1 ((0 : Int32)) fun y8 => m_X4_comes_L27 FU x1 y8 M7)
set_option maxRecDepth 100000 in
set_option maxHeartbeats 4000000 in
theorem v_X4_comes_B27 {X : Cx} {G : Gx} {sh : List Sh} (hF : FX X G sh 3 cX4_comes (yX4_comes).cls (some .int) rmX4_comes) (hs : TopAt sh) (n27 : Int32 → Int32 → Mm → Option (Int32 × Mm)) (h27 : ∀ (x1 : Int32) (x2 : Int32) (M : Mm), VR X G sh 3 rvI M 27 [(0, .ref (G.2.2.2.2 0)), (1, .int x1), (2, .int x2)] [] (n27 x1 x2 M)) : ∀ (x1 : Int32) (x2 : Int32) (M : Mm), VR X G sh 3 rvI M 27 [(0, .ref (G.2.2.2.2 0)), (1, .int x1), (2, .int x2)] [] (m_X4_comes_B27  n27 x1 x2 M) := by
  intro x1 x2 M
  unfold m_X4_comes_B27
  refine v_iload_n 2 28 hF dX4_comes_27 rfl rfl rfl ?_
  refine v_bipush (60) 30 hF dX4_comes_28 rfl (by decide) ?_
  refine v_icmp_gt 33 61 hF dX4_comes_30 rfl (by decide) (fun _ => ?_) (fun _ => ?_)
  · refine v_iconst (-1) 62 hF dX4_comes_61 rfl (by decide) ?_
    exact v_iret hF dX4_comes_62
  · refine v_aload_n 0 34 hF dX4_comes_33 rfl rfl rfl ?_
    refine v_getR (b := 16) 37 hF dX4_comes_34 rfl fl_X4_42 hs.1 rfl ?_
    refine v_iload_n 1 38 hF dX4_comes_37 rfl rfl rfl ?_
    refine v_callI ([.int x1]) ([]) 41 hF dX4_comes_38 rfl cw_X4_138 rfl (hs.2.2.2.2.1.1) (c_X3_whereIs (G := G) (hs.2.1) (hs.2.2.2.2.1) M x1) ⟨rfl, rfl, Nat.le_of_ble_eq_true rfl, Nat.le_of_ble_eq_true rfl⟩ rfl rfl (Nat.le_of_ble_eq_true rfl) (fun r2 M1 => ?_)
    refine v_iconst (-1) 42 hF dX4_comes_41 rfl (by decide) ?_
    refine v_icmp_ne 45 47 hF dX4_comes_42 rfl (by decide) (fun _ => ?_) (fun _ => ?_)
    · refine v_aload_n 0 48 hF dX4_comes_47 rfl rfl rfl ?_
      refine v_getR (b := 16) 51 hF dX4_comes_48 rfl fl_X4_42 hs.1 rfl ?_
      refine v_iload_n 1 52 hF dX4_comes_51 rfl rfl rfl ?_
      refine v_callV ([.int x1]) ([]) 55 hF dX4_comes_52 rfl cw_X4_178 rfl (hs.2.2.2.2.1.1) (c_X3_passDayOf (G := G) (hs.2.1) (hs.2.2.2.2.1) M1 x1) ⟨rfl, rfl, Nat.le_of_ble_eq_true rfl, Nat.le_of_ble_eq_true rfl⟩ rfl rfl (Nat.le_of_ble_eq_true rfl) (fun _ M3 => ?_)
      refine v_iinc (v := (x2 + 1)) (lo' := fun y4 => [(2, .int y4), (0, .ref (G.2.2.2.2 0)), (1, .int x1)]) 2 58 hF dX4_comes_55 rfl rfl rfl (by decide) (fun _ => rfl) (fun y4 => ?_)
      refine v_goto 27 hF dX4_comes_58 (by decide) ?_
      refine VR.pick [1, 2, 0] rfl ?_
      exact h27 x1 y4 M3
    · refine v_iload_n 2 46 hF dX4_comes_45 rfl rfl rfl ?_
      exact v_iret hF dX4_comes_46
theorem v_X4_comes_L27 {X : Cx} {G : Gx} {sh : List Sh} (hF : FX X G sh 3 cX4_comes (yX4_comes).cls (some .int) rmX4_comes) (hs : TopAt sh) : ∀ (n : Nat), ∀ (x1 : Int32) (x2 : Int32) (M : Mm), VR X G sh 3 rvI M 27 [(0, .ref (G.2.2.2.2 0)), (1, .int x1), (2, .int x2)] [] (m_X4_comes_L27  n x1 x2 M) := by
  intro n
  induction n with
  | zero => intro x1 x2 M; exact VR.none
  | succ n ih => exact v_X4_comes_B27 hF hs _ ih
set_option maxRecDepth 100000 in
set_option maxHeartbeats 4000000 in
theorem c_X4_comes {G : Gx} {sh : List Sh} (hs : TopAt sh) (M : Mm) (x1 : Int32) : CT yX4_comes cX4_comes 3 (some .int) rmX4_comes G sh [.ref (G.2.2.2.2 0), .int x1] rvI M (m_X4_comes  x1 M) := by
  refine CT.of (by decide +kernel) (Nat.le_of_ble_eq_true rfl) (fun X hF => ?_)
  show VR X G sh 3 rvI M 0 [(0, .ref (G.2.2.2.2 0)), (1, .int x1)] [] _
  unfold m_X4_comes
  refine v_aload_n 0 1 hF dX4_comes_0 rfl rfl rfl ?_
  refine v_getR (b := 7) 4 hF dX4_comes_1 rfl fl_X4_38 hs.1 rfl ?_
  refine v_iload_n 1 5 hF dX4_comes_4 rfl rfl rfl ?_
  refine v_callI ([.int x1]) ([]) 8 hF dX4_comes_5 rfl cw_X4_98 rfl (hs.2.2.2.1.1) (c_X3_isLetter (G := G) (hs.2.1) (hs.2.2.2.1) M x1) ⟨rfl, rfl, Nat.le_of_ble_eq_true rfl, Nat.le_of_ble_eq_true rfl⟩ rfl rfl (Nat.le_of_ble_eq_true rfl) (fun r6 M5 => ?_)
  refine v_if_ne 11 14 hF dX4_comes_8 rfl (by decide) (fun _ => ?_) (fun _ => ?_)
  · refine v_aload_n 0 15 hF dX4_comes_14 rfl rfl rfl ?_
    refine v_getR (b := 16) 18 hF dX4_comes_15 rfl fl_X4_42 hs.1 rfl ?_
    refine v_aload_n 0 19 hF dX4_comes_18 rfl rfl rfl ?_
    refine v_getR (b := 7) 22 hF dX4_comes_19 rfl fl_X4_38 hs.1 rfl ?_
    refine v_callV ([.ref (G.2.2.2.2 7)]) ([]) 25 hF dX4_comes_22 rfl cw_X4_167 rfl (hs.2.2.2.2.1.1) (c_X3_takeOver (G := G) (hs.2.1) (hs.2.2.2.2.1) (hs.2.2.2.1) M5) ⟨rfl, rfl, Nat.le_of_ble_eq_true rfl, Nat.le_of_ble_eq_true rfl⟩ rfl rfl (Nat.le_of_ble_eq_true rfl) (fun _ M7 => ?_)
    refine v_iconst (0) 26 hF dX4_comes_25 rfl (by decide) ?_
    refine v_istore_n (lo' := fun y8 => [(2, .int y8), (0, .ref (G.2.2.2.2 0)), (1, .int x1)]) 27 hF dX4_comes_26 rfl rfl (by decide) (fun _ => rfl) (fun y8 => ?_)
    refine VR.pick [1, 2, 0] rfl ?_
    exact v_X4_comes_L27 hF hs FU x1 y8 M7
  · refine v_bipush (-2) 13 hF dX4_comes_11 rfl (by decide) ?_
    exact v_iret hF dX4_comes_13
abbrev rmX4_mistake : Room := { frames := 7, cells := 0, slots := 0, locals := 165 }
def m_X4_mistake_J88 (n30 : Int32 → Int32 → Int32 → Int32 → Int32 → Mm → Option (Int32 × Mm)) (x1 : Int32) (x2 : Int32) (x3 : Int32) (x4 : Int32) (x5 : Int32) (M : Mm) : Option (Int32 × Mm) := lt1 (x5 + 1) fun y1 => n30 x1 x2 x3 x4 y1 M
def m_X4_mistake_B30 (n30 : Int32 → Int32 → Int32 → Int32 → Int32 → Mm → Option (Int32 × Mm)) (x1 : Int32) (x2 : Int32) (x3 : Int32) (x4 : Int32) (x5 : Int32) (M : Mm) : Option (Int32 × Mm) := if (8 : Int32) ≤ x5 then (if x2 = 0 then (some (x3, M)) else (some (x4, M))) else (bd (m_X3_takeOver 16 7 M) fun _ M2 => bd (m_X3_slipAll 16 x5 M2) fun _ M3 => bd (m_X3_passDays 16 x1 M3) fun _ M4 => bd (m_X3_homes 16 M4) fun r6 M5 => lt1 r6 fun y7 => if y7 ≤ x4 then (m_X4_mistake_J88 n30 x1 x2 x3 x4 x5 M5) else (lt1 y7 fun y8 => lt1 x5 fun y9 => m_X4_mistake_J88 n30 x1 x2 y9 y8 x5 M5))
def m_X4_mistake_L30 : Nat → Int32 → Int32 → Int32 → Int32 → Int32 → Mm → Option (Int32 × Mm)
  | 0 => fun _ _ _ _ _ _ => none
  | n + 1 => m_X4_mistake_B30  (m_X4_mistake_L30  n)
def m_X4_mistake (x1 : Int32) (x2 : Int32) (M : Mm) : Option (Int32 × Mm) := if x1 < 0 then (some ((-2 : Int32), M)) else (if (40 : Int32) < x1 then (some ((-2 : Int32), M)) else (if x2 < 0 then (some ((-2 : Int32), M)) else (if x2 ≤ (1 : Int32) then (lt1 ((0 : Int32)) fun y10 => lt1 ((-1 : Int32)) fun y11 => lt1 ((0 : Int32)) fun y12 => m_X4_mistake_L30 FU x1 x2 y10 y11 y12 M) else (some ((-2 : Int32), M)))))
set_option maxRecDepth 100000 in
set_option maxHeartbeats 4000000 in
theorem v_X4_mistake_J88 {X : Cx} {G : Gx} {sh : List Sh} (hF : FX X G sh 7 cX4_mistake (yX4_mistake).cls (some .int) rmX4_mistake) (hs : TopAt sh) (n30 : Int32 → Int32 → Int32 → Int32 → Int32 → Mm → Option (Int32 × Mm)) (h30 : ∀ (x1 : Int32) (x2 : Int32) (x3 : Int32) (x4 : Int32) (x5 : Int32) (M : Mm), VR X G sh 7 rvI M 30 [(0, .ref (G.2.2.2.2 0)), (1, .int x1), (2, .int x2), (3, .int x3), (4, .int x4), (5, .int x5)] [] (n30 x1 x2 x3 x4 x5 M)) : ∀ (x1 : Int32) (x2 : Int32) (x3 : Int32) (x4 : Int32) (x5 : Int32) (M : Mm), VR X G sh 7 rvI M 88 [(0, .ref (G.2.2.2.2 0)), (1, .int x1), (2, .int x2), (3, .int x3), (4, .int x4), (5, .int x5)] [] (m_X4_mistake_J88  n30 x1 x2 x3 x4 x5 M) := by
  intro x1 x2 x3 x4 x5 M
  unfold m_X4_mistake_J88
  refine v_iinc (v := (x5 + 1)) (lo' := fun y1 => [(5, .int y1), (0, .ref (G.2.2.2.2 0)), (1, .int x1), (2, .int x2), (3, .int x3), (4, .int x4)]) 5 91 hF dX4_mistake_88 rfl rfl rfl (by decide) (fun _ => rfl) (fun y1 => ?_)
  refine v_goto 30 hF dX4_mistake_91 (by decide) ?_
  refine VR.pick [1, 2, 3, 4, 5, 0] rfl ?_
  exact h30 x1 x2 x3 x4 y1 M
set_option maxRecDepth 100000 in
set_option maxHeartbeats 4000000 in
theorem v_X4_mistake_B30 {X : Cx} {G : Gx} {sh : List Sh} (hF : FX X G sh 7 cX4_mistake (yX4_mistake).cls (some .int) rmX4_mistake) (hs : TopAt sh) (n30 : Int32 → Int32 → Int32 → Int32 → Int32 → Mm → Option (Int32 × Mm)) (h30 : ∀ (x1 : Int32) (x2 : Int32) (x3 : Int32) (x4 : Int32) (x5 : Int32) (M : Mm), VR X G sh 7 rvI M 30 [(0, .ref (G.2.2.2.2 0)), (1, .int x1), (2, .int x2), (3, .int x3), (4, .int x4), (5, .int x5)] [] (n30 x1 x2 x3 x4 x5 M)) : ∀ (x1 : Int32) (x2 : Int32) (x3 : Int32) (x4 : Int32) (x5 : Int32) (M : Mm), VR X G sh 7 rvI M 30 [(0, .ref (G.2.2.2.2 0)), (1, .int x1), (2, .int x2), (3, .int x3), (4, .int x4), (5, .int x5)] [] (m_X4_mistake_B30  n30 x1 x2 x3 x4 x5 M) := by
  intro x1 x2 x3 x4 x5 M
  unfold m_X4_mistake_B30
  refine v_iload 5 32 hF dX4_mistake_30 rfl rfl ?_
  refine v_bipush (8) 34 hF dX4_mistake_32 rfl (by decide) ?_
  refine v_icmp_ge 37 94 hF dX4_mistake_34 rfl (by decide) (fun _ => ?_) (fun _ => ?_)
  · refine v_iload_n 2 95 hF dX4_mistake_94 rfl rfl rfl ?_
    refine v_if_ne 98 102 hF dX4_mistake_95 rfl (by decide) (fun _ => ?_) (fun _ => ?_)
    · refine v_iload 4 104 hF dX4_mistake_102 rfl rfl ?_
      exact v_iret hF dX4_mistake_104
    · refine v_iload_n 3 99 hF dX4_mistake_98 rfl rfl rfl ?_
      refine v_goto 104 hF dX4_mistake_99 (by decide) ?_
      exact v_iret hF dX4_mistake_104
  · refine v_aload_n 0 38 hF dX4_mistake_37 rfl rfl rfl ?_
    refine v_getR (b := 16) 41 hF dX4_mistake_38 rfl fl_X4_42 hs.1 rfl ?_
    refine v_aload_n 0 42 hF dX4_mistake_41 rfl rfl rfl ?_
    refine v_getR (b := 7) 45 hF dX4_mistake_42 rfl fl_X4_38 hs.1 rfl ?_
    refine v_callV ([.ref (G.2.2.2.2 7)]) ([]) 48 hF dX4_mistake_45 rfl cw_X4_167 rfl (hs.2.2.2.2.1.1) (c_X3_takeOver (G := G) (hs.2.1) (hs.2.2.2.2.1) (hs.2.2.2.1) M) ⟨rfl, rfl, Nat.le_of_ble_eq_true rfl, Nat.le_of_ble_eq_true rfl⟩ rfl rfl (Nat.le_of_ble_eq_true rfl) (fun _ M2 => ?_)
    refine v_aload_n 0 49 hF dX4_mistake_48 rfl rfl rfl ?_
    refine v_getR (b := 16) 52 hF dX4_mistake_49 rfl fl_X4_42 hs.1 rfl ?_
    refine v_iload 5 54 hF dX4_mistake_52 rfl rfl ?_
    refine v_callV ([.int x5]) ([]) 57 hF dX4_mistake_54 rfl cw_X4_181 rfl (hs.2.2.2.2.1.1) (c_X3_slipAll (G := G) (hs.2.1) (hs.2.2.2.2.1) M2 x5) ⟨rfl, rfl, Nat.le_of_ble_eq_true rfl, Nat.le_of_ble_eq_true rfl⟩ rfl rfl (Nat.le_of_ble_eq_true rfl) (fun _ M3 => ?_)
    refine v_aload_n 0 58 hF dX4_mistake_57 rfl rfl rfl ?_
    refine v_getR (b := 16) 61 hF dX4_mistake_58 rfl fl_X4_42 hs.1 rfl ?_
    refine v_iload_n 1 62 hF dX4_mistake_61 rfl rfl rfl ?_
    refine v_callV ([.int x1]) ([]) 65 hF dX4_mistake_62 rfl cw_X4_171 rfl (hs.2.2.2.2.1.1) (c_X3_passDays (G := G) (hs.2.1) (hs.2.2.2.2.1) M3 x1) ⟨rfl, rfl, Nat.le_of_ble_eq_true rfl, Nat.le_of_ble_eq_true rfl⟩ rfl rfl (Nat.le_of_ble_eq_true rfl) (fun _ M4 => ?_)
    refine v_aload_n 0 66 hF dX4_mistake_65 rfl rfl rfl ?_
    refine v_getR (b := 16) 69 hF dX4_mistake_66 rfl fl_X4_42 hs.1 rfl ?_
    refine v_callI ([]) ([]) 72 hF dX4_mistake_69 rfl cw_X4_175 rfl (hs.2.2.2.2.1.1) (c_X3_homes (G := G) (hs.2.1) (hs.2.2.2.2.1) M4) ⟨rfl, rfl, Nat.le_of_ble_eq_true rfl, Nat.le_of_ble_eq_true rfl⟩ rfl rfl (Nat.le_of_ble_eq_true rfl) (fun r6 M5 => ?_)
    refine v_istore (lo' := fun y7 => [(6, .int y7), (0, .ref (G.2.2.2.2 0)), (1, .int x1), (2, .int x2), (3, .int x3), (4, .int x4), (5, .int x5)]) 74 hF dX4_mistake_72 rfl (by decide) (fun _ => rfl) (fun y7 => ?_)
    refine v_iload 0 76 hF dX4_mistake_74 rfl rfl ?_
    refine v_iload 5 78 hF dX4_mistake_76 rfl rfl ?_
    refine v_icmp_le 81 88 hF dX4_mistake_78 rfl (by decide) (fun _ => ?_) (fun _ => ?_)
    · refine VR.pick [1, 2, 3, 4, 5, 6] rfl ?_
      exact v_X4_mistake_J88 hF hs _ h30 x1 x2 x3 x4 x5 M5
    · refine v_iload 0 83 hF dX4_mistake_81 rfl rfl ?_
      refine v_istore (lo' := fun y8 => [(4, .int y8), (6, .int y7), (0, .ref (G.2.2.2.2 0)), (1, .int x1), (2, .int x2), (3, .int x3), (5, .int x5)]) 85 hF dX4_mistake_83 rfl (by decide) (fun _ => rfl) (fun y8 => ?_)
      refine v_iload 6 87 hF dX4_mistake_85 rfl rfl ?_
      refine v_istore_n (lo' := fun y9 => [(3, .int y9), (4, .int y8), (6, .int y7), (0, .ref (G.2.2.2.2 0)), (1, .int x1), (2, .int x2), (5, .int x5)]) 88 hF dX4_mistake_87 rfl rfl (by decide) (fun _ => rfl) (fun y9 => ?_)
      refine VR.pick [3, 4, 5, 0, 1, 6] rfl ?_
      exact v_X4_mistake_J88 hF hs _ h30 x1 x2 y9 y8 x5 M5
theorem v_X4_mistake_L30 {X : Cx} {G : Gx} {sh : List Sh} (hF : FX X G sh 7 cX4_mistake (yX4_mistake).cls (some .int) rmX4_mistake) (hs : TopAt sh) : ∀ (n : Nat), ∀ (x1 : Int32) (x2 : Int32) (x3 : Int32) (x4 : Int32) (x5 : Int32) (M : Mm), VR X G sh 7 rvI M 30 [(0, .ref (G.2.2.2.2 0)), (1, .int x1), (2, .int x2), (3, .int x3), (4, .int x4), (5, .int x5)] [] (m_X4_mistake_L30  n x1 x2 x3 x4 x5 M) := by
  intro n
  induction n with
  | zero => intro x1 x2 x3 x4 x5 M; exact VR.none
  | succ n ih => exact v_X4_mistake_B30 hF hs _ ih
set_option maxRecDepth 100000 in
set_option maxHeartbeats 4000000 in
theorem c_X4_mistake {G : Gx} {sh : List Sh} (hs : TopAt sh) (M : Mm) (x1 : Int32) (x2 : Int32) : CT yX4_mistake cX4_mistake 7 (some .int) rmX4_mistake G sh [.ref (G.2.2.2.2 0), .int x1, .int x2] rvI M (m_X4_mistake  x1 x2 M) := by
  refine CT.of (by decide +kernel) (Nat.le_of_ble_eq_true rfl) (fun X hF => ?_)
  show VR X G sh 7 rvI M 0 [(0, .ref (G.2.2.2.2 0)), (1, .int x1), (2, .int x2)] [] _
  unfold m_X4_mistake
  refine v_iload_n 1 1 hF dX4_mistake_0 rfl rfl rfl ?_
  refine v_if_lt 4 19 hF dX4_mistake_1 rfl (by decide) (fun _ => ?_) (fun _ => ?_)
  · refine v_bipush (-2) 21 hF dX4_mistake_19 rfl (by decide) ?_
    exact v_iret hF dX4_mistake_21
  · refine v_iload_n 1 5 hF dX4_mistake_4 rfl rfl rfl ?_
    refine v_bipush (40) 7 hF dX4_mistake_5 rfl (by decide) ?_
    refine v_icmp_gt 10 19 hF dX4_mistake_7 rfl (by decide) (fun _ => ?_) (fun _ => ?_)
    · refine v_bipush (-2) 21 hF dX4_mistake_19 rfl (by decide) ?_
      exact v_iret hF dX4_mistake_21
    · refine v_iload_n 2 11 hF dX4_mistake_10 rfl rfl rfl ?_
      refine v_if_lt 14 19 hF dX4_mistake_11 rfl (by decide) (fun _ => ?_) (fun _ => ?_)
      · refine v_bipush (-2) 21 hF dX4_mistake_19 rfl (by decide) ?_
        exact v_iret hF dX4_mistake_21
      · refine v_iload_n 2 15 hF dX4_mistake_14 rfl rfl rfl ?_
        refine v_iconst (1) 16 hF dX4_mistake_15 rfl (by decide) ?_
        refine v_icmp_le 19 22 hF dX4_mistake_16 rfl (by decide) (fun _ => ?_) (fun _ => ?_)
        · refine v_iconst (0) 23 hF dX4_mistake_22 rfl (by decide) ?_
          refine v_istore_n (lo' := fun y10 => [(3, .int y10), (0, .ref (G.2.2.2.2 0)), (1, .int x1), (2, .int x2)]) 24 hF dX4_mistake_23 rfl rfl (by decide) (fun _ => rfl) (fun y10 => ?_)
          refine v_iconst (-1) 25 hF dX4_mistake_24 rfl (by decide) ?_
          refine v_istore (lo' := fun y11 => [(4, .int y11), (3, .int y10), (0, .ref (G.2.2.2.2 0)), (1, .int x1), (2, .int x2)]) 27 hF dX4_mistake_25 rfl (by decide) (fun _ => rfl) (fun y11 => ?_)
          refine v_iconst (0) 28 hF dX4_mistake_27 rfl (by decide) ?_
          refine v_istore (lo' := fun y12 => [(5, .int y12), (4, .int y11), (3, .int y10), (0, .ref (G.2.2.2.2 0)), (1, .int x1), (2, .int x2)]) 30 hF dX4_mistake_28 rfl (by decide) (fun _ => rfl) (fun y12 => ?_)
          refine VR.pick [3, 4, 5, 2, 1, 0] rfl ?_
          exact v_X4_mistake_L30 hF hs FU x1 x2 y10 y11 y12 M
        · refine v_bipush (-2) 21 hF dX4_mistake_19 rfl (by decide) ?_
          exact v_iret hF dX4_mistake_21
abbrev rmX4_digitsOfWay : Room := { frames := 0, cells := 0, slots := 0, locals := 0 }
def m_X4_digitsOfWay_B4 (n4 : Int32 → Int32 → Mm → Option (Int32 × Mm)) (x1 : Int32) (x2 : Int32) (M : Mm) : Option (Int32 × Mm) := if (M 7 4) ≤ x2 then (some (x1, M)) else (if (5 : Int32) ≤ x2 then (some (x1, M)) else (gd (inr x2 5) (lt1 ((((x1 * (10 : Int32)) + (M 34 x2.toNatClampNeg)) + (1 : Int32))) fun y1 => lt1 (x2 + 1) fun y2 => n4 y1 y2 M)))
def m_X4_digitsOfWay_L4 : Nat → Int32 → Int32 → Mm → Option (Int32 × Mm)
  | 0 => fun _ _ _ => none
  | n + 1 => m_X4_digitsOfWay_B4  (m_X4_digitsOfWay_L4  n)
def m_X4_digitsOfWay  (M : Mm) : Option (Int32 × Mm) := lt1 ((0 : Int32)) fun y3 => lt1 ((0 : Int32)) fun y4 => m_X4_digitsOfWay_L4 FU y3 y4 M
set_option maxRecDepth 100000 in
set_option maxHeartbeats 4000000 in
theorem v_X4_digitsOfWay_B4 {X : Cx} {G : Gx} {sh : List Sh} (hF : FX X G sh 3 cX4_digitsOfWay (yX4_digitsOfWay).cls (some .int) rmX4_digitsOfWay) (hs : TopAt sh) (n4 : Int32 → Int32 → Mm → Option (Int32 × Mm)) (h4 : ∀ (x1 : Int32) (x2 : Int32) (M : Mm), VR X G sh 3 rvI M 4 [(0, .ref (G.2.2.2.2 0)), (1, .int x1), (2, .int x2)] [] (n4 x1 x2 M)) : ∀ (x1 : Int32) (x2 : Int32) (M : Mm), VR X G sh 3 rvI M 4 [(0, .ref (G.2.2.2.2 0)), (1, .int x1), (2, .int x2)] [] (m_X4_digitsOfWay_B4  n4 x1 x2 M) := by
  intro x1 x2 M
  unfold m_X4_digitsOfWay_B4
  refine v_iload_n 2 5 hF dX4_digitsOfWay_4 rfl rfl rfl ?_
  refine v_aload_n 0 6 hF dX4_digitsOfWay_5 rfl rfl rfl ?_
  refine v_getR (b := 7) 9 hF dX4_digitsOfWay_6 rfl fl_X4_38 hs.1 rfl ?_
  refine v_getI 12 hF dX4_digitsOfWay_9 rfl fl_X4_196 hs.2.2.2.1.1 rfl ?_
  refine v_icmp_ge 15 44 hF dX4_digitsOfWay_12 rfl (by decide) (fun _ => ?_) (fun _ => ?_)
  · refine v_iload_n 1 45 hF dX4_digitsOfWay_44 rfl rfl rfl ?_
    exact v_iret hF dX4_digitsOfWay_45
  · refine v_iload_n 2 16 hF dX4_digitsOfWay_15 rfl rfl rfl ?_
    refine v_aload_n 0 17 hF dX4_digitsOfWay_16 rfl rfl rfl ?_
    refine v_getR (b := 34) 20 hF dX4_digitsOfWay_17 rfl fl_X4_48 hs.1 rfl ?_
    refine v_alen 5 21 hF dX4_digitsOfWay_20 rfl (hs.2.2.2.2.2.2.1) (Or.inl rfl) (by decide) ?_
    refine v_icmp_ge 24 44 hF dX4_digitsOfWay_21 rfl (by decide) (fun _ => ?_) (fun _ => ?_)
    · refine v_iload_n 1 45 hF dX4_digitsOfWay_44 rfl rfl rfl ?_
      exact v_iret hF dX4_digitsOfWay_45
    · refine v_iload_n 1 25 hF dX4_digitsOfWay_24 rfl rfl rfl ?_
      refine v_bipush (10) 27 hF dX4_digitsOfWay_25 rfl (by decide) ?_
      refine v_imul 28 hF dX4_digitsOfWay_27 rfl ?_
      refine v_aload_n 0 29 hF dX4_digitsOfWay_28 rfl rfl rfl ?_
      refine v_getR (b := 34) 32 hF dX4_digitsOfWay_29 rfl fl_X4_48 hs.1 rfl ?_
      refine v_iload_n 2 33 hF dX4_digitsOfWay_32 rfl rfl rfl ?_
      refine v_iald 34 hF dX4_digitsOfWay_33 rfl (hs.2.2.2.2.2.2.1) ?_
      refine v_iadd 35 hF dX4_digitsOfWay_34 rfl ?_
      refine v_iconst (1) 36 hF dX4_digitsOfWay_35 rfl (by decide) ?_
      refine v_iadd 37 hF dX4_digitsOfWay_36 rfl ?_
      refine v_istore_n (lo' := fun y1 => [(1, .int y1), (0, .ref (G.2.2.2.2 0)), (2, .int x2)]) 38 hF dX4_digitsOfWay_37 rfl rfl (by decide) (fun _ => rfl) (fun y1 => ?_)
      refine v_iinc (v := (x2 + 1)) (lo' := fun y2 => [(2, .int y2), (1, .int y1), (0, .ref (G.2.2.2.2 0))]) 2 41 hF dX4_digitsOfWay_38 rfl rfl rfl (by decide) (fun _ => rfl) (fun y2 => ?_)
      refine v_goto 4 hF dX4_digitsOfWay_41 (by decide) ?_
      refine VR.pick [2, 1, 0] rfl ?_
      exact h4 y1 y2 M
theorem v_X4_digitsOfWay_L4 {X : Cx} {G : Gx} {sh : List Sh} (hF : FX X G sh 3 cX4_digitsOfWay (yX4_digitsOfWay).cls (some .int) rmX4_digitsOfWay) (hs : TopAt sh) : ∀ (n : Nat), ∀ (x1 : Int32) (x2 : Int32) (M : Mm), VR X G sh 3 rvI M 4 [(0, .ref (G.2.2.2.2 0)), (1, .int x1), (2, .int x2)] [] (m_X4_digitsOfWay_L4  n x1 x2 M) := by
  intro n
  induction n with
  | zero => intro x1 x2 M; exact VR.none
  | succ n ih => exact v_X4_digitsOfWay_B4 hF hs _ ih
set_option maxRecDepth 100000 in
set_option maxHeartbeats 4000000 in
theorem c_X4_digitsOfWay {G : Gx} {sh : List Sh} (hs : TopAt sh) (M : Mm)  : CT yX4_digitsOfWay cX4_digitsOfWay 3 (some .int) rmX4_digitsOfWay G sh [.ref (G.2.2.2.2 0)] rvI M (m_X4_digitsOfWay   M) := by
  refine CT.of (by decide +kernel) (Nat.le_of_ble_eq_true rfl) (fun X hF => ?_)
  show VR X G sh 3 rvI M 0 [(0, .ref (G.2.2.2.2 0))] [] _
  unfold m_X4_digitsOfWay
  refine v_iconst (0) 1 hF dX4_digitsOfWay_0 rfl (by decide) ?_
  refine v_istore_n (lo' := fun y3 => [(1, .int y3), (0, .ref (G.2.2.2.2 0))]) 2 hF dX4_digitsOfWay_1 rfl rfl (by decide) (fun _ => rfl) (fun y3 => ?_)
  refine v_iconst (0) 3 hF dX4_digitsOfWay_2 rfl (by decide) ?_
  refine v_istore_n (lo' := fun y4 => [(2, .int y4), (1, .int y3), (0, .ref (G.2.2.2.2 0))]) 4 hF dX4_digitsOfWay_3 rfl rfl (by decide) (fun _ => rfl) (fun y4 => ?_)
  refine VR.pick [2, 1, 0] rfl ?_
  exact v_X4_digitsOfWay_L4 hF hs FU y3 y4 M
abbrev rmX4_firstWay : Room := { frames := 1, cells := 0, slots := 0, locals := 22 }
def m_X4_firstWay_J41 (n4 : Int32 → Int32 → Mm → Option (Unit × Mm)) (x1 : Int32) (x2 : Int32) (M : Mm) : Option (Unit × Mm) := lt1 (x2 + 1) fun y1 => n4 x1 y1 M
def m_X4_firstWay_B4 (n4 : Int32 → Int32 → Mm → Option (Unit × Mm)) (x1 : Int32) (x2 : Int32) (M : Mm) : Option (Unit × Mm) := if (8 : Int32) ≤ x2 then (some ((), M)) else (bd (m_X3_livesIn 7 x2 M) fun r3 M2 => if r3 = (-1 : Int32) then (m_X4_firstWay_J41 n4 x1 x2 M2) else (if (5 : Int32) ≤ x1 then (m_X4_firstWay_J41 n4 x1 x2 M2) else (gd (inr x1 5) (lt1 (up M2 34 x1.toNatClampNeg x2) fun M4 => lt1 (x1 + 1) fun y5 => m_X4_firstWay_J41 n4 y5 x2 M4))))
def m_X4_firstWay_L4 : Nat → Int32 → Int32 → Mm → Option (Unit × Mm)
  | 0 => fun _ _ _ => none
  | n + 1 => m_X4_firstWay_B4  (m_X4_firstWay_L4  n)
def m_X4_firstWay  (M : Mm) : Option (Unit × Mm) := lt1 ((0 : Int32)) fun y6 => lt1 ((0 : Int32)) fun y7 => m_X4_firstWay_L4 FU y6 y7 M
set_option maxRecDepth 100000 in
set_option maxHeartbeats 4000000 in
theorem v_X4_firstWay_J41 {X : Cx} {G : Gx} {sh : List Sh} (hF : FX X G sh 3 cX4_firstWay (yX4_firstWay).cls none rmX4_firstWay) (hs : TopAt sh) (n4 : Int32 → Int32 → Mm → Option (Unit × Mm)) (h4 : ∀ (x1 : Int32) (x2 : Int32) (M : Mm), VR X G sh 3 rvV M 4 [(0, .ref (G.2.2.2.2 0)), (1, .int x1), (2, .int x2)] [] (n4 x1 x2 M)) : ∀ (x1 : Int32) (x2 : Int32) (M : Mm), VR X G sh 3 rvV M 41 [(0, .ref (G.2.2.2.2 0)), (1, .int x1), (2, .int x2)] [] (m_X4_firstWay_J41  n4 x1 x2 M) := by
  intro x1 x2 M
  unfold m_X4_firstWay_J41
  refine v_iinc (v := (x2 + 1)) (lo' := fun y1 => [(2, .int y1), (0, .ref (G.2.2.2.2 0)), (1, .int x1)]) 2 44 hF dX4_firstWay_41 rfl rfl rfl (by decide) (fun _ => rfl) (fun y1 => ?_)
  refine v_goto 4 hF dX4_firstWay_44 (by decide) ?_
  refine VR.pick [1, 2, 0] rfl ?_
  exact h4 x1 y1 M
set_option maxRecDepth 100000 in
set_option maxHeartbeats 4000000 in
theorem v_X4_firstWay_B4 {X : Cx} {G : Gx} {sh : List Sh} (hF : FX X G sh 3 cX4_firstWay (yX4_firstWay).cls none rmX4_firstWay) (hs : TopAt sh) (n4 : Int32 → Int32 → Mm → Option (Unit × Mm)) (h4 : ∀ (x1 : Int32) (x2 : Int32) (M : Mm), VR X G sh 3 rvV M 4 [(0, .ref (G.2.2.2.2 0)), (1, .int x1), (2, .int x2)] [] (n4 x1 x2 M)) : ∀ (x1 : Int32) (x2 : Int32) (M : Mm), VR X G sh 3 rvV M 4 [(0, .ref (G.2.2.2.2 0)), (1, .int x1), (2, .int x2)] [] (m_X4_firstWay_B4  n4 x1 x2 M) := by
  intro x1 x2 M
  unfold m_X4_firstWay_B4
  refine v_iload_n 2 5 hF dX4_firstWay_4 rfl rfl rfl ?_
  refine v_bipush (8) 7 hF dX4_firstWay_5 rfl (by decide) ?_
  refine v_icmp_ge 10 47 hF dX4_firstWay_7 rfl (by decide) (fun _ => ?_) (fun _ => ?_)
  · exact v_vret hF dX4_firstWay_47
  · refine v_aload_n 0 11 hF dX4_firstWay_10 rfl rfl rfl ?_
    refine v_getR (b := 7) 14 hF dX4_firstWay_11 rfl fl_X4_38 hs.1 rfl ?_
    refine v_iload_n 2 15 hF dX4_firstWay_14 rfl rfl rfl ?_
    refine v_callI ([.int x2]) ([]) 18 hF dX4_firstWay_15 rfl cw_X4_81 rfl (hs.2.2.2.1.1) (c_X3_livesIn (G := G) (hs.2.1) (hs.2.2.2.1) M x2) ⟨rfl, rfl, Nat.le_of_ble_eq_true rfl, Nat.le_of_ble_eq_true rfl⟩ rfl rfl (Nat.le_of_ble_eq_true rfl) (fun r3 M2 => ?_)
    refine v_iconst (-1) 19 hF dX4_firstWay_18 rfl (by decide) ?_
    refine v_icmp_eq 22 41 hF dX4_firstWay_19 rfl (by decide) (fun _ => ?_) (fun _ => ?_)
    · refine VR.pick [0, 1, 2] rfl ?_
      exact v_X4_firstWay_J41 hF hs _ h4 x1 x2 M2
    · refine v_iload_n 1 23 hF dX4_firstWay_22 rfl rfl rfl ?_
      refine v_aload_n 0 24 hF dX4_firstWay_23 rfl rfl rfl ?_
      refine v_getR (b := 34) 27 hF dX4_firstWay_24 rfl fl_X4_48 hs.1 rfl ?_
      refine v_alen 5 28 hF dX4_firstWay_27 rfl (hs.2.2.2.2.2.2.1) (Or.inl rfl) (by decide) ?_
      refine v_icmp_ge 31 41 hF dX4_firstWay_28 rfl (by decide) (fun _ => ?_) (fun _ => ?_)
      · refine VR.pick [0, 1, 2] rfl ?_
        exact v_X4_firstWay_J41 hF hs _ h4 x1 x2 M2
      · refine v_aload_n 0 32 hF dX4_firstWay_31 rfl rfl rfl ?_
        refine v_getR (b := 34) 35 hF dX4_firstWay_32 rfl fl_X4_48 hs.1 rfl ?_
        refine v_iload_n 1 36 hF dX4_firstWay_35 rfl rfl rfl ?_
        refine v_iload_n 2 37 hF dX4_firstWay_36 rfl rfl rfl ?_
        refine v_iast 38 hF dX4_firstWay_37 rfl (hs.2.2.2.2.2.2.1) (fun M4 => ?_)
        refine v_iinc (v := (x1 + 1)) (lo' := fun y5 => [(1, .int y5), (0, .ref (G.2.2.2.2 0)), (2, .int x2)]) 1 41 hF dX4_firstWay_38 rfl rfl rfl (by decide) (fun _ => rfl) (fun y5 => ?_)
        refine VR.pick [1, 0, 2] rfl ?_
        exact v_X4_firstWay_J41 hF hs _ h4 y5 x2 M4
theorem v_X4_firstWay_L4 {X : Cx} {G : Gx} {sh : List Sh} (hF : FX X G sh 3 cX4_firstWay (yX4_firstWay).cls none rmX4_firstWay) (hs : TopAt sh) : ∀ (n : Nat), ∀ (x1 : Int32) (x2 : Int32) (M : Mm), VR X G sh 3 rvV M 4 [(0, .ref (G.2.2.2.2 0)), (1, .int x1), (2, .int x2)] [] (m_X4_firstWay_L4  n x1 x2 M) := by
  intro n
  induction n with
  | zero => intro x1 x2 M; exact VR.none
  | succ n ih => exact v_X4_firstWay_B4 hF hs _ ih
set_option maxRecDepth 100000 in
set_option maxHeartbeats 4000000 in
theorem c_X4_firstWay {G : Gx} {sh : List Sh} (hs : TopAt sh) (M : Mm)  : CT yX4_firstWay cX4_firstWay 3 none rmX4_firstWay G sh [.ref (G.2.2.2.2 0)] rvV M (m_X4_firstWay   M) := by
  refine CT.of (by decide +kernel) (Nat.le_of_ble_eq_true rfl) (fun X hF => ?_)
  show VR X G sh 3 rvV M 0 [(0, .ref (G.2.2.2.2 0))] [] _
  unfold m_X4_firstWay
  refine v_iconst (0) 1 hF dX4_firstWay_0 rfl (by decide) ?_
  refine v_istore_n (lo' := fun y6 => [(1, .int y6), (0, .ref (G.2.2.2.2 0))]) 2 hF dX4_firstWay_1 rfl rfl (by decide) (fun _ => rfl) (fun y6 => ?_)
  refine v_iconst (0) 3 hF dX4_firstWay_2 rfl (by decide) ?_
  refine v_istore_n (lo' := fun y7 => [(2, .int y7), (1, .int y6), (0, .ref (G.2.2.2.2 0))]) 4 hF dX4_firstWay_3 rfl rfl (by decide) (fun _ => rfl) (fun y7 => ?_)
  refine VR.pick [2, 1, 0] rfl ?_
  exact v_X4_firstWay_L4 hF hs FU y6 y7 M
abbrev rmX4_moveByWay : Room := { frames := 2, cells := 0, slots := 0, locals := 43 }
def m_X4_moveByWay_B2 (n2 : Int32 → Mm → Option (Unit × Mm)) (x1 : Int32) (M : Mm) : Option (Unit × Mm) := if (M 7 4) ≤ x1 then (some ((), M)) else (if (5 : Int32) ≤ x1 then (some ((), M)) else (gd (inr x1 5) (bd (m_X3_moveTo 16 x1 ((M 34 x1.toNatClampNeg)) M) fun _ M1 => lt1 (x1 + 1) fun y2 => n2 y2 M1)))
def m_X4_moveByWay_L2 : Nat → Int32 → Mm → Option (Unit × Mm)
  | 0 => fun _ _ => none
  | n + 1 => m_X4_moveByWay_B2  (m_X4_moveByWay_L2  n)
def m_X4_moveByWay  (M : Mm) : Option (Unit × Mm) := lt1 ((0 : Int32)) fun y3 => m_X4_moveByWay_L2 FU y3 M
set_option maxRecDepth 100000 in
set_option maxHeartbeats 4000000 in
theorem v_X4_moveByWay_B2 {X : Cx} {G : Gx} {sh : List Sh} (hF : FX X G sh 2 cX4_moveByWay (yX4_moveByWay).cls none rmX4_moveByWay) (hs : TopAt sh) (n2 : Int32 → Mm → Option (Unit × Mm)) (h2 : ∀ (x1 : Int32) (M : Mm), VR X G sh 2 rvV M 2 [(0, .ref (G.2.2.2.2 0)), (1, .int x1)] [] (n2 x1 M)) : ∀ (x1 : Int32) (M : Mm), VR X G sh 2 rvV M 2 [(0, .ref (G.2.2.2.2 0)), (1, .int x1)] [] (m_X4_moveByWay_B2  n2 x1 M) := by
  intro x1 M
  unfold m_X4_moveByWay_B2
  refine v_iload_n 1 3 hF dX4_moveByWay_2 rfl rfl rfl ?_
  refine v_aload_n 0 4 hF dX4_moveByWay_3 rfl rfl rfl ?_
  refine v_getR (b := 7) 7 hF dX4_moveByWay_4 rfl fl_X4_38 hs.1 rfl ?_
  refine v_getI 10 hF dX4_moveByWay_7 rfl fl_X4_196 hs.2.2.2.1.1 rfl ?_
  refine v_icmp_ge 13 42 hF dX4_moveByWay_10 rfl (by decide) (fun _ => ?_) (fun _ => ?_)
  · exact v_vret hF dX4_moveByWay_42
  · refine v_iload_n 1 14 hF dX4_moveByWay_13 rfl rfl rfl ?_
    refine v_aload_n 0 15 hF dX4_moveByWay_14 rfl rfl rfl ?_
    refine v_getR (b := 34) 18 hF dX4_moveByWay_15 rfl fl_X4_48 hs.1 rfl ?_
    refine v_alen 5 19 hF dX4_moveByWay_18 rfl (hs.2.2.2.2.2.2.1) (Or.inl rfl) (by decide) ?_
    refine v_icmp_ge 22 42 hF dX4_moveByWay_19 rfl (by decide) (fun _ => ?_) (fun _ => ?_)
    · exact v_vret hF dX4_moveByWay_42
    · refine v_aload_n 0 23 hF dX4_moveByWay_22 rfl rfl rfl ?_
      refine v_getR (b := 16) 26 hF dX4_moveByWay_23 rfl fl_X4_42 hs.1 rfl ?_
      refine v_iload_n 1 27 hF dX4_moveByWay_26 rfl rfl rfl ?_
      refine v_aload_n 0 28 hF dX4_moveByWay_27 rfl rfl rfl ?_
      refine v_getR (b := 34) 31 hF dX4_moveByWay_28 rfl fl_X4_48 hs.1 rfl ?_
      refine v_iload_n 1 32 hF dX4_moveByWay_31 rfl rfl rfl ?_
      refine v_iald 33 hF dX4_moveByWay_32 rfl (hs.2.2.2.2.2.2.1) ?_
      refine v_callV ([.int x1, .int ((M 34 x1.toNatClampNeg))]) ([]) 36 hF dX4_moveByWay_33 rfl cw_X4_95 rfl (hs.2.2.2.2.1.1) (c_X3_moveTo (G := G) (hs.2.1) (hs.2.2.2.2.1) M x1 ((M 34 x1.toNatClampNeg))) ⟨rfl, rfl, Nat.le_of_ble_eq_true rfl, Nat.le_of_ble_eq_true rfl⟩ rfl rfl (Nat.le_of_ble_eq_true rfl) (fun _ M1 => ?_)
      refine v_iinc (v := (x1 + 1)) (lo' := fun y2 => [(1, .int y2), (0, .ref (G.2.2.2.2 0))]) 1 39 hF dX4_moveByWay_36 rfl rfl rfl (by decide) (fun _ => rfl) (fun y2 => ?_)
      refine v_goto 2 hF dX4_moveByWay_39 (by decide) ?_
      refine VR.pick [1, 0] rfl ?_
      exact h2 y2 M1
theorem v_X4_moveByWay_L2 {X : Cx} {G : Gx} {sh : List Sh} (hF : FX X G sh 2 cX4_moveByWay (yX4_moveByWay).cls none rmX4_moveByWay) (hs : TopAt sh) : ∀ (n : Nat), ∀ (x1 : Int32) (M : Mm), VR X G sh 2 rvV M 2 [(0, .ref (G.2.2.2.2 0)), (1, .int x1)] [] (m_X4_moveByWay_L2  n x1 M) := by
  intro n
  induction n with
  | zero => intro x1 M; exact VR.none
  | succ n ih => exact v_X4_moveByWay_B2 hF hs _ ih
set_option maxRecDepth 100000 in
set_option maxHeartbeats 4000000 in
theorem c_X4_moveByWay {G : Gx} {sh : List Sh} (hs : TopAt sh) (M : Mm)  : CT yX4_moveByWay cX4_moveByWay 2 none rmX4_moveByWay G sh [.ref (G.2.2.2.2 0)] rvV M (m_X4_moveByWay   M) := by
  refine CT.of (by decide +kernel) (Nat.le_of_ble_eq_true rfl) (fun X hF => ?_)
  show VR X G sh 2 rvV M 0 [(0, .ref (G.2.2.2.2 0))] [] _
  unfold m_X4_moveByWay
  refine v_iconst (0) 1 hF dX4_moveByWay_0 rfl (by decide) ?_
  refine v_istore_n (lo' := fun y3 => [(1, .int y3), (0, .ref (G.2.2.2.2 0))]) 2 hF dX4_moveByWay_1 rfl rfl (by decide) (fun _ => rfl) (fun y3 => ?_)
  refine VR.pick [1, 0] rfl ?_
  exact v_X4_moveByWay_L2 hF hs FU y3 M
abbrev rmX4_exchange : Room := { frames := 0, cells := 0, slots := 0, locals := 0 }
def m_X4_exchange (x1 : Int32) (x2 : Int32) (M : Mm) : Option (Unit × Mm) := if x1 < 0 then (some ((), M)) else (if (5 : Int32) ≤ x1 then (some ((), M)) else (if x2 < 0 then (some ((), M)) else (if (5 : Int32) ≤ x2 then (some ((), M)) else (gd (inr x1 5) (lt1 ((M 34 x1.toNatClampNeg)) fun y1 => gd (inr x2 5) (gd (inr x1 5) (lt1 (up M 34 x1.toNatClampNeg ((M 34 x2.toNatClampNeg))) fun M2 => gd (inr x2 5) (lt1 (up M2 34 x2.toNatClampNeg y1) fun M3 => some ((), M3)))))))))
set_option maxRecDepth 100000 in
set_option maxHeartbeats 4000000 in
theorem c_X4_exchange {G : Gx} {sh : List Sh} (hs : TopAt sh) (M : Mm) (x1 : Int32) (x2 : Int32) : CT yX4_exchange cX4_exchange 4 none rmX4_exchange G sh [.ref (G.2.2.2.2 0), .int x1, .int x2] rvV M (m_X4_exchange  x1 x2 M) := by
  refine CT.of (by decide +kernel) (Nat.le_of_ble_eq_true rfl) (fun X hF => ?_)
  show VR X G sh 4 rvV M 0 [(0, .ref (G.2.2.2.2 0)), (1, .int x1), (2, .int x2)] [] _
  unfold m_X4_exchange
  refine v_iload_n 1 1 hF dX4_exchange_0 rfl rfl rfl ?_
  refine v_if_lt 4 52 hF dX4_exchange_1 rfl (by decide) (fun _ => ?_) (fun _ => ?_)
  · exact v_vret hF dX4_exchange_52
  · refine v_iload_n 1 5 hF dX4_exchange_4 rfl rfl rfl ?_
    refine v_aload_n 0 6 hF dX4_exchange_5 rfl rfl rfl ?_
    refine v_getR (b := 34) 9 hF dX4_exchange_6 rfl fl_X4_48 hs.1 rfl ?_
    refine v_alen 5 10 hF dX4_exchange_9 rfl (hs.2.2.2.2.2.2.1) (Or.inl rfl) (by decide) ?_
    refine v_icmp_ge 13 52 hF dX4_exchange_10 rfl (by decide) (fun _ => ?_) (fun _ => ?_)
    · exact v_vret hF dX4_exchange_52
    · refine v_iload_n 2 14 hF dX4_exchange_13 rfl rfl rfl ?_
      refine v_if_lt 17 52 hF dX4_exchange_14 rfl (by decide) (fun _ => ?_) (fun _ => ?_)
      · exact v_vret hF dX4_exchange_52
      · refine v_iload_n 2 18 hF dX4_exchange_17 rfl rfl rfl ?_
        refine v_aload_n 0 19 hF dX4_exchange_18 rfl rfl rfl ?_
        refine v_getR (b := 34) 22 hF dX4_exchange_19 rfl fl_X4_48 hs.1 rfl ?_
        refine v_alen 5 23 hF dX4_exchange_22 rfl (hs.2.2.2.2.2.2.1) (Or.inl rfl) (by decide) ?_
        refine v_icmp_ge 26 52 hF dX4_exchange_23 rfl (by decide) (fun _ => ?_) (fun _ => ?_)
        · exact v_vret hF dX4_exchange_52
        · refine v_aload_n 0 27 hF dX4_exchange_26 rfl rfl rfl ?_
          refine v_getR (b := 34) 30 hF dX4_exchange_27 rfl fl_X4_48 hs.1 rfl ?_
          refine v_iload_n 1 31 hF dX4_exchange_30 rfl rfl rfl ?_
          refine v_iald 32 hF dX4_exchange_31 rfl (hs.2.2.2.2.2.2.1) ?_
          refine v_istore_n (lo' := fun y1 => [(3, .int y1), (0, .ref (G.2.2.2.2 0)), (1, .int x1), (2, .int x2)]) 33 hF dX4_exchange_32 rfl rfl (by decide) (fun _ => rfl) (fun y1 => ?_)
          refine v_aload_n 1 34 hF dX4_exchange_33 rfl rfl rfl ?_
          refine v_getR (b := 34) 37 hF dX4_exchange_34 rfl fl_X4_48 hs.1 rfl ?_
          refine v_iload_n 2 38 hF dX4_exchange_37 rfl rfl rfl ?_
          refine v_aload_n 1 39 hF dX4_exchange_38 rfl rfl rfl ?_
          refine v_getR (b := 34) 42 hF dX4_exchange_39 rfl fl_X4_48 hs.1 rfl ?_
          refine v_iload_n 3 43 hF dX4_exchange_42 rfl rfl rfl ?_
          refine v_iald 44 hF dX4_exchange_43 rfl (hs.2.2.2.2.2.2.1) ?_
          refine v_iast 45 hF dX4_exchange_44 rfl (hs.2.2.2.2.2.2.1) (fun M2 => ?_)
          refine v_aload_n 1 46 hF dX4_exchange_45 rfl rfl rfl ?_
          refine v_getR (b := 34) 49 hF dX4_exchange_46 rfl fl_X4_48 hs.1 rfl ?_
          refine v_iload_n 3 50 hF dX4_exchange_49 rfl rfl rfl ?_
          refine v_iload_n 0 51 hF dX4_exchange_50 rfl rfl rfl ?_
          refine v_iast 52 hF dX4_exchange_51 rfl (hs.2.2.2.2.2.2.1) (fun M3 => ?_)
          exact v_vret hF dX4_exchange_52
abbrev rmX4_nextWay : Room := { frames := 1, cells := 0, slots := 0, locals := 23 }
def m_X4_nextWay_B99 (n99 : Int32 → Int32 → Mm → Option (Int32 × Mm)) (x4 : Int32) (x5 : Int32) (M : Mm) : Option (Int32 × Mm) := if x5 ≤ x4 then (some ((1 : Int32), M)) else (bd (m_X4_exchange x4 x5 M) fun _ M1 => lt1 (x4 + 1) fun y2 => lt1 (x5 + (-1)) fun y3 => n99 y2 y3 M1)
def m_X4_nextWay_L99 : Nat → Int32 → Int32 → Mm → Option (Int32 × Mm)
  | 0 => fun _ _ _ => none
  | n + 1 => m_X4_nextWay_B99  (m_X4_nextWay_L99  n)
def m_X4_nextWay_J83 (x1 : Int32) (x2 : Int32) (x3 : Int32) (M : Mm) : Option (Int32 × Mm) := bd (m_X4_exchange x2 x3 M) fun _ M4 => lt1 ((x2 + (1 : Int32))) fun y5 => lt1 ((x1 - (1 : Int32))) fun y6 => m_X4_nextWay_L99 FU y5 y6 M4
def m_X4_nextWay_B57 (n57 : Int32 → Int32 → Int32 → Mm → Option (Int32 × Mm)) (x1 : Int32) (x2 : Int32) (x3 : Int32) (M : Mm) : Option (Int32 × Mm) := if x3 ≤ x2 then (m_X4_nextWay_J83 x1 x2 x3 M) else (gd (inr x3 5) (gd (inr x2 5) (if (M 34 x2.toNatClampNeg) < (M 34 x3.toNatClampNeg) then (m_X4_nextWay_J83 x1 x2 x3 M) else (lt1 (x3 + (-1)) fun y7 => n57 x1 x2 y7 M))))
def m_X4_nextWay_L57 : Nat → Int32 → Int32 → Int32 → Mm → Option (Int32 × Mm)
  | 0 => fun _ _ _ _ => none
  | n + 1 => m_X4_nextWay_B57  (m_X4_nextWay_L57  n)
def m_X4_nextWay_J47 (x1 : Int32) (x2 : Int32) (M : Mm) : Option (Int32 × Mm) := if 0 ≤ x2 then (lt1 ((x1 - (1 : Int32))) fun y8 => m_X4_nextWay_L57 FU x1 x2 y8 M) else (some ((0 : Int32), M))
def m_X4_nextWay_B20 (n20 : Int32 → Int32 → Mm → Option (Int32 × Mm)) (x1 : Int32) (x2 : Int32) (M : Mm) : Option (Int32 × Mm) := if x2 < 0 then (m_X4_nextWay_J47 x1 x2 M) else (gd (inr x2 5) (gd (inr ((x2 + (1 : Int32))) 5) (if (M 34 x2.toNatClampNeg) < (M 34 ((x2 + (1 : Int32))).toNatClampNeg) then (m_X4_nextWay_J47 x1 x2 M) else (lt1 (x2 + (-1)) fun y9 => n20 x1 y9 M))))
def m_X4_nextWay_L20 : Nat → Int32 → Int32 → Mm → Option (Int32 × Mm)
  | 0 => fun _ _ _ => none
  | n + 1 => m_X4_nextWay_B20  (m_X4_nextWay_L20  n)
def m_X4_nextWay  (M : Mm) : Option (Int32 × Mm) := lt1 ((mmin ((M 7 4)) ((5 : Int32)))) fun y10 => lt1 ((y10 - (2 : Int32))) fun y11 => m_X4_nextWay_L20 FU y10 y11 M
set_option maxRecDepth 100000 in
set_option maxHeartbeats 4000000 in
theorem v_X4_nextWay_B99 {X : Cx} {G : Gx} {sh : List Sh} (hF : FX X G sh 6 cX4_nextWay (yX4_nextWay).cls (some .boolean) rmX4_nextWay) (hs : TopAt sh) (n99 : Int32 → Int32 → Mm → Option (Int32 × Mm)) (h99 : ∀ (x4 : Int32) (x5 : Int32) (M : Mm), VR X G sh 6 rvI M 99 [(0, .ref (G.2.2.2.2 0)), (4, .int x4), (5, .int x5)] [] (n99 x4 x5 M)) : ∀ (x4 : Int32) (x5 : Int32) (M : Mm), VR X G sh 6 rvI M 99 [(0, .ref (G.2.2.2.2 0)), (4, .int x4), (5, .int x5)] [] (m_X4_nextWay_B99  n99 x4 x5 M) := by
  intro x4 x5 M
  unfold m_X4_nextWay_B99
  refine v_iload 1 101 hF dX4_nextWay_99 rfl rfl ?_
  refine v_iload 2 103 hF dX4_nextWay_101 rfl rfl ?_
  refine v_icmp_ge 106 123 hF dX4_nextWay_103 rfl (by decide) (fun _ => ?_) (fun _ => ?_)
  · refine v_iconst (1) 124 hF dX4_nextWay_123 rfl (by decide) ?_
    exact v_zret0 hF dX4_nextWay_124 rfl
  · refine v_aload_n 0 107 hF dX4_nextWay_106 rfl rfl rfl ?_
    refine v_iload 1 109 hF dX4_nextWay_107 rfl rfl ?_
    refine v_iload 2 111 hF dX4_nextWay_109 rfl rfl ?_
    refine v_callV ([.int x4, .int x5]) ([]) 114 hF dX4_nextWay_111 rfl cw_X4_225 rfl (hs.1) (c_X4_exchange (G := G) hs M x4 x5) ⟨rfl, rfl, Nat.le_of_ble_eq_true rfl, Nat.le_of_ble_eq_true rfl⟩ rfl rfl (Nat.le_of_ble_eq_true rfl) (fun _ M1 => ?_)
    refine v_iinc (v := (x4 + 1)) (lo' := fun y2 => [(4, .int y2), (0, .ref (G.2.2.2.2 0)), (5, .int x5)]) 1 117 hF dX4_nextWay_114 rfl rfl rfl (by decide) (fun _ => rfl) (fun y2 => ?_)
    refine v_iinc (v := (x5 + (-1))) (lo' := fun y3 => [(5, .int y3), (4, .int y2), (0, .ref (G.2.2.2.2 0))]) 2 120 hF dX4_nextWay_117 rfl rfl rfl (by decide) (fun _ => rfl) (fun y3 => ?_)
    refine v_goto 99 hF dX4_nextWay_120 (by decide) ?_
    refine VR.pick [2, 1, 0] rfl ?_
    exact h99 y2 y3 M1
theorem v_X4_nextWay_L99 {X : Cx} {G : Gx} {sh : List Sh} (hF : FX X G sh 6 cX4_nextWay (yX4_nextWay).cls (some .boolean) rmX4_nextWay) (hs : TopAt sh) : ∀ (n : Nat), ∀ (x4 : Int32) (x5 : Int32) (M : Mm), VR X G sh 6 rvI M 99 [(0, .ref (G.2.2.2.2 0)), (4, .int x4), (5, .int x5)] [] (m_X4_nextWay_L99  n x4 x5 M) := by
  intro n
  induction n with
  | zero => intro x4 x5 M; exact VR.none
  | succ n ih => exact v_X4_nextWay_B99 hF hs _ ih
set_option maxRecDepth 100000 in
set_option maxHeartbeats 4000000 in
theorem v_X4_nextWay_J83 {X : Cx} {G : Gx} {sh : List Sh} (hF : FX X G sh 6 cX4_nextWay (yX4_nextWay).cls (some .boolean) rmX4_nextWay) (hs : TopAt sh) : ∀ (x1 : Int32) (x2 : Int32) (x3 : Int32) (M : Mm), VR X G sh 6 rvI M 83 [(0, .ref (G.2.2.2.2 0)), (1, .int x1), (2, .int x2), (3, .int x3)] [] (m_X4_nextWay_J83  x1 x2 x3 M) := by
  intro x1 x2 x3 M
  unfold m_X4_nextWay_J83
  refine v_aload_n 0 84 hF dX4_nextWay_83 rfl rfl rfl ?_
  refine v_iload_n 2 85 hF dX4_nextWay_84 rfl rfl rfl ?_
  refine v_iload_n 3 86 hF dX4_nextWay_85 rfl rfl rfl ?_
  refine v_callV ([.int x2, .int x3]) ([]) 89 hF dX4_nextWay_86 rfl cw_X4_225 rfl (hs.1) (c_X4_exchange (G := G) hs M x2 x3) ⟨rfl, rfl, Nat.le_of_ble_eq_true rfl, Nat.le_of_ble_eq_true rfl⟩ rfl rfl (Nat.le_of_ble_eq_true rfl) (fun _ M4 => ?_)
  refine v_iload_n 2 90 hF dX4_nextWay_89 rfl rfl rfl ?_
  refine v_iconst (1) 91 hF dX4_nextWay_90 rfl (by decide) ?_
  refine v_iadd 92 hF dX4_nextWay_91 rfl ?_
  refine v_istore (lo' := fun y5 => [(4, .int y5), (0, .ref (G.2.2.2.2 0)), (1, .int x1), (2, .int x2), (3, .int x3)]) 94 hF dX4_nextWay_92 rfl (by decide) (fun _ => rfl) (fun y5 => ?_)
  refine v_iload_n 2 95 hF dX4_nextWay_94 rfl rfl rfl ?_
  refine v_iconst (1) 96 hF dX4_nextWay_95 rfl (by decide) ?_
  refine v_isub 97 hF dX4_nextWay_96 rfl ?_
  refine v_istore (lo' := fun y6 => [(5, .int y6), (4, .int y5), (0, .ref (G.2.2.2.2 0)), (1, .int x1), (2, .int x2), (3, .int x3)]) 99 hF dX4_nextWay_97 rfl (by decide) (fun _ => rfl) (fun y6 => ?_)
  refine VR.pick [2, 1, 0] rfl ?_
  exact v_X4_nextWay_L99 hF hs FU y5 y6 M4
set_option maxRecDepth 100000 in
set_option maxHeartbeats 4000000 in
theorem v_X4_nextWay_B57 {X : Cx} {G : Gx} {sh : List Sh} (hF : FX X G sh 6 cX4_nextWay (yX4_nextWay).cls (some .boolean) rmX4_nextWay) (hs : TopAt sh) (n57 : Int32 → Int32 → Int32 → Mm → Option (Int32 × Mm)) (h57 : ∀ (x1 : Int32) (x2 : Int32) (x3 : Int32) (M : Mm), VR X G sh 6 rvI M 57 [(0, .ref (G.2.2.2.2 0)), (1, .int x1), (2, .int x2), (3, .int x3)] [] (n57 x1 x2 x3 M)) : ∀ (x1 : Int32) (x2 : Int32) (x3 : Int32) (M : Mm), VR X G sh 6 rvI M 57 [(0, .ref (G.2.2.2.2 0)), (1, .int x1), (2, .int x2), (3, .int x3)] [] (m_X4_nextWay_B57  n57 x1 x2 x3 M) := by
  intro x1 x2 x3 M
  unfold m_X4_nextWay_B57
  refine v_iload_n 3 58 hF dX4_nextWay_57 rfl rfl rfl ?_
  refine v_iload_n 2 59 hF dX4_nextWay_58 rfl rfl rfl ?_
  refine v_icmp_le 62 83 hF dX4_nextWay_59 rfl (by decide) (fun _ => ?_) (fun _ => ?_)
  · refine VR.pick [0, 1, 2, 3] rfl ?_
    exact v_X4_nextWay_J83 hF hs x1 x2 x3 M
  · refine v_aload_n 0 63 hF dX4_nextWay_62 rfl rfl rfl ?_
    refine v_getR (b := 34) 66 hF dX4_nextWay_63 rfl fl_X4_48 hs.1 rfl ?_
    refine v_iload_n 3 67 hF dX4_nextWay_66 rfl rfl rfl ?_
    refine v_iald 68 hF dX4_nextWay_67 rfl (hs.2.2.2.2.2.2.1) ?_
    refine v_aload_n 0 69 hF dX4_nextWay_68 rfl rfl rfl ?_
    refine v_getR (b := 34) 72 hF dX4_nextWay_69 rfl fl_X4_48 hs.1 rfl ?_
    refine v_iload_n 2 73 hF dX4_nextWay_72 rfl rfl rfl ?_
    refine v_iald 74 hF dX4_nextWay_73 rfl (hs.2.2.2.2.2.2.1) ?_
    refine v_icmp_gt 77 83 hF dX4_nextWay_74 rfl (by decide) (fun _ => ?_) (fun _ => ?_)
    · refine VR.pick [0, 1, 2, 3] rfl ?_
      exact v_X4_nextWay_J83 hF hs x1 x2 x3 M
    · refine v_iinc (v := (x3 + (-1))) (lo' := fun y7 => [(3, .int y7), (0, .ref (G.2.2.2.2 0)), (1, .int x1), (2, .int x2)]) 3 80 hF dX4_nextWay_77 rfl rfl rfl (by decide) (fun _ => rfl) (fun y7 => ?_)
      refine v_goto 57 hF dX4_nextWay_80 (by decide) ?_
      refine VR.pick [1, 2, 3, 0] rfl ?_
      exact h57 x1 x2 y7 M
theorem v_X4_nextWay_L57 {X : Cx} {G : Gx} {sh : List Sh} (hF : FX X G sh 6 cX4_nextWay (yX4_nextWay).cls (some .boolean) rmX4_nextWay) (hs : TopAt sh) : ∀ (n : Nat), ∀ (x1 : Int32) (x2 : Int32) (x3 : Int32) (M : Mm), VR X G sh 6 rvI M 57 [(0, .ref (G.2.2.2.2 0)), (1, .int x1), (2, .int x2), (3, .int x3)] [] (m_X4_nextWay_L57  n x1 x2 x3 M) := by
  intro n
  induction n with
  | zero => intro x1 x2 x3 M; exact VR.none
  | succ n ih => exact v_X4_nextWay_B57 hF hs _ ih
set_option maxRecDepth 100000 in
set_option maxHeartbeats 4000000 in
theorem v_X4_nextWay_J47 {X : Cx} {G : Gx} {sh : List Sh} (hF : FX X G sh 6 cX4_nextWay (yX4_nextWay).cls (some .boolean) rmX4_nextWay) (hs : TopAt sh) : ∀ (x1 : Int32) (x2 : Int32) (M : Mm), VR X G sh 6 rvI M 47 [(0, .ref (G.2.2.2.2 0)), (1, .int x1), (2, .int x2)] [] (m_X4_nextWay_J47  x1 x2 M) := by
  intro x1 x2 M
  unfold m_X4_nextWay_J47
  refine v_iload_n 2 48 hF dX4_nextWay_47 rfl rfl rfl ?_
  refine v_if_ge 51 53 hF dX4_nextWay_48 rfl (by decide) (fun _ => ?_) (fun _ => ?_)
  · refine v_iload_n 1 54 hF dX4_nextWay_53 rfl rfl rfl ?_
    refine v_iconst (1) 55 hF dX4_nextWay_54 rfl (by decide) ?_
    refine v_isub 56 hF dX4_nextWay_55 rfl ?_
    refine v_istore_n (lo' := fun y8 => [(3, .int y8), (0, .ref (G.2.2.2.2 0)), (1, .int x1), (2, .int x2)]) 57 hF dX4_nextWay_56 rfl rfl (by decide) (fun _ => rfl) (fun y8 => ?_)
    refine VR.pick [1, 2, 3, 0] rfl ?_
    exact v_X4_nextWay_L57 hF hs FU x1 x2 y8 M
  · refine v_iconst (0) 52 hF dX4_nextWay_51 rfl (by decide) ?_
    exact v_zret0 hF dX4_nextWay_52 rfl
set_option maxRecDepth 100000 in
set_option maxHeartbeats 4000000 in
theorem v_X4_nextWay_B20 {X : Cx} {G : Gx} {sh : List Sh} (hF : FX X G sh 6 cX4_nextWay (yX4_nextWay).cls (some .boolean) rmX4_nextWay) (hs : TopAt sh) (n20 : Int32 → Int32 → Mm → Option (Int32 × Mm)) (h20 : ∀ (x1 : Int32) (x2 : Int32) (M : Mm), VR X G sh 6 rvI M 20 [(0, .ref (G.2.2.2.2 0)), (1, .int x1), (2, .int x2)] [] (n20 x1 x2 M)) : ∀ (x1 : Int32) (x2 : Int32) (M : Mm), VR X G sh 6 rvI M 20 [(0, .ref (G.2.2.2.2 0)), (1, .int x1), (2, .int x2)] [] (m_X4_nextWay_B20  n20 x1 x2 M) := by
  intro x1 x2 M
  unfold m_X4_nextWay_B20
  refine v_iload_n 2 21 hF dX4_nextWay_20 rfl rfl rfl ?_
  refine v_if_lt 24 47 hF dX4_nextWay_21 rfl (by decide) (fun _ => ?_) (fun _ => ?_)
  · refine VR.pick [0, 1, 2] rfl ?_
    exact v_X4_nextWay_J47 hF hs x1 x2 M
  · refine v_aload_n 0 25 hF dX4_nextWay_24 rfl rfl rfl ?_
    refine v_getR (b := 34) 28 hF dX4_nextWay_25 rfl fl_X4_48 hs.1 rfl ?_
    refine v_iload_n 2 29 hF dX4_nextWay_28 rfl rfl rfl ?_
    refine v_iald 30 hF dX4_nextWay_29 rfl (hs.2.2.2.2.2.2.1) ?_
    refine v_aload_n 0 31 hF dX4_nextWay_30 rfl rfl rfl ?_
    refine v_getR (b := 34) 34 hF dX4_nextWay_31 rfl fl_X4_48 hs.1 rfl ?_
    refine v_iload_n 2 35 hF dX4_nextWay_34 rfl rfl rfl ?_
    refine v_iconst (1) 36 hF dX4_nextWay_35 rfl (by decide) ?_
    refine v_iadd 37 hF dX4_nextWay_36 rfl ?_
    refine v_iald 38 hF dX4_nextWay_37 rfl (hs.2.2.2.2.2.2.1) ?_
    refine v_icmp_lt 41 47 hF dX4_nextWay_38 rfl (by decide) (fun _ => ?_) (fun _ => ?_)
    · refine VR.pick [0, 1, 2] rfl ?_
      exact v_X4_nextWay_J47 hF hs x1 x2 M
    · refine v_iinc (v := (x2 + (-1))) (lo' := fun y9 => [(2, .int y9), (0, .ref (G.2.2.2.2 0)), (1, .int x1)]) 2 44 hF dX4_nextWay_41 rfl rfl rfl (by decide) (fun _ => rfl) (fun y9 => ?_)
      refine v_goto 20 hF dX4_nextWay_44 (by decide) ?_
      refine VR.pick [1, 2, 0] rfl ?_
      exact h20 x1 y9 M
theorem v_X4_nextWay_L20 {X : Cx} {G : Gx} {sh : List Sh} (hF : FX X G sh 6 cX4_nextWay (yX4_nextWay).cls (some .boolean) rmX4_nextWay) (hs : TopAt sh) : ∀ (n : Nat), ∀ (x1 : Int32) (x2 : Int32) (M : Mm), VR X G sh 6 rvI M 20 [(0, .ref (G.2.2.2.2 0)), (1, .int x1), (2, .int x2)] [] (m_X4_nextWay_L20  n x1 x2 M) := by
  intro n
  induction n with
  | zero => intro x1 x2 M; exact VR.none
  | succ n ih => exact v_X4_nextWay_B20 hF hs _ ih
set_option maxRecDepth 100000 in
set_option maxHeartbeats 4000000 in
theorem c_X4_nextWay {G : Gx} {sh : List Sh} (hs : TopAt sh) (M : Mm)  : CT yX4_nextWay cX4_nextWay 6 (some .boolean) rmX4_nextWay G sh [.ref (G.2.2.2.2 0)] rvI M (m_X4_nextWay   M) := by
  refine CT.of (by decide +kernel) (Nat.le_of_ble_eq_true rfl) (fun X hF => ?_)
  show VR X G sh 6 rvI M 0 [(0, .ref (G.2.2.2.2 0))] [] _
  unfold m_X4_nextWay
  refine v_aload_n 0 1 hF dX4_nextWay_0 rfl rfl rfl ?_
  refine v_getR (b := 7) 4 hF dX4_nextWay_1 rfl fl_X4_38 hs.1 rfl ?_
  refine v_getI 7 hF dX4_nextWay_4 rfl fl_X4_196 hs.2.2.2.1.1 rfl ?_
  refine v_aload_n 0 8 hF dX4_nextWay_7 rfl rfl rfl ?_
  refine v_getR (b := 34) 11 hF dX4_nextWay_8 rfl fl_X4_48 hs.1 rfl ?_
  refine v_alen 5 12 hF dX4_nextWay_11 rfl (hs.2.2.2.2.2.2.1) (Or.inl rfl) (by decide) ?_
  refine v_mmin 15 hF dX4_nextWay_12 rfl cm_X4_220 ⟨Nat.le_of_ble_eq_true rfl, Nat.le_of_ble_eq_true rfl⟩ ?_
  refine v_istore_n (lo' := fun y10 => [(1, .int y10), (0, .ref (G.2.2.2.2 0))]) 16 hF dX4_nextWay_15 rfl rfl (by decide) (fun _ => rfl) (fun y10 => ?_)
  refine v_iload_n 0 17 hF dX4_nextWay_16 rfl rfl rfl ?_
  refine v_iconst (2) 18 hF dX4_nextWay_17 rfl (by decide) ?_
  refine v_isub 19 hF dX4_nextWay_18 rfl ?_
  refine v_istore_n (lo' := fun y11 => [(2, .int y11), (1, .int y10), (0, .ref (G.2.2.2.2 0))]) 20 hF dX4_nextWay_19 rfl rfl (by decide) (fun _ => rfl) (fun y11 => ?_)
  refine VR.pick [2, 1, 0] rfl ?_
  exact v_X4_nextWay_L20 hF hs FU y10 y11 M
abbrev rmX4_live : Room := { frames := 7, cells := 0, slots := 0, locals := 165 }
def m_X4_live_J109 (x2 : Int32) (x3 : Int32) (x4 : Int32) (M : Mm) : Option (Int32 × Mm) := if x2 = 0 then (some (x3, M)) else (some (x4, M))
def m_X4_live_J97 (n37 : Int32 → Int32 → Int32 → Int32 → Int32 → Int32 → Mm → Option (Int32 × Mm)) (x1 : Int32) (x2 : Int32) (x3 : Int32) (x4 : Int32) (x6 : Int32) (M : Mm) : Option (Int32 × Mm) := bd (m_X4_nextWay M) fun r2 M1 => lt1 r2 fun y3 => lt1 (x6 + 1) fun y4 => n37 x1 x2 x3 x4 y3 y4 M1
def m_X4_live_B37 (n37 : Int32 → Int32 → Int32 → Int32 → Int32 → Int32 → Mm → Option (Int32 × Mm)) (x1 : Int32) (x2 : Int32) (x3 : Int32) (x4 : Int32) (x5 : Int32) (x6 : Int32) (M : Mm) : Option (Int32 × Mm) := if (120 : Int32) ≤ x6 then (m_X4_live_J109 x2 x3 x4 M) else (if x5 = 0 then (m_X4_live_J109 x2 x3 x4 M) else (bd (m_X3_takeOver 16 7 M) fun _ M5 => bd (m_X4_moveByWay M5) fun _ M6 => bd (m_X3_passDays 16 x1 M6) fun _ M7 => bd (m_X3_homes 16 M7) fun r9 M8 => lt1 r9 fun y10 => if y10 ≤ x4 then (m_X4_live_J97 n37 x1 x2 x3 x4 x6 M8) else (lt1 y10 fun y11 => bd (m_X4_digitsOfWay M8) fun r13 M12 => lt1 r13 fun y14 => m_X4_live_J97 n37 x1 x2 y14 y11 x6 M12)))
def m_X4_live_L37 : Nat → Int32 → Int32 → Int32 → Int32 → Int32 → Int32 → Mm → Option (Int32 × Mm)
  | 0 => fun _ _ _ _ _ _ _ => none
  | n + 1 => m_X4_live_B37  (m_X4_live_L37  n)
def m_X4_live (x1 : Int32) (x2 : Int32) (M : Mm) : Option (Int32 × Mm) := if x1 < 0 then (some ((-2 : Int32), M)) else (if (20 : Int32) < x1 then (some ((-2 : Int32), M)) else (if x2 < 0 then (some ((-2 : Int32), M)) else (if x2 ≤ (1 : Int32) then (bd (m_X4_firstWay M) fun _ M15 => lt1 ((0 : Int32)) fun y16 => lt1 ((-1 : Int32)) fun y17 => lt1 ((1 : Int32)) fun y18 => lt1 ((0 : Int32)) fun y19 => m_X4_live_L37 FU x1 x2 y16 y17 y18 y19 M15) else (some ((-2 : Int32), M)))))
set_option maxRecDepth 100000 in
set_option maxHeartbeats 4000000 in
theorem v_X4_live_J109 {X : Cx} {G : Gx} {sh : List Sh} (hF : FX X G sh 8 cX4_live (yX4_live).cls (some .int) rmX4_live) (hs : TopAt sh) : ∀ (x2 : Int32) (x3 : Int32) (x4 : Int32) (M : Mm), VR X G sh 8 rvI M 109 [(0, .ref (G.2.2.2.2 0)), (2, .int x2), (3, .int x3), (4, .int x4)] [] (m_X4_live_J109  x2 x3 x4 M) := by
  intro x2 x3 x4 M
  unfold m_X4_live_J109
  refine v_iload_n 1 110 hF dX4_live_109 rfl rfl rfl ?_
  refine v_if_ne 113 117 hF dX4_live_110 rfl (by decide) (fun _ => ?_) (fun _ => ?_)
  · refine v_iload 3 119 hF dX4_live_117 rfl rfl ?_
    exact v_iret hF dX4_live_119
  · refine v_iload_n 2 114 hF dX4_live_113 rfl rfl rfl ?_
    refine v_goto 119 hF dX4_live_114 (by decide) ?_
    exact v_iret hF dX4_live_119
set_option maxRecDepth 100000 in
set_option maxHeartbeats 4000000 in
theorem v_X4_live_J97 {X : Cx} {G : Gx} {sh : List Sh} (hF : FX X G sh 8 cX4_live (yX4_live).cls (some .int) rmX4_live) (hs : TopAt sh) (n37 : Int32 → Int32 → Int32 → Int32 → Int32 → Int32 → Mm → Option (Int32 × Mm)) (h37 : ∀ (x1 : Int32) (x2 : Int32) (x3 : Int32) (x4 : Int32) (x5 : Int32) (x6 : Int32) (M : Mm), VR X G sh 8 rvI M 37 [(0, .ref (G.2.2.2.2 0)), (1, .int x1), (2, .int x2), (3, .int x3), (4, .int x4), (5, .int x5), (6, .int x6)] [] (n37 x1 x2 x3 x4 x5 x6 M)) : ∀ (x1 : Int32) (x2 : Int32) (x3 : Int32) (x4 : Int32) (x6 : Int32) (M : Mm), VR X G sh 8 rvI M 97 [(0, .ref (G.2.2.2.2 0)), (1, .int x1), (2, .int x2), (3, .int x3), (4, .int x4), (6, .int x6)] [] (m_X4_live_J97  n37 x1 x2 x3 x4 x6 M) := by
  intro x1 x2 x3 x4 x6 M
  unfold m_X4_live_J97
  refine v_aload_n 0 98 hF dX4_live_97 rfl rfl rfl ?_
  refine v_callI ([]) ([]) 101 hF dX4_live_98 rfl cw_X4_193 rfl (hs.1) (c_X4_nextWay (G := G) hs M) ⟨rfl, rfl, Nat.le_of_ble_eq_true rfl, Nat.le_of_ble_eq_true rfl⟩ rfl rfl (Nat.le_of_ble_eq_true rfl) (fun r2 M1 => ?_)
  refine v_istore (lo' := fun y3 => [(5, .int y3), (0, .ref (G.2.2.2.2 0)), (1, .int x1), (2, .int x2), (3, .int x3), (4, .int x4), (6, .int x6)]) 103 hF dX4_live_101 rfl (by decide) (fun _ => rfl) (fun y3 => ?_)
  refine v_iinc (v := (x6 + 1)) (lo' := fun y4 => [(6, .int y4), (5, .int y3), (0, .ref (G.2.2.2.2 0)), (1, .int x1), (2, .int x2), (3, .int x3), (4, .int x4)]) 6 106 hF dX4_live_103 rfl rfl rfl (by decide) (fun _ => rfl) (fun y4 => ?_)
  refine v_goto 37 hF dX4_live_106 (by decide) ?_
  refine VR.pick [2, 3, 4, 5, 6, 1, 0] rfl ?_
  exact h37 x1 x2 x3 x4 y3 y4 M1
set_option maxRecDepth 100000 in
set_option maxHeartbeats 4000000 in
theorem v_X4_live_B37 {X : Cx} {G : Gx} {sh : List Sh} (hF : FX X G sh 8 cX4_live (yX4_live).cls (some .int) rmX4_live) (hs : TopAt sh) (n37 : Int32 → Int32 → Int32 → Int32 → Int32 → Int32 → Mm → Option (Int32 × Mm)) (h37 : ∀ (x1 : Int32) (x2 : Int32) (x3 : Int32) (x4 : Int32) (x5 : Int32) (x6 : Int32) (M : Mm), VR X G sh 8 rvI M 37 [(0, .ref (G.2.2.2.2 0)), (1, .int x1), (2, .int x2), (3, .int x3), (4, .int x4), (5, .int x5), (6, .int x6)] [] (n37 x1 x2 x3 x4 x5 x6 M)) : ∀ (x1 : Int32) (x2 : Int32) (x3 : Int32) (x4 : Int32) (x5 : Int32) (x6 : Int32) (M : Mm), VR X G sh 8 rvI M 37 [(0, .ref (G.2.2.2.2 0)), (1, .int x1), (2, .int x2), (3, .int x3), (4, .int x4), (5, .int x5), (6, .int x6)] [] (m_X4_live_B37  n37 x1 x2 x3 x4 x5 x6 M) := by
  intro x1 x2 x3 x4 x5 x6 M
  unfold m_X4_live_B37
  refine v_iload 6 39 hF dX4_live_37 rfl rfl ?_
  refine v_bipush (120) 41 hF dX4_live_39 rfl (by decide) ?_
  refine v_icmp_ge 44 109 hF dX4_live_41 rfl (by decide) (fun _ => ?_) (fun _ => ?_)
  · refine VR.pick [0, 2, 3, 4] rfl ?_
    exact v_X4_live_J109 hF hs x2 x3 x4 M
  · refine v_iload 5 46 hF dX4_live_44 rfl rfl ?_
    refine v_if_eq 49 109 hF dX4_live_46 rfl (by decide) (fun _ => ?_) (fun _ => ?_)
    · refine VR.pick [0, 2, 3, 4] rfl ?_
      exact v_X4_live_J109 hF hs x2 x3 x4 M
    · refine v_aload_n 0 50 hF dX4_live_49 rfl rfl rfl ?_
      refine v_getR (b := 16) 53 hF dX4_live_50 rfl fl_X4_42 hs.1 rfl ?_
      refine v_aload_n 0 54 hF dX4_live_53 rfl rfl rfl ?_
      refine v_getR (b := 7) 57 hF dX4_live_54 rfl fl_X4_38 hs.1 rfl ?_
      refine v_callV ([.ref (G.2.2.2.2 7)]) ([]) 60 hF dX4_live_57 rfl cw_X4_167 rfl (hs.2.2.2.2.1.1) (c_X3_takeOver (G := G) (hs.2.1) (hs.2.2.2.2.1) (hs.2.2.2.1) M) ⟨rfl, rfl, Nat.le_of_ble_eq_true rfl, Nat.le_of_ble_eq_true rfl⟩ rfl rfl (Nat.le_of_ble_eq_true rfl) (fun _ M5 => ?_)
      refine v_aload_n 0 61 hF dX4_live_60 rfl rfl rfl ?_
      refine v_callV ([]) ([]) 64 hF dX4_live_61 rfl cw_X4_187 rfl (hs.1) (c_X4_moveByWay (G := G) hs M5) ⟨rfl, rfl, Nat.le_of_ble_eq_true rfl, Nat.le_of_ble_eq_true rfl⟩ rfl rfl (Nat.le_of_ble_eq_true rfl) (fun _ M6 => ?_)
      refine v_aload_n 0 65 hF dX4_live_64 rfl rfl rfl ?_
      refine v_getR (b := 16) 68 hF dX4_live_65 rfl fl_X4_42 hs.1 rfl ?_
      refine v_iload_n 1 69 hF dX4_live_68 rfl rfl rfl ?_
      refine v_callV ([.int x1]) ([]) 72 hF dX4_live_69 rfl cw_X4_171 rfl (hs.2.2.2.2.1.1) (c_X3_passDays (G := G) (hs.2.1) (hs.2.2.2.2.1) M6 x1) ⟨rfl, rfl, Nat.le_of_ble_eq_true rfl, Nat.le_of_ble_eq_true rfl⟩ rfl rfl (Nat.le_of_ble_eq_true rfl) (fun _ M7 => ?_)
      refine v_aload_n 0 73 hF dX4_live_72 rfl rfl rfl ?_
      refine v_getR (b := 16) 76 hF dX4_live_73 rfl fl_X4_42 hs.1 rfl ?_
      refine v_callI ([]) ([]) 79 hF dX4_live_76 rfl cw_X4_175 rfl (hs.2.2.2.2.1.1) (c_X3_homes (G := G) (hs.2.1) (hs.2.2.2.2.1) M7) ⟨rfl, rfl, Nat.le_of_ble_eq_true rfl, Nat.le_of_ble_eq_true rfl⟩ rfl rfl (Nat.le_of_ble_eq_true rfl) (fun r9 M8 => ?_)
      refine v_istore (lo' := fun y10 => [(7, .int y10), (0, .ref (G.2.2.2.2 0)), (1, .int x1), (2, .int x2), (3, .int x3), (4, .int x4), (5, .int x5), (6, .int x6)]) 81 hF dX4_live_79 rfl (by decide) (fun _ => rfl) (fun y10 => ?_)
      refine v_iload 0 83 hF dX4_live_81 rfl rfl ?_
      refine v_iload 5 85 hF dX4_live_83 rfl rfl ?_
      refine v_icmp_le 88 97 hF dX4_live_85 rfl (by decide) (fun _ => ?_) (fun _ => ?_)
      · refine VR.pick [1, 2, 3, 4, 5, 7] rfl ?_
        exact v_X4_live_J97 hF hs _ h37 x1 x2 x3 x4 x6 M8
      · refine v_iload 0 90 hF dX4_live_88 rfl rfl ?_
        refine v_istore (lo' := fun y11 => [(4, .int y11), (7, .int y10), (0, .ref (G.2.2.2.2 0)), (1, .int x1), (2, .int x2), (3, .int x3), (5, .int x5), (6, .int x6)]) 92 hF dX4_live_90 rfl (by decide) (fun _ => rfl) (fun y11 => ?_)
        refine v_aload_n 2 93 hF dX4_live_92 rfl rfl rfl ?_
        refine v_callI ([]) ([]) 96 hF dX4_live_93 rfl cw_X4_190 rfl (hs.1) (c_X4_digitsOfWay (G := G) hs M8) ⟨rfl, rfl, Nat.le_of_ble_eq_true rfl, Nat.le_of_ble_eq_true rfl⟩ rfl rfl (Nat.le_of_ble_eq_true rfl) (fun r13 M12 => ?_)
        refine v_istore_n (lo' := fun y14 => [(3, .int y14), (4, .int y11), (7, .int y10), (0, .ref (G.2.2.2.2 0)), (1, .int x1), (2, .int x2), (5, .int x5), (6, .int x6)]) 97 hF dX4_live_96 rfl rfl (by decide) (fun _ => rfl) (fun y14 => ?_)
        refine VR.pick [3, 4, 5, 0, 1, 7] rfl ?_
        exact v_X4_live_J97 hF hs _ h37 x1 x2 y14 y11 x6 M12
theorem v_X4_live_L37 {X : Cx} {G : Gx} {sh : List Sh} (hF : FX X G sh 8 cX4_live (yX4_live).cls (some .int) rmX4_live) (hs : TopAt sh) : ∀ (n : Nat), ∀ (x1 : Int32) (x2 : Int32) (x3 : Int32) (x4 : Int32) (x5 : Int32) (x6 : Int32) (M : Mm), VR X G sh 8 rvI M 37 [(0, .ref (G.2.2.2.2 0)), (1, .int x1), (2, .int x2), (3, .int x3), (4, .int x4), (5, .int x5), (6, .int x6)] [] (m_X4_live_L37  n x1 x2 x3 x4 x5 x6 M) := by
  intro n
  induction n with
  | zero => intro x1 x2 x3 x4 x5 x6 M; exact VR.none
  | succ n ih => exact v_X4_live_B37 hF hs _ ih
set_option maxRecDepth 100000 in
set_option maxHeartbeats 4000000 in
theorem c_X4_live {G : Gx} {sh : List Sh} (hs : TopAt sh) (M : Mm) (x1 : Int32) (x2 : Int32) : CT yX4_live cX4_live 8 (some .int) rmX4_live G sh [.ref (G.2.2.2.2 0), .int x1, .int x2] rvI M (m_X4_live  x1 x2 M) := by
  refine CT.of (by decide +kernel) (Nat.le_of_ble_eq_true rfl) (fun X hF => ?_)
  show VR X G sh 8 rvI M 0 [(0, .ref (G.2.2.2.2 0)), (1, .int x1), (2, .int x2)] [] _
  unfold m_X4_live
  refine v_iload_n 1 1 hF dX4_live_0 rfl rfl rfl ?_
  refine v_if_lt 4 19 hF dX4_live_1 rfl (by decide) (fun _ => ?_) (fun _ => ?_)
  · refine v_bipush (-2) 21 hF dX4_live_19 rfl (by decide) ?_
    exact v_iret hF dX4_live_21
  · refine v_iload_n 1 5 hF dX4_live_4 rfl rfl rfl ?_
    refine v_bipush (20) 7 hF dX4_live_5 rfl (by decide) ?_
    refine v_icmp_gt 10 19 hF dX4_live_7 rfl (by decide) (fun _ => ?_) (fun _ => ?_)
    · refine v_bipush (-2) 21 hF dX4_live_19 rfl (by decide) ?_
      exact v_iret hF dX4_live_21
    · refine v_iload_n 2 11 hF dX4_live_10 rfl rfl rfl ?_
      refine v_if_lt 14 19 hF dX4_live_11 rfl (by decide) (fun _ => ?_) (fun _ => ?_)
      · refine v_bipush (-2) 21 hF dX4_live_19 rfl (by decide) ?_
        exact v_iret hF dX4_live_21
      · refine v_iload_n 2 15 hF dX4_live_14 rfl rfl rfl ?_
        refine v_iconst (1) 16 hF dX4_live_15 rfl (by decide) ?_
        refine v_icmp_le 19 22 hF dX4_live_16 rfl (by decide) (fun _ => ?_) (fun _ => ?_)
        · refine v_aload_n 0 23 hF dX4_live_22 rfl rfl rfl ?_
          refine v_callV ([]) ([]) 26 hF dX4_live_23 rfl cw_X4_184 rfl (hs.1) (c_X4_firstWay (G := G) hs M) ⟨rfl, rfl, Nat.le_of_ble_eq_true rfl, Nat.le_of_ble_eq_true rfl⟩ rfl rfl (Nat.le_of_ble_eq_true rfl) (fun _ M15 => ?_)
          refine v_iconst (0) 27 hF dX4_live_26 rfl (by decide) ?_
          refine v_istore_n (lo' := fun y16 => [(3, .int y16), (0, .ref (G.2.2.2.2 0)), (1, .int x1), (2, .int x2)]) 28 hF dX4_live_27 rfl rfl (by decide) (fun _ => rfl) (fun y16 => ?_)
          refine v_iconst (-1) 29 hF dX4_live_28 rfl (by decide) ?_
          refine v_istore (lo' := fun y17 => [(4, .int y17), (3, .int y16), (0, .ref (G.2.2.2.2 0)), (1, .int x1), (2, .int x2)]) 31 hF dX4_live_29 rfl (by decide) (fun _ => rfl) (fun y17 => ?_)
          refine v_iconst (1) 32 hF dX4_live_31 rfl (by decide) ?_
          refine v_istore (lo' := fun y18 => [(5, .int y18), (4, .int y17), (3, .int y16), (0, .ref (G.2.2.2.2 0)), (1, .int x1), (2, .int x2)]) 34 hF dX4_live_32 rfl (by decide) (fun _ => rfl) (fun y18 => ?_)
          refine v_iconst (0) 35 hF dX4_live_34 rfl (by decide) ?_
          refine v_istore (lo' := fun y19 => [(6, .int y19), (5, .int y18), (4, .int y17), (3, .int y16), (0, .ref (G.2.2.2.2 0)), (1, .int x1), (2, .int x2)]) 37 hF dX4_live_35 rfl (by decide) (fun _ => rfl) (fun y19 => ?_)
          refine VR.pick [4, 5, 6, 3, 2, 1, 0] rfl ?_
          exact v_X4_live_L37 hF hs FU x1 x2 y16 y17 y18 y19 M15
        · refine v_bipush (-2) 21 hF dX4_live_19 rfl (by decide) ?_
          exact v_iret hF dX4_live_21
