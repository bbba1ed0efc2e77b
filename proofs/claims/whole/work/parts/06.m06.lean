abbrev rmX4_allSo : Room := { frames := 6, cells := 0, slots := 0, locals := 144 }
def m_X4_allSo_J109 (w : Nat) (n6 : Int32 → Int32 → Int32 → Int32 → Int32 → Int32 → Mm → Option (Int32 × Mm)) (x2 : Int32) (x3 : Int32) (x4 : Int32) (x5 : Int32) (x6 : Int32) (x7 : Int32) (M : Mm) : Option (Int32 × Mm) := lt1 (x7 + 1) fun y1 => n6 x2 x3 x4 x5 x6 y1 M
def m_X4_allSo_J87 (w : Nat) (n6 : Int32 → Int32 → Int32 → Int32 → Int32 → Int32 → Mm → Option (Int32 × Mm)) (x2 : Int32) (x3 : Int32) (x4 : Int32) (x5 : Int32) (x6 : Int32) (x7 : Int32) (M : Mm) : Option (Int32 × Mm) := bd (m_X3_firstOtherwise 16 w x2 M) fun r3 M2 => if r3 = (-1 : Int32) then (lt1 ((x6 ||| (shl ((1 : Int32)) x7))) fun y4 => m_X4_allSo_J109 w n6 x2 x3 x4 x5 y4 x7 M2) else (m_X4_allSo_J109 w n6 x2 x3 x4 x5 x6 x7 M2)
def m_X4_allSo_B6 (w : Nat) (n6 : Int32 → Int32 → Int32 → Int32 → Int32 → Int32 → Mm → Option (Int32 × Mm)) (x2 : Int32) (x3 : Int32) (x4 : Int32) (x5 : Int32) (x6 : Int32) (x7 : Int32) (M : Mm) : Option (Int32 × Mm) := if x5 ≤ x7 then (some (x6, M)) else (bd (m_X3_takeOver 16 7 M) fun _ M5 => if x4 = (1) then (bd (m_X3_changeKind 16 x3 x7 M5) fun _ M6 => m_X4_allSo_J87 w n6 x2 x3 x4 x5 x6 x7 M6) else (if x4 = (2) then (bd (m_X3_changeNumber 16 x3 x7 M5) fun _ M7 => m_X4_allSo_J87 w n6 x2 x3 x4 x5 x6 x7 M7) else (lt1 (up M5 16 3 x7) fun M8 => m_X4_allSo_J87 w n6 x2 x3 x4 x5 x6 x7 M8)))
def m_X4_allSo_L6 (w : Nat) : Nat → Int32 → Int32 → Int32 → Int32 → Int32 → Int32 → Mm → Option (Int32 × Mm)
  | 0 => fun _ _ _ _ _ _ _ => none
  | n + 1 => m_X4_allSo_B6 w (m_X4_allSo_L6 w n)
def m_X4_allSo (w : Nat) (x2 : Int32) (x3 : Int32) (x4 : Int32) (x5 : Int32) (M : Mm) : Option (Int32 × Mm) := lt1 ((0 : Int32)) fun y9 => lt1 ((0 : Int32)) fun y10 => m_X4_allSo_L6 w FU x2 x3 x4 x5 y9 y10 M
set_option maxRecDepth 100000 in
set_option maxHeartbeats 4000000 in
theorem v_X4_allSo_J109 {X : Cx} {G : Gx} {sh : List Sh} (hF : FX X G sh 8 cX4_allSo (yX4_allSo).cls (some .int) rmX4_allSo) {w : Nat} (hs : TopAt sh) (hw : SheAt sh w) (n6 : Int32 → Int32 → Int32 → Int32 → Int32 → Int32 → Mm → Option (Int32 × Mm)) (h6 : ∀ (x2 : Int32) (x3 : Int32) (x4 : Int32) (x5 : Int32) (x6 : Int32) (x7 : Int32) (M : Mm), VR X G sh 8 rvI M 6 [(0, .ref (G.2.2.2.2 0)), (1, .ref (G.2.2.2.2 w)), (2, .int x2), (3, .int x3), (4, .int x4), (5, .int x5), (6, .int x6), (7, .int x7)] [] (n6 x2 x3 x4 x5 x6 x7 M)) : ∀ (x2 : Int32) (x3 : Int32) (x4 : Int32) (x5 : Int32) (x6 : Int32) (x7 : Int32) (M : Mm), VR X G sh 8 rvI M 109 [(0, .ref (G.2.2.2.2 0)), (1, .ref (G.2.2.2.2 w)), (2, .int x2), (3, .int x3), (4, .int x4), (5, .int x5), (6, .int x6), (7, .int x7)] [] (m_X4_allSo_J109 w n6 x2 x3 x4 x5 x6 x7 M) := by
  intro x2 x3 x4 x5 x6 x7 M
  unfold m_X4_allSo_J109
  refine v_iinc (v := (x7 + 1)) (lo' := fun y1 => [(7, .int y1), (0, .ref (G.2.2.2.2 0)), (1, .ref (G.2.2.2.2 w)), (2, .int x2), (3, .int x3), (4, .int x4), (5, .int x5), (6, .int x6)]) 7 112 hF dX4_allSo_109 rfl rfl rfl (by decide) (fun _ => rfl) (fun y1 => ?_)
  refine v_goto 6 hF dX4_allSo_112 (by decide) ?_
  refine VR.pick [1, 2, 3, 4, 5, 6, 7, 0] rfl ?_
  exact h6 x2 x3 x4 x5 x6 y1 M
set_option maxRecDepth 100000 in
set_option maxHeartbeats 4000000 in
theorem v_X4_allSo_J87 {X : Cx} {G : Gx} {sh : List Sh} (hF : FX X G sh 8 cX4_allSo (yX4_allSo).cls (some .int) rmX4_allSo) {w : Nat} (hs : TopAt sh) (hw : SheAt sh w) (n6 : Int32 → Int32 → Int32 → Int32 → Int32 → Int32 → Mm → Option (Int32 × Mm)) (h6 : ∀ (x2 : Int32) (x3 : Int32) (x4 : Int32) (x5 : Int32) (x6 : Int32) (x7 : Int32) (M : Mm), VR X G sh 8 rvI M 6 [(0, .ref (G.2.2.2.2 0)), (1, .ref (G.2.2.2.2 w)), (2, .int x2), (3, .int x3), (4, .int x4), (5, .int x5), (6, .int x6), (7, .int x7)] [] (n6 x2 x3 x4 x5 x6 x7 M)) : ∀ (x2 : Int32) (x3 : Int32) (x4 : Int32) (x5 : Int32) (x6 : Int32) (x7 : Int32) (M : Mm), VR X G sh 8 rvI M 87 [(0, .ref (G.2.2.2.2 0)), (1, .ref (G.2.2.2.2 w)), (2, .int x2), (3, .int x3), (4, .int x4), (5, .int x5), (6, .int x6), (7, .int x7)] [] (m_X4_allSo_J87 w n6 x2 x3 x4 x5 x6 x7 M) := by
  intro x2 x3 x4 x5 x6 x7 M
  unfold m_X4_allSo_J87
  refine v_aload_n 0 88 hF dX4_allSo_87 rfl rfl rfl ?_
  refine v_getR (b := 16) 91 hF dX4_allSo_88 rfl fl_X4_42 hs.1 rfl ?_
  refine v_aload_n 1 92 hF dX4_allSo_91 rfl rfl rfl ?_
  refine v_iload_n 2 93 hF dX4_allSo_92 rfl rfl rfl ?_
  refine v_callI ([.ref (G.2.2.2.2 w), .int x2]) ([]) 96 hF dX4_allSo_93 rfl cw_X4_236 rfl (hs.2.2.2.2.1.1) (c_X3_firstOtherwise (G := G) (hs.2.1) (hs.2.2.2.2.1) hw M x2) ⟨rfl, rfl, Nat.le_of_ble_eq_true rfl, Nat.le_of_ble_eq_true rfl⟩ rfl rfl (Nat.le_of_ble_eq_true rfl) (fun r3 M2 => ?_)
  refine v_iconst (-1) 97 hF dX4_allSo_96 rfl (by decide) ?_
  refine v_icmp_ne 100 109 hF dX4_allSo_97 rfl (by decide) (fun _ => ?_) (fun _ => ?_)
  · refine VR.pick [0, 1, 2, 3, 4, 5, 6, 7] rfl ?_
    exact v_X4_allSo_J109 hF hs hw _ h6 x2 x3 x4 x5 x6 x7 M2
  · refine v_iload 6 102 hF dX4_allSo_100 rfl rfl ?_
    refine v_iconst (1) 103 hF dX4_allSo_102 rfl (by decide) ?_
    refine v_iload 7 105 hF dX4_allSo_103 rfl rfl ?_
    refine v_ishl 106 hF dX4_allSo_105 rfl ?_
    refine v_ior 107 hF dX4_allSo_106 rfl ?_
    refine v_istore (lo' := fun y4 => [(6, .int y4), (0, .ref (G.2.2.2.2 0)), (1, .ref (G.2.2.2.2 w)), (2, .int x2), (3, .int x3), (4, .int x4), (5, .int x5), (7, .int x7)]) 109 hF dX4_allSo_107 rfl (by decide) (fun _ => rfl) (fun y4 => ?_)
    refine VR.pick [1, 2, 3, 4, 5, 6, 0, 7] rfl ?_
    exact v_X4_allSo_J109 hF hs hw _ h6 x2 x3 x4 x5 y4 x7 M2
set_option maxRecDepth 100000 in
set_option maxHeartbeats 4000000 in
theorem v_X4_allSo_B6 {X : Cx} {G : Gx} {sh : List Sh} (hF : FX X G sh 8 cX4_allSo (yX4_allSo).cls (some .int) rmX4_allSo) {w : Nat} (hs : TopAt sh) (hw : SheAt sh w) (n6 : Int32 → Int32 → Int32 → Int32 → Int32 → Int32 → Mm → Option (Int32 × Mm)) (h6 : ∀ (x2 : Int32) (x3 : Int32) (x4 : Int32) (x5 : Int32) (x6 : Int32) (x7 : Int32) (M : Mm), VR X G sh 8 rvI M 6 [(0, .ref (G.2.2.2.2 0)), (1, .ref (G.2.2.2.2 w)), (2, .int x2), (3, .int x3), (4, .int x4), (5, .int x5), (6, .int x6), (7, .int x7)] [] (n6 x2 x3 x4 x5 x6 x7 M)) : ∀ (x2 : Int32) (x3 : Int32) (x4 : Int32) (x5 : Int32) (x6 : Int32) (x7 : Int32) (M : Mm), VR X G sh 8 rvI M 6 [(0, .ref (G.2.2.2.2 0)), (1, .ref (G.2.2.2.2 w)), (2, .int x2), (3, .int x3), (4, .int x4), (5, .int x5), (6, .int x6), (7, .int x7)] [] (m_X4_allSo_B6 w n6 x2 x3 x4 x5 x6 x7 M) := by
  intro x2 x3 x4 x5 x6 x7 M
  unfold m_X4_allSo_B6
  refine v_iload 7 8 hF dX4_allSo_6 rfl rfl ?_
  refine v_iload 5 10 hF dX4_allSo_8 rfl rfl ?_
  refine v_icmp_ge 13 115 hF dX4_allSo_10 rfl (by decide) (fun _ => ?_) (fun _ => ?_)
  · refine v_iload 6 117 hF dX4_allSo_115 rfl rfl ?_
    exact v_iret hF dX4_allSo_117
  · refine v_aload_n 0 14 hF dX4_allSo_13 rfl rfl rfl ?_
    refine v_getR (b := 16) 17 hF dX4_allSo_14 rfl fl_X4_42 hs.1 rfl ?_
    refine v_aload_n 0 18 hF dX4_allSo_17 rfl rfl rfl ?_
    refine v_getR (b := 7) 21 hF dX4_allSo_18 rfl fl_X4_38 hs.1 rfl ?_
    refine v_callV ([.ref (G.2.2.2.2 7)]) ([]) 24 hF dX4_allSo_21 rfl cw_X4_167 rfl (hs.2.2.2.2.1.1) (c_X3_takeOver (G := G) (hs.2.1) (hs.2.2.2.2.1) (hs.2.2.2.1) M) ⟨rfl, rfl, Nat.le_of_ble_eq_true rfl, Nat.le_of_ble_eq_true rfl⟩ rfl rfl (Nat.le_of_ble_eq_true rfl) (fun _ M5 => ?_)
    refine v_iload 4 26 hF dX4_allSo_24 rfl rfl ?_
    refine v_ite (fun e1 => ?_) (fun n0 => ?_)
    · refine v_lks (26) 52 hF dX4_allSo_26 (by decide) (by rw [e1]; decide) (by decide) ?_
      refine v_aload_n 0 53 hF dX4_allSo_52 rfl rfl rfl ?_
      refine v_getR (b := 16) 56 hF dX4_allSo_53 rfl fl_X4_42 hs.1 rfl ?_
      refine v_iload_n 3 57 hF dX4_allSo_56 rfl rfl rfl ?_
      refine v_iload 7 59 hF dX4_allSo_57 rfl rfl ?_
      refine v_callV ([.int x3, .int x7]) ([]) 62 hF dX4_allSo_59 rfl cw_X4_265 rfl (hs.2.2.2.2.1.1) (c_X3_changeKind (G := G) (hs.2.1) (hs.2.2.2.2.1) M5 x3 x7) ⟨rfl, rfl, Nat.le_of_ble_eq_true rfl, Nat.le_of_ble_eq_true rfl⟩ rfl rfl (Nat.le_of_ble_eq_true rfl) (fun _ M6 => ?_)
      refine v_goto 87 hF dX4_allSo_62 (by decide) ?_
      refine VR.pick [0, 1, 2, 3, 4, 5, 6, 7] rfl ?_
      exact v_X4_allSo_J87 hF hs hw _ h6 x2 x3 x4 x5 x6 x7 M6
    · refine v_ite (fun e1 => ?_) (fun n1 => ?_)
      · refine v_lks (39) 65 hF dX4_allSo_26 (by decide) (by rw [e1]; decide) (by decide) ?_
        refine v_aload_n 0 66 hF dX4_allSo_65 rfl rfl rfl ?_
        refine v_getR (b := 16) 69 hF dX4_allSo_66 rfl fl_X4_42 hs.1 rfl ?_
        refine v_iload_n 3 70 hF dX4_allSo_69 rfl rfl rfl ?_
        refine v_iload 7 72 hF dX4_allSo_70 rfl rfl ?_
        refine v_callV ([.int x3, .int x7]) ([]) 75 hF dX4_allSo_72 rfl cw_X4_74 rfl (hs.2.2.2.2.1.1) (c_X3_changeNumber (G := G) (hs.2.1) (hs.2.2.2.2.1) M5 x3 x7) ⟨rfl, rfl, Nat.le_of_ble_eq_true rfl, Nat.le_of_ble_eq_true rfl⟩ rfl rfl (Nat.le_of_ble_eq_true rfl) (fun _ M7 => ?_)
        refine v_goto 87 hF dX4_allSo_75 (by decide) ?_
        refine VR.pick [0, 1, 2, 3, 4, 5, 6, 7] rfl ?_
        exact v_X4_allSo_J87 hF hs hw _ h6 x2 x3 x4 x5 x6 x7 M7
      · refine v_lks (52) 78 hF dX4_allSo_26 (by decide) ((lv_osw n0 (by decide)).trans ((lv_osw n1 (by decide)).trans rfl)) (by decide) ?_
        refine v_aload_n 0 79 hF dX4_allSo_78 rfl rfl rfl ?_
        refine v_getR (b := 16) 82 hF dX4_allSo_79 rfl fl_X4_42 hs.1 rfl ?_
        refine v_iload 7 84 hF dX4_allSo_82 rfl rfl ?_
        refine v_putI 87 hF dX4_allSo_84 rfl fl_X4_158 fp_X3_3 hs.2.2.2.2.1.1 rfl (fun M8 => ?_)
        refine VR.pick [0, 1, 2, 3, 4, 5, 6, 7] rfl ?_
        exact v_X4_allSo_J87 hF hs hw _ h6 x2 x3 x4 x5 x6 x7 M8
theorem v_X4_allSo_L6 {X : Cx} {G : Gx} {sh : List Sh} (hF : FX X G sh 8 cX4_allSo (yX4_allSo).cls (some .int) rmX4_allSo) {w : Nat} (hs : TopAt sh) (hw : SheAt sh w) : ∀ (n : Nat), ∀ (x2 : Int32) (x3 : Int32) (x4 : Int32) (x5 : Int32) (x6 : Int32) (x7 : Int32) (M : Mm), VR X G sh 8 rvI M 6 [(0, .ref (G.2.2.2.2 0)), (1, .ref (G.2.2.2.2 w)), (2, .int x2), (3, .int x3), (4, .int x4), (5, .int x5), (6, .int x6), (7, .int x7)] [] (m_X4_allSo_L6 w n x2 x3 x4 x5 x6 x7 M) := by
  intro n
  induction n with
  | zero => intro x2 x3 x4 x5 x6 x7 M; exact VR.none
  | succ n ih => exact v_X4_allSo_B6 hF hs hw _ ih
set_option maxRecDepth 100000 in
set_option maxHeartbeats 4000000 in
theorem c_X4_allSo {G : Gx} {sh : List Sh} {w : Nat} (hs : TopAt sh) (hw : SheAt sh w) (M : Mm) (x2 : Int32) (x3 : Int32) (x4 : Int32) (x5 : Int32) : CT yX4_allSo cX4_allSo 8 (some .int) rmX4_allSo G sh [.ref (G.2.2.2.2 0), .ref (G.2.2.2.2 w), .int x2, .int x3, .int x4, .int x5] rvI M (m_X4_allSo w x2 x3 x4 x5 M) := by
  refine CT.of (by decide +kernel) (Nat.le_of_ble_eq_true rfl) (fun X hF => ?_)
  show VR X G sh 8 rvI M 0 [(0, .ref (G.2.2.2.2 0)), (1, .ref (G.2.2.2.2 w)), (2, .int x2), (3, .int x3), (4, .int x4), (5, .int x5)] [] _
  unfold m_X4_allSo
  refine v_iconst (0) 1 hF dX4_allSo_0 rfl (by decide) ?_
  refine v_istore (lo' := fun y9 => [(6, .int y9), (0, .ref (G.2.2.2.2 0)), (1, .ref (G.2.2.2.2 w)), (2, .int x2), (3, .int x3), (4, .int x4), (5, .int x5)]) 3 hF dX4_allSo_1 rfl (by decide) (fun _ => rfl) (fun y9 => ?_)
  refine v_iconst (0) 4 hF dX4_allSo_3 rfl (by decide) ?_
  refine v_istore (lo' := fun y10 => [(7, .int y10), (6, .int y9), (0, .ref (G.2.2.2.2 0)), (1, .ref (G.2.2.2.2 w)), (2, .int x2), (3, .int x3), (4, .int x4), (5, .int x5)]) 6 hF dX4_allSo_4 rfl (by decide) (fun _ => rfl) (fun y10 => ?_)
  refine VR.pick [2, 3, 4, 5, 6, 7, 1, 0] rfl ?_
  exact v_X4_allSo_L6 hF hs hw FU x2 x3 x4 x5 y9 y10 M
abbrev rmX4_daysSo : Room := { frames := 6, cells := 0, slots := 0, locals := 144 }
def m_X4_daysSo_J56 (w : Nat) (n6 : Int32 → Int32 → Int32 → Int32 → Mm → Option (Int32 × Mm)) (x2 : Int32) (x3 : Int32) (x4 : Int32) (x5 : Int32) (M : Mm) : Option (Int32 × Mm) := lt1 (x5 + 1) fun y1 => n6 x2 x3 x4 y1 M
def m_X4_daysSo_B6 (w : Nat) (n6 : Int32 → Int32 → Int32 → Int32 → Mm → Option (Int32 × Mm)) (x2 : Int32) (x3 : Int32) (x4 : Int32) (x5 : Int32) (M : Mm) : Option (Int32 × Mm) := if (100 : Int32) ≤ x5 then (if x3 = 0 then (some (x4, M)) else (some ((-1 : Int32), M))) else (bd (m_X3_takeOver 16 7 M) fun _ M2 => lt1 (up M2 16 1 x5) fun M3 => bd (m_X3_firstOtherwise 16 w x2 M3) fun r5 M4 => if r5 = (-1 : Int32) then (if x3 = 0 then (lt1 (x4 + 1) fun y6 => m_X4_daysSo_J56 w n6 x2 x3 y6 x5 M4) else (some (x5, M4))) else (m_X4_daysSo_J56 w n6 x2 x3 x4 x5 M4))
def m_X4_daysSo_L6 (w : Nat) : Nat → Int32 → Int32 → Int32 → Int32 → Mm → Option (Int32 × Mm)
  | 0 => fun _ _ _ _ _ => none
  | n + 1 => m_X4_daysSo_B6 w (m_X4_daysSo_L6 w n)
def m_X4_daysSo (w : Nat) (x2 : Int32) (x3 : Int32) (M : Mm) : Option (Int32 × Mm) := lt1 ((0 : Int32)) fun y7 => lt1 ((0 : Int32)) fun y8 => m_X4_daysSo_L6 w FU x2 x3 y7 y8 M
set_option maxRecDepth 100000 in
set_option maxHeartbeats 4000000 in
theorem v_X4_daysSo_J56 {X : Cx} {G : Gx} {sh : List Sh} (hF : FX X G sh 6 cX4_daysSo (yX4_daysSo).cls (some .int) rmX4_daysSo) {w : Nat} (hs : TopAt sh) (hw : SheAt sh w) (n6 : Int32 → Int32 → Int32 → Int32 → Mm → Option (Int32 × Mm)) (h6 : ∀ (x2 : Int32) (x3 : Int32) (x4 : Int32) (x5 : Int32) (M : Mm), VR X G sh 6 rvI M 6 [(0, .ref (G.2.2.2.2 0)), (1, .ref (G.2.2.2.2 w)), (2, .int x2), (3, .int x3), (4, .int x4), (5, .int x5)] [] (n6 x2 x3 x4 x5 M)) : ∀ (x2 : Int32) (x3 : Int32) (x4 : Int32) (x5 : Int32) (M : Mm), VR X G sh 6 rvI M 56 [(0, .ref (G.2.2.2.2 0)), (1, .ref (G.2.2.2.2 w)), (2, .int x2), (3, .int x3), (4, .int x4), (5, .int x5)] [] (m_X4_daysSo_J56 w n6 x2 x3 x4 x5 M) := by
  intro x2 x3 x4 x5 M
  unfold m_X4_daysSo_J56
  refine v_iinc (v := (x5 + 1)) (lo' := fun y1 => [(5, .int y1), (0, .ref (G.2.2.2.2 0)), (1, .ref (G.2.2.2.2 w)), (2, .int x2), (3, .int x3), (4, .int x4)]) 5 59 hF dX4_daysSo_56 rfl rfl rfl (by decide) (fun _ => rfl) (fun y1 => ?_)
  refine v_goto 6 hF dX4_daysSo_59 (by decide) ?_
  refine VR.pick [1, 2, 3, 4, 5, 0] rfl ?_
  exact h6 x2 x3 x4 y1 M
set_option maxRecDepth 100000 in
set_option maxHeartbeats 4000000 in
theorem v_X4_daysSo_B6 {X : Cx} {G : Gx} {sh : List Sh} (hF : FX X G sh 6 cX4_daysSo (yX4_daysSo).cls (some .int) rmX4_daysSo) {w : Nat} (hs : TopAt sh) (hw : SheAt sh w) (n6 : Int32 → Int32 → Int32 → Int32 → Mm → Option (Int32 × Mm)) (h6 : ∀ (x2 : Int32) (x3 : Int32) (x4 : Int32) (x5 : Int32) (M : Mm), VR X G sh 6 rvI M 6 [(0, .ref (G.2.2.2.2 0)), (1, .ref (G.2.2.2.2 w)), (2, .int x2), (3, .int x3), (4, .int x4), (5, .int x5)] [] (n6 x2 x3 x4 x5 M)) : ∀ (x2 : Int32) (x3 : Int32) (x4 : Int32) (x5 : Int32) (M : Mm), VR X G sh 6 rvI M 6 [(0, .ref (G.2.2.2.2 0)), (1, .ref (G.2.2.2.2 w)), (2, .int x2), (3, .int x3), (4, .int x4), (5, .int x5)] [] (m_X4_daysSo_B6 w n6 x2 x3 x4 x5 M) := by
  intro x2 x3 x4 x5 M
  unfold m_X4_daysSo_B6
  refine v_iload 5 8 hF dX4_daysSo_6 rfl rfl ?_
  refine v_bipush (100) 10 hF dX4_daysSo_8 rfl (by decide) ?_
  refine v_icmp_ge 13 62 hF dX4_daysSo_10 rfl (by decide) (fun _ => ?_) (fun _ => ?_)
  · refine v_iload_n 3 63 hF dX4_daysSo_62 rfl rfl rfl ?_
    refine v_if_eq 66 70 hF dX4_daysSo_63 rfl (by decide) (fun _ => ?_) (fun _ => ?_)
    · refine v_iload 4 72 hF dX4_daysSo_70 rfl rfl ?_
      exact v_iret hF dX4_daysSo_72
    · refine v_iconst (-1) 67 hF dX4_daysSo_66 rfl (by decide) ?_
      refine v_goto 72 hF dX4_daysSo_67 (by decide) ?_
      exact v_iret hF dX4_daysSo_72
  · refine v_aload_n 0 14 hF dX4_daysSo_13 rfl rfl rfl ?_
    refine v_getR (b := 16) 17 hF dX4_daysSo_14 rfl fl_X4_42 hs.1 rfl ?_
    refine v_aload_n 0 18 hF dX4_daysSo_17 rfl rfl rfl ?_
    refine v_getR (b := 7) 21 hF dX4_daysSo_18 rfl fl_X4_38 hs.1 rfl ?_
    refine v_callV ([.ref (G.2.2.2.2 7)]) ([]) 24 hF dX4_daysSo_21 rfl cw_X4_167 rfl (hs.2.2.2.2.1.1) (c_X3_takeOver (G := G) (hs.2.1) (hs.2.2.2.2.1) (hs.2.2.2.1) M) ⟨rfl, rfl, Nat.le_of_ble_eq_true rfl, Nat.le_of_ble_eq_true rfl⟩ rfl rfl (Nat.le_of_ble_eq_true rfl) (fun _ M2 => ?_)
    refine v_aload_n 0 25 hF dX4_daysSo_24 rfl rfl rfl ?_
    refine v_getR (b := 16) 28 hF dX4_daysSo_25 rfl fl_X4_42 hs.1 rfl ?_
    refine v_iload 5 30 hF dX4_daysSo_28 rfl rfl ?_
    refine v_putI 33 hF dX4_daysSo_30 rfl fl_X4_67 fp_X3_1 hs.2.2.2.2.1.1 rfl (fun M3 => ?_)
    refine v_aload_n 0 34 hF dX4_daysSo_33 rfl rfl rfl ?_
    refine v_getR (b := 16) 37 hF dX4_daysSo_34 rfl fl_X4_42 hs.1 rfl ?_
    refine v_aload_n 1 38 hF dX4_daysSo_37 rfl rfl rfl ?_
    refine v_iload_n 2 39 hF dX4_daysSo_38 rfl rfl rfl ?_
    refine v_callI ([.ref (G.2.2.2.2 w), .int x2]) ([]) 42 hF dX4_daysSo_39 rfl cw_X4_236 rfl (hs.2.2.2.2.1.1) (c_X3_firstOtherwise (G := G) (hs.2.1) (hs.2.2.2.2.1) hw M3 x2) ⟨rfl, rfl, Nat.le_of_ble_eq_true rfl, Nat.le_of_ble_eq_true rfl⟩ rfl rfl (Nat.le_of_ble_eq_true rfl) (fun r5 M4 => ?_)
    refine v_iconst (-1) 43 hF dX4_daysSo_42 rfl (by decide) ?_
    refine v_icmp_ne 46 56 hF dX4_daysSo_43 rfl (by decide) (fun _ => ?_) (fun _ => ?_)
    · refine VR.pick [0, 1, 2, 3, 4, 5] rfl ?_
      exact v_X4_daysSo_J56 hF hs hw _ h6 x2 x3 x4 x5 M4
    · refine v_iload_n 3 47 hF dX4_daysSo_46 rfl rfl rfl ?_
      refine v_if_eq 50 53 hF dX4_daysSo_47 rfl (by decide) (fun _ => ?_) (fun _ => ?_)
      · refine v_iinc (v := (x4 + 1)) (lo' := fun y6 => [(4, .int y6), (0, .ref (G.2.2.2.2 0)), (1, .ref (G.2.2.2.2 w)), (2, .int x2), (3, .int x3), (5, .int x5)]) 4 56 hF dX4_daysSo_53 rfl rfl rfl (by decide) (fun _ => rfl) (fun y6 => ?_)
        refine VR.pick [1, 2, 3, 4, 0, 5] rfl ?_
        exact v_X4_daysSo_J56 hF hs hw _ h6 x2 x3 y6 x5 M4
      · refine v_iload 5 52 hF dX4_daysSo_50 rfl rfl ?_
        exact v_iret hF dX4_daysSo_52
theorem v_X4_daysSo_L6 {X : Cx} {G : Gx} {sh : List Sh} (hF : FX X G sh 6 cX4_daysSo (yX4_daysSo).cls (some .int) rmX4_daysSo) {w : Nat} (hs : TopAt sh) (hw : SheAt sh w) : ∀ (n : Nat), ∀ (x2 : Int32) (x3 : Int32) (x4 : Int32) (x5 : Int32) (M : Mm), VR X G sh 6 rvI M 6 [(0, .ref (G.2.2.2.2 0)), (1, .ref (G.2.2.2.2 w)), (2, .int x2), (3, .int x3), (4, .int x4), (5, .int x5)] [] (m_X4_daysSo_L6 w n x2 x3 x4 x5 M) := by
  intro n
  induction n with
  | zero => intro x2 x3 x4 x5 M; exact VR.none
  | succ n ih => exact v_X4_daysSo_B6 hF hs hw _ ih
set_option maxRecDepth 100000 in
set_option maxHeartbeats 4000000 in
theorem c_X4_daysSo {G : Gx} {sh : List Sh} {w : Nat} (hs : TopAt sh) (hw : SheAt sh w) (M : Mm) (x2 : Int32) (x3 : Int32) : CT yX4_daysSo cX4_daysSo 6 (some .int) rmX4_daysSo G sh [.ref (G.2.2.2.2 0), .ref (G.2.2.2.2 w), .int x2, .int x3] rvI M (m_X4_daysSo w x2 x3 M) := by
  refine CT.of (by decide +kernel) (Nat.le_of_ble_eq_true rfl) (fun X hF => ?_)
  show VR X G sh 6 rvI M 0 [(0, .ref (G.2.2.2.2 0)), (1, .ref (G.2.2.2.2 w)), (2, .int x2), (3, .int x3)] [] _
  unfold m_X4_daysSo
  refine v_iconst (0) 1 hF dX4_daysSo_0 rfl (by decide) ?_
  refine v_istore (lo' := fun y7 => [(4, .int y7), (0, .ref (G.2.2.2.2 0)), (1, .ref (G.2.2.2.2 w)), (2, .int x2), (3, .int x3)]) 3 hF dX4_daysSo_1 rfl (by decide) (fun _ => rfl) (fun y7 => ?_)
  refine v_iconst (0) 4 hF dX4_daysSo_3 rfl (by decide) ?_
  refine v_istore (lo' := fun y8 => [(5, .int y8), (4, .int y7), (0, .ref (G.2.2.2.2 0)), (1, .ref (G.2.2.2.2 w)), (2, .int x2), (3, .int x3)]) 6 hF dX4_daysSo_4 rfl (by decide) (fun _ => rfl) (fun y8 => ?_)
  refine VR.pick [2, 3, 4, 5, 1, 0] rfl ?_
  exact v_X4_daysSo_L6 hF hs hw FU x2 x3 y7 y8 M
abbrev rmX4_lettersSo : Room := { frames := 6, cells := 0, slots := 0, locals := 144 }
def m_X4_lettersSo_J45 (w : Nat) (n4 : Int32 → Int32 → Mm → Option (Int32 × Mm)) (x2 : Int32) (x3 : Int32) (M : Mm) : Option (Int32 × Mm) := lt1 (x3 + 1) fun y1 => n4 x2 y1 M
def m_X4_lettersSo_B4 (w : Nat) (n4 : Int32 → Int32 → Mm → Option (Int32 × Mm)) (x2 : Int32) (x3 : Int32) (M : Mm) : Option (Int32 × Mm) := if (M 7 5) ≤ x3 then (some (x2, M)) else (bd (m_X3_takeOver 16 7 M) fun _ M2 => bd (m_X3_firstOtherwise 16 w x3 M2) fun r4 M3 => if r4 = (-1 : Int32) then (lt1 ((x2 ||| (shl ((1 : Int32)) x3))) fun y5 => m_X4_lettersSo_J45 w n4 y5 x3 M3) else (m_X4_lettersSo_J45 w n4 x2 x3 M3))
def m_X4_lettersSo_L4 (w : Nat) : Nat → Int32 → Int32 → Mm → Option (Int32 × Mm)
  | 0 => fun _ _ _ => none
  | n + 1 => m_X4_lettersSo_B4 w (m_X4_lettersSo_L4 w n)
def m_X4_lettersSo (w : Nat)  (M : Mm) : Option (Int32 × Mm) := lt1 ((0 : Int32)) fun y6 => lt1 ((0 : Int32)) fun y7 => m_X4_lettersSo_L4 w FU y6 y7 M
set_option maxRecDepth 100000 in
set_option maxHeartbeats 4000000 in
theorem v_X4_lettersSo_J45 {X : Cx} {G : Gx} {sh : List Sh} (hF : FX X G sh 4 cX4_lettersSo (yX4_lettersSo).cls (some .int) rmX4_lettersSo) {w : Nat} (hs : TopAt sh) (hw : SheAt sh w) (n4 : Int32 → Int32 → Mm → Option (Int32 × Mm)) (h4 : ∀ (x2 : Int32) (x3 : Int32) (M : Mm), VR X G sh 4 rvI M 4 [(0, .ref (G.2.2.2.2 0)), (1, .ref (G.2.2.2.2 w)), (2, .int x2), (3, .int x3)] [] (n4 x2 x3 M)) : ∀ (x2 : Int32) (x3 : Int32) (M : Mm), VR X G sh 4 rvI M 45 [(0, .ref (G.2.2.2.2 0)), (1, .ref (G.2.2.2.2 w)), (2, .int x2), (3, .int x3)] [] (m_X4_lettersSo_J45 w n4 x2 x3 M) := by
  intro x2 x3 M
  unfold m_X4_lettersSo_J45
  refine v_iinc (v := (x3 + 1)) (lo' := fun y1 => [(3, .int y1), (0, .ref (G.2.2.2.2 0)), (1, .ref (G.2.2.2.2 w)), (2, .int x2)]) 3 48 hF dX4_lettersSo_45 rfl rfl rfl (by decide) (fun _ => rfl) (fun y1 => ?_)
  refine v_goto 4 hF dX4_lettersSo_48 (by decide) ?_
  refine VR.pick [1, 2, 3, 0] rfl ?_
  exact h4 x2 y1 M
set_option maxRecDepth 100000 in
set_option maxHeartbeats 4000000 in
theorem v_X4_lettersSo_B4 {X : Cx} {G : Gx} {sh : List Sh} (hF : FX X G sh 4 cX4_lettersSo (yX4_lettersSo).cls (some .int) rmX4_lettersSo) {w : Nat} (hs : TopAt sh) (hw : SheAt sh w) (n4 : Int32 → Int32 → Mm → Option (Int32 × Mm)) (h4 : ∀ (x2 : Int32) (x3 : Int32) (M : Mm), VR X G sh 4 rvI M 4 [(0, .ref (G.2.2.2.2 0)), (1, .ref (G.2.2.2.2 w)), (2, .int x2), (3, .int x3)] [] (n4 x2 x3 M)) : ∀ (x2 : Int32) (x3 : Int32) (M : Mm), VR X G sh 4 rvI M 4 [(0, .ref (G.2.2.2.2 0)), (1, .ref (G.2.2.2.2 w)), (2, .int x2), (3, .int x3)] [] (m_X4_lettersSo_B4 w n4 x2 x3 M) := by
  intro x2 x3 M
  unfold m_X4_lettersSo_B4
  refine v_iload_n 3 5 hF dX4_lettersSo_4 rfl rfl rfl ?_
  refine v_aload_n 0 6 hF dX4_lettersSo_5 rfl rfl rfl ?_
  refine v_getR (b := 7) 9 hF dX4_lettersSo_6 rfl fl_X4_38 hs.1 rfl ?_
  refine v_getI 12 hF dX4_lettersSo_9 rfl fl_X4_211 hs.2.2.2.1.1 rfl ?_
  refine v_icmp_ge 15 51 hF dX4_lettersSo_12 rfl (by decide) (fun _ => ?_) (fun _ => ?_)
  · refine v_iload_n 2 52 hF dX4_lettersSo_51 rfl rfl rfl ?_
    exact v_iret hF dX4_lettersSo_52
  · refine v_aload_n 0 16 hF dX4_lettersSo_15 rfl rfl rfl ?_
    refine v_getR (b := 16) 19 hF dX4_lettersSo_16 rfl fl_X4_42 hs.1 rfl ?_
    refine v_aload_n 0 20 hF dX4_lettersSo_19 rfl rfl rfl ?_
    refine v_getR (b := 7) 23 hF dX4_lettersSo_20 rfl fl_X4_38 hs.1 rfl ?_
    refine v_callV ([.ref (G.2.2.2.2 7)]) ([]) 26 hF dX4_lettersSo_23 rfl cw_X4_167 rfl (hs.2.2.2.2.1.1) (c_X3_takeOver (G := G) (hs.2.1) (hs.2.2.2.2.1) (hs.2.2.2.1) M) ⟨rfl, rfl, Nat.le_of_ble_eq_true rfl, Nat.le_of_ble_eq_true rfl⟩ rfl rfl (Nat.le_of_ble_eq_true rfl) (fun _ M2 => ?_)
    refine v_aload_n 0 27 hF dX4_lettersSo_26 rfl rfl rfl ?_
    refine v_getR (b := 16) 30 hF dX4_lettersSo_27 rfl fl_X4_42 hs.1 rfl ?_
    refine v_aload_n 1 31 hF dX4_lettersSo_30 rfl rfl rfl ?_
    refine v_iload_n 3 32 hF dX4_lettersSo_31 rfl rfl rfl ?_
    refine v_callI ([.ref (G.2.2.2.2 w), .int x3]) ([]) 35 hF dX4_lettersSo_32 rfl cw_X4_236 rfl (hs.2.2.2.2.1.1) (c_X3_firstOtherwise (G := G) (hs.2.1) (hs.2.2.2.2.1) hw M2 x3) ⟨rfl, rfl, Nat.le_of_ble_eq_true rfl, Nat.le_of_ble_eq_true rfl⟩ rfl rfl (Nat.le_of_ble_eq_true rfl) (fun r4 M3 => ?_)
    refine v_iconst (-1) 36 hF dX4_lettersSo_35 rfl (by decide) ?_
    refine v_icmp_ne 39 45 hF dX4_lettersSo_36 rfl (by decide) (fun _ => ?_) (fun _ => ?_)
    · refine VR.pick [0, 1, 2, 3] rfl ?_
      exact v_X4_lettersSo_J45 hF hs hw _ h4 x2 x3 M3
    · refine v_iload_n 2 40 hF dX4_lettersSo_39 rfl rfl rfl ?_
      refine v_iconst (1) 41 hF dX4_lettersSo_40 rfl (by decide) ?_
      refine v_iload_n 3 42 hF dX4_lettersSo_41 rfl rfl rfl ?_
      refine v_ishl 43 hF dX4_lettersSo_42 rfl ?_
      refine v_ior 44 hF dX4_lettersSo_43 rfl ?_
      refine v_istore_n (lo' := fun y5 => [(2, .int y5), (0, .ref (G.2.2.2.2 0)), (1, .ref (G.2.2.2.2 w)), (3, .int x3)]) 45 hF dX4_lettersSo_44 rfl rfl (by decide) (fun _ => rfl) (fun y5 => ?_)
      refine VR.pick [1, 2, 0, 3] rfl ?_
      exact v_X4_lettersSo_J45 hF hs hw _ h4 y5 x3 M3
theorem v_X4_lettersSo_L4 {X : Cx} {G : Gx} {sh : List Sh} (hF : FX X G sh 4 cX4_lettersSo (yX4_lettersSo).cls (some .int) rmX4_lettersSo) {w : Nat} (hs : TopAt sh) (hw : SheAt sh w) : ∀ (n : Nat), ∀ (x2 : Int32) (x3 : Int32) (M : Mm), VR X G sh 4 rvI M 4 [(0, .ref (G.2.2.2.2 0)), (1, .ref (G.2.2.2.2 w)), (2, .int x2), (3, .int x3)] [] (m_X4_lettersSo_L4 w n x2 x3 M) := by
  intro n
  induction n with
  | zero => intro x2 x3 M; exact VR.none
  | succ n ih => exact v_X4_lettersSo_B4 hF hs hw _ ih
set_option maxRecDepth 100000 in
set_option maxHeartbeats 4000000 in
theorem c_X4_lettersSo {G : Gx} {sh : List Sh} {w : Nat} (hs : TopAt sh) (hw : SheAt sh w) (M : Mm)  : CT yX4_lettersSo cX4_lettersSo 4 (some .int) rmX4_lettersSo G sh [.ref (G.2.2.2.2 0), .ref (G.2.2.2.2 w)] rvI M (m_X4_lettersSo w  M) := by
  refine CT.of (by decide +kernel) (Nat.le_of_ble_eq_true rfl) (fun X hF => ?_)
  show VR X G sh 4 rvI M 0 [(0, .ref (G.2.2.2.2 0)), (1, .ref (G.2.2.2.2 w))] [] _
  unfold m_X4_lettersSo
  refine v_iconst (0) 1 hF dX4_lettersSo_0 rfl (by decide) ?_
  refine v_istore_n (lo' := fun y6 => [(2, .int y6), (0, .ref (G.2.2.2.2 0)), (1, .ref (G.2.2.2.2 w))]) 2 hF dX4_lettersSo_1 rfl rfl (by decide) (fun _ => rfl) (fun y6 => ?_)
  refine v_iconst (0) 3 hF dX4_lettersSo_2 rfl (by decide) ?_
  refine v_istore_n (lo' := fun y7 => [(3, .int y7), (2, .int y6), (0, .ref (G.2.2.2.2 0)), (1, .ref (G.2.2.2.2 w))]) 4 hF dX4_lettersSo_3 rfl rfl (by decide) (fun _ => rfl) (fun y7 => ?_)
  refine VR.pick [2, 3, 1, 0] rfl ?_
  exact v_X4_lettersSo_L4 hF hs hw FU y6 y7 M
abbrev rmX4_sheetNumbered : Room := { frames := 0, cells := 0, slots := 0, locals := 0 }
def m_X4_sheetNumbered_J22  (M : Mm) : Option (Option Nat × Mm) := some (none, M)
def m_X4_sheetNumbered (x1 : Int32) (M : Mm) : Option (Option Nat × Mm) := if x1 < 0 then (m_X4_sheetNumbered_J22 M) else (if (4 : Int32) ≤ x1 then (m_X4_sheetNumbered_J22 M) else (gd (inr x1 4) (some (some (36 + 2 * x1.toNatClampNeg), M))))
set_option maxRecDepth 100000 in
set_option maxHeartbeats 4000000 in
theorem v_X4_sheetNumbered_J22 {X : Cx} {G : Gx} {sh : List Sh} (hF : FX X G sh 2 cX4_sheetNumbered (yX4_sheetNumbered).cls (some (.object "NextHouseUp$Sheet")) rmX4_sheetNumbered) (hs : TopAt sh) : ∀ (M : Mm), VR X G sh 2 (rvR G) M 22 [(0, .ref (G.2.2.2.2 0))] [] (m_X4_sheetNumbered_J22   M) := by
  intro  M
  unfold m_X4_sheetNumbered_J22
  refine v_null 23 hF dX4_sheetNumbered_22 rfl ?_
  exact v_aretN hF dX4_sheetNumbered_23
set_option maxRecDepth 100000 in
set_option maxHeartbeats 4000000 in
theorem c_X4_sheetNumbered {G : Gx} {sh : List Sh} (hs : TopAt sh) (M : Mm) (x1 : Int32) : CT yX4_sheetNumbered cX4_sheetNumbered 2 (some (.object "NextHouseUp$Sheet")) rmX4_sheetNumbered G sh [.ref (G.2.2.2.2 0), .int x1] (rvR G) M (m_X4_sheetNumbered  x1 M) := by
  refine CT.of (by decide +kernel) (Nat.le_of_ble_eq_true rfl) (fun X hF => ?_)
  show VR X G sh 2 (rvR G) M 0 [(0, .ref (G.2.2.2.2 0)), (1, .int x1)] [] _
  unfold m_X4_sheetNumbered
  refine v_iload_n 1 1 hF dX4_sheetNumbered_0 rfl rfl rfl ?_
  refine v_if_lt 4 22 hF dX4_sheetNumbered_1 rfl (by decide) (fun _ => ?_) (fun _ => ?_)
  · refine VR.pick [0] rfl ?_
    exact v_X4_sheetNumbered_J22 hF hs M
  · refine v_iload_n 1 5 hF dX4_sheetNumbered_4 rfl rfl rfl ?_
    refine v_aload_n 0 6 hF dX4_sheetNumbered_5 rfl rfl rfl ?_
    refine v_getR (b := 35) 9 hF dX4_sheetNumbered_6 rfl fl_X4_54 hs.1 rfl ?_
    refine v_alen 4 10 hF dX4_sheetNumbered_9 rfl (hs.2.2.2.2.2.2.2.1) (Or.inr ⟨_, rfl⟩) (by decide) ?_
    refine v_icmp_ge 13 22 hF dX4_sheetNumbered_10 rfl (by decide) (fun _ => ?_) (fun _ => ?_)
    · refine VR.pick [0] rfl ?_
      exact v_X4_sheetNumbered_J22 hF hs M
    · refine v_aload_n 0 14 hF dX4_sheetNumbered_13 rfl rfl rfl ?_
      refine v_getR (b := 35) 17 hF dX4_sheetNumbered_14 rfl fl_X4_54 hs.1 rfl ?_
      refine v_iload_n 1 18 hF dX4_sheetNumbered_17 rfl rfl rfl ?_
      refine v_aald (b := 36) 19 hF dX4_sheetNumbered_18 rfl (hs.2.2.2.2.2.2.2.1) ?_
      refine v_goto 23 hF dX4_sheetNumbered_19 (by decide) ?_
      exact v_aretR hF dX4_sheetNumbered_23
abbrev rmX4_tells : Room := { frames := 7, cells := 0, slots := 0, locals := 171 }
def m_X4_tells (x1 : Int32) (x2 : Int32) (x3 : Int32) (x4 : Int32) (M : Mm) : Option (Int32 × Mm) := bd (m_X4_sheetNumbered x1 M) (rcase (fun M1 => some ((-2 : Int32), M1)) (fun a2 M1 => gd (isShe a2) (bd (m_X3_isLetter 7 x2 M1) fun r3 M2 => if r3 = 0 then (some ((-2 : Int32), M2)) else (bd (m_X3_isOne 7 x3 M2) fun r5 M4 => if r5 = 0 then (some ((-2 : Int32), M4)) else (if x4 < 0 then (some ((-2 : Int32), M4)) else (if x4 ≤ (6 : Int32) then (bd (m_X0_isMissing a2 M4) fun r7 M6 => if r7 = 0 then (if (M6 a2 1) ≤ (20 : Int32) then (if x4 = (0) then (bd (m_X3_takeOver 16 7 M6) fun _ M8 => bd (m_X3_firstOtherwise 16 a2 x2 M8) fun r10 M9 => some (r10, M9)) else (if x4 = (1) then (bd (m_X4_allSo a2 x2 x3 x4 ((6 : Int32)) M6) fun r12 M11 => some (r12, M11)) else (if x4 = (2) then (bd (m_X4_allSo a2 x2 x3 x4 ((10 : Int32)) M6) fun r14 M13 => some (r14, M13)) else (if x4 = (3) then (bd (m_X4_daysSo a2 x2 ((0 : Int32)) M6) fun r16 M15 => some (r16, M15)) else (if x4 = (4) then (bd (m_X4_daysSo a2 x2 ((1 : Int32)) M6) fun r18 M17 => some (r18, M17)) else (if x4 = (5) then (bd (m_X4_allSo a2 x2 x3 x4 ((M6 1 0)) M6) fun r20 M19 => some (r20, M19)) else (bd (m_X4_lettersSo a2 M6) fun r22 M21 => some (r22, M21)))))))) else (some ((-2 : Int32), M6))) else (some ((-11 : Int32), M6))) else (some ((-2 : Int32), M4))))))))
set_option maxRecDepth 100000 in
set_option maxHeartbeats 4000000 in
theorem c_X4_tells {G : Gx} {sh : List Sh} (hs : TopAt sh) (M : Mm) (x1 : Int32) (x2 : Int32) (x3 : Int32) (x4 : Int32) : CT yX4_tells cX4_tells 6 (some .int) rmX4_tells G sh [.ref (G.2.2.2.2 0), .int x1, .int x2, .int x3, .int x4] rvI M (m_X4_tells  x1 x2 x3 x4 M) := by
  refine CT.of (by decide +kernel) (Nat.le_of_ble_eq_true rfl) (fun X hF => ?_)
  show VR X G sh 6 rvI M 0 [(0, .ref (G.2.2.2.2 0)), (1, .int x1), (2, .int x2), (3, .int x3), (4, .int x4)] [] _
  unfold m_X4_tells
  refine v_aload_n 0 1 hF dX4_tells_0 rfl rfl rfl ?_
  refine v_iload_n 1 2 hF dX4_tells_1 rfl rfl rfl ?_
  refine v_callR ([.int x1]) ([]) 5 hF dX4_tells_2 rfl cw_X4_228 rfl (hs.1) (c_X4_sheetNumbered (G := G) hs M x1) ⟨rfl, rfl, Nat.le_of_ble_eq_true rfl, Nat.le_of_ble_eq_true rfl⟩ rfl rfl (Nat.le_of_ble_eq_true rfl) (fun M1 => ?_) (fun a2 M1 => v_gd (fun ha2 => ?_))
  · refine v_astoreN (lo' := [(5, .null), (0, .ref (G.2.2.2.2 0)), (1, .int x1), (2, .int x2), (3, .int x3), (4, .int x4)]) 7 hF dX4_tells_5 rfl (by decide) rfl ?_
    refine v_aloadN 0 9 hF dX4_tells_7 rfl rfl ?_
    refine v_ifnullN 46 hF dX4_tells_9 (by decide) ?_
    refine v_bipush (-2) 48 hF dX4_tells_46 rfl (by decide) ?_
    exact v_iret hF dX4_tells_48
  · have ha2 := she_of hs ha2
    refine v_astore (lo' := [(5, .ref (G.2.2.2.2 a2)), (0, .ref (G.2.2.2.2 0)), (1, .int x1), (2, .int x2), (3, .int x3), (4, .int x4)]) 7 hF dX4_tells_5 rfl (by decide) rfl ?_
    refine v_aload 0 9 hF dX4_tells_7 rfl rfl ?_
    refine v_ifnullR 12 hF dX4_tells_9 rfl ?_
    refine v_aload_n 1 13 hF dX4_tells_12 rfl rfl rfl ?_
    refine v_getR (b := 7) 16 hF dX4_tells_13 rfl fl_X4_38 hs.1 rfl ?_
    refine v_iload_n 3 17 hF dX4_tells_16 rfl rfl rfl ?_
    refine v_callI ([.int x2]) ([]) 20 hF dX4_tells_17 rfl cw_X4_98 rfl (hs.2.2.2.1.1) (c_X3_isLetter (G := G) (hs.2.1) (hs.2.2.2.1) M1 x2) ⟨rfl, rfl, Nat.le_of_ble_eq_true rfl, Nat.le_of_ble_eq_true rfl⟩ rfl rfl (Nat.le_of_ble_eq_true rfl) (fun r3 M2 => ?_)
    refine v_if_eq 23 46 hF dX4_tells_20 rfl (by decide) (fun _ => ?_) (fun _ => ?_)
    · refine v_bipush (-2) 48 hF dX4_tells_46 rfl (by decide) ?_
      exact v_iret hF dX4_tells_48
    · refine v_aload_n 1 24 hF dX4_tells_23 rfl rfl rfl ?_
      refine v_getR (b := 7) 27 hF dX4_tells_24 rfl fl_X4_38 hs.1 rfl ?_
      refine v_iload_n 4 28 hF dX4_tells_27 rfl rfl rfl ?_
      refine v_callI ([.int x3]) ([]) 31 hF dX4_tells_28 rfl cw_X4_105 rfl (hs.2.2.2.1.1) (c_X3_isOne (G := G) (hs.2.1) (hs.2.2.2.1) M2 x3) ⟨rfl, rfl, Nat.le_of_ble_eq_true rfl, Nat.le_of_ble_eq_true rfl⟩ rfl rfl (Nat.le_of_ble_eq_true rfl) (fun r5 M4 => ?_)
      refine v_if_eq 34 46 hF dX4_tells_31 rfl (by decide) (fun _ => ?_) (fun _ => ?_)
      · refine v_bipush (-2) 48 hF dX4_tells_46 rfl (by decide) ?_
        exact v_iret hF dX4_tells_48
      · refine v_iload 5 36 hF dX4_tells_34 rfl rfl ?_
        refine v_if_lt 39 46 hF dX4_tells_36 rfl (by decide) (fun _ => ?_) (fun _ => ?_)
        · refine v_bipush (-2) 48 hF dX4_tells_46 rfl (by decide) ?_
          exact v_iret hF dX4_tells_48
        · refine v_iload 5 41 hF dX4_tells_39 rfl rfl ?_
          refine v_bipush (6) 43 hF dX4_tells_41 rfl (by decide) ?_
          refine v_icmp_le 46 49 hF dX4_tells_43 rfl (by decide) (fun _ => ?_) (fun _ => ?_)
          · refine v_aload 0 51 hF dX4_tells_49 rfl rfl ?_
            refine v_callI ([]) ([]) 54 hF dX4_tells_51 rfl cw_X4_232 rfl (ha2.1) (c_X0_isMissing (G := G) ha2 M4) ⟨rfl, rfl, Nat.le_of_ble_eq_true rfl, Nat.le_of_ble_eq_true rfl⟩ rfl rfl (Nat.le_of_ble_eq_true rfl) (fun r7 M6 => ?_)
            refine v_if_eq 57 60 hF dX4_tells_54 rfl (by decide) (fun _ => ?_) (fun _ => ?_)
            · refine v_aload 0 62 hF dX4_tells_60 rfl rfl ?_
              refine v_getI 65 hF dX4_tells_62 rfl fl_X4_235 ha2.1 rfl ?_
              refine v_bipush (20) 67 hF dX4_tells_65 rfl (by decide) ?_
              refine v_icmp_le 70 73 hF dX4_tells_67 rfl (by decide) (fun _ => ?_) (fun _ => ?_)
              · refine v_iload 5 75 hF dX4_tells_73 rfl rfl ?_
                refine v_ite (fun e1 => ?_) (fun n0 => ?_)
                · refine v_tsIn (0) (37) 112 hF dX4_tells_75 e1 (by decide) rfl (by decide) ?_
                  refine v_aload_n 1 113 hF dX4_tells_112 rfl rfl rfl ?_
                  refine v_getR (b := 16) 116 hF dX4_tells_113 rfl fl_X4_42 hs.1 rfl ?_
                  refine v_aload_n 1 117 hF dX4_tells_116 rfl rfl rfl ?_
                  refine v_getR (b := 7) 120 hF dX4_tells_117 rfl fl_X4_38 hs.1 rfl ?_
                  refine v_callV ([.ref (G.2.2.2.2 7)]) ([]) 123 hF dX4_tells_120 rfl cw_X4_167 rfl (hs.2.2.2.2.1.1) (c_X3_takeOver (G := G) (hs.2.1) (hs.2.2.2.2.1) (hs.2.2.2.1) M6) ⟨rfl, rfl, Nat.le_of_ble_eq_true rfl, Nat.le_of_ble_eq_true rfl⟩ rfl rfl (Nat.le_of_ble_eq_true rfl) (fun _ M8 => ?_)
                  refine v_aload_n 1 124 hF dX4_tells_123 rfl rfl rfl ?_
                  refine v_getR (b := 16) 127 hF dX4_tells_124 rfl fl_X4_42 hs.1 rfl ?_
                  refine v_aload 0 129 hF dX4_tells_127 rfl rfl ?_
                  refine v_iload_n 3 130 hF dX4_tells_129 rfl rfl rfl ?_
                  refine v_callI ([.ref (G.2.2.2.2 a2), .int x2]) ([]) 133 hF dX4_tells_130 rfl cw_X4_236 rfl (hs.2.2.2.2.1.1) (c_X3_firstOtherwise (G := G) (hs.2.1) (hs.2.2.2.2.1) ha2 M8 x2) ⟨rfl, rfl, Nat.le_of_ble_eq_true rfl, Nat.le_of_ble_eq_true rfl⟩ rfl rfl (Nat.le_of_ble_eq_true rfl) (fun r10 M9 => ?_)
                  exact v_iret hF dX4_tells_133
                · refine v_ite (fun e1 => ?_) (fun n1 => ?_)
                  · refine v_tsIn (1) (59) 134 hF dX4_tells_75 e1 (by decide) rfl (by decide) ?_
                    refine v_aload_n 1 135 hF dX4_tells_134 rfl rfl rfl ?_
                    refine v_aload 0 137 hF dX4_tells_135 rfl rfl ?_
                    refine v_iload_n 3 138 hF dX4_tells_137 rfl rfl rfl ?_
                    refine v_iload_n 4 139 hF dX4_tells_138 rfl rfl rfl ?_
                    refine v_iload 5 141 hF dX4_tells_139 rfl rfl ?_
                    refine v_bipush (6) 143 hF dX4_tells_141 rfl (by decide) ?_
                    refine v_callI ([.ref (G.2.2.2.2 a2), .int x2, .int x3, .int x4, .int ((6 : Int32))]) ([]) 146 hF dX4_tells_143 rfl cw_X4_240 rfl (hs.1) (c_X4_allSo (G := G) hs ha2 M6 x2 x3 x4 ((6 : Int32))) ⟨rfl, rfl, Nat.le_of_ble_eq_true rfl, Nat.le_of_ble_eq_true rfl⟩ rfl rfl (Nat.le_of_ble_eq_true rfl) (fun r12 M11 => ?_)
                    exact v_iret hF dX4_tells_146
                  · refine v_ite (fun e1 => ?_) (fun n2 => ?_)
                    · refine v_tsIn (2) (72) 147 hF dX4_tells_75 e1 (by decide) rfl (by decide) ?_
                      refine v_aload_n 1 148 hF dX4_tells_147 rfl rfl rfl ?_
                      refine v_aload 0 150 hF dX4_tells_148 rfl rfl ?_
                      refine v_iload_n 3 151 hF dX4_tells_150 rfl rfl rfl ?_
                      refine v_iload_n 4 152 hF dX4_tells_151 rfl rfl rfl ?_
                      refine v_iload 5 154 hF dX4_tells_152 rfl rfl ?_
                      refine v_bipush (10) 156 hF dX4_tells_154 rfl (by decide) ?_
                      refine v_callI ([.ref (G.2.2.2.2 a2), .int x2, .int x3, .int x4, .int ((10 : Int32))]) ([]) 159 hF dX4_tells_156 rfl cw_X4_240 rfl (hs.1) (c_X4_allSo (G := G) hs ha2 M6 x2 x3 x4 ((10 : Int32))) ⟨rfl, rfl, Nat.le_of_ble_eq_true rfl, Nat.le_of_ble_eq_true rfl⟩ rfl rfl (Nat.le_of_ble_eq_true rfl) (fun r14 M13 => ?_)
                      exact v_iret hF dX4_tells_159
                    · refine v_ite (fun e1 => ?_) (fun n3 => ?_)
                      · refine v_tsIn (3) (85) 160 hF dX4_tells_75 e1 (by decide) rfl (by decide) ?_
                        refine v_aload_n 1 161 hF dX4_tells_160 rfl rfl rfl ?_
                        refine v_aload 0 163 hF dX4_tells_161 rfl rfl ?_
                        refine v_iload_n 3 164 hF dX4_tells_163 rfl rfl rfl ?_
                        refine v_iconst (0) 165 hF dX4_tells_164 rfl (by decide) ?_
                        refine v_callI ([.ref (G.2.2.2.2 a2), .int x2, .int ((0 : Int32))]) ([]) 168 hF dX4_tells_165 rfl cw_X4_244 rfl (hs.1) (c_X4_daysSo (G := G) hs ha2 M6 x2 ((0 : Int32))) ⟨rfl, rfl, Nat.le_of_ble_eq_true rfl, Nat.le_of_ble_eq_true rfl⟩ rfl rfl (Nat.le_of_ble_eq_true rfl) (fun r16 M15 => ?_)
                        exact v_iret hF dX4_tells_168
                      · refine v_ite (fun e1 => ?_) (fun n4 => ?_)
                        · refine v_tsIn (4) (94) 169 hF dX4_tells_75 e1 (by decide) rfl (by decide) ?_
                          refine v_aload_n 1 170 hF dX4_tells_169 rfl rfl rfl ?_
                          refine v_aload 0 172 hF dX4_tells_170 rfl rfl ?_
                          refine v_iload_n 3 173 hF dX4_tells_172 rfl rfl rfl ?_
                          refine v_iconst (1) 174 hF dX4_tells_173 rfl (by decide) ?_
                          refine v_callI ([.ref (G.2.2.2.2 a2), .int x2, .int ((1 : Int32))]) ([]) 177 hF dX4_tells_174 rfl cw_X4_244 rfl (hs.1) (c_X4_daysSo (G := G) hs ha2 M6 x2 ((1 : Int32))) ⟨rfl, rfl, Nat.le_of_ble_eq_true rfl, Nat.le_of_ble_eq_true rfl⟩ rfl rfl (Nat.le_of_ble_eq_true rfl) (fun r18 M17 => ?_)
                          exact v_iret hF dX4_tells_177
                        · refine v_ite (fun e1 => ?_) (fun n5 => ?_)
                          · refine v_tsIn (5) (103) 178 hF dX4_tells_75 e1 (by decide) rfl (by decide) ?_
                            refine v_aload_n 1 179 hF dX4_tells_178 rfl rfl rfl ?_
                            refine v_aload 0 181 hF dX4_tells_179 rfl rfl ?_
                            refine v_iload_n 3 182 hF dX4_tells_181 rfl rfl rfl ?_
                            refine v_iload_n 4 183 hF dX4_tells_182 rfl rfl rfl ?_
                            refine v_iload 5 185 hF dX4_tells_183 rfl rfl ?_
                            refine v_aload_n 1 186 hF dX4_tells_185 rfl rfl rfl ?_
                            refine v_getR (b := 1) 189 hF dX4_tells_186 rfl fl_X4_10 hs.1 rfl ?_
                            refine v_getI 192 hF dX4_tells_189 rfl fl_X4_154 hs.2.1.1 rfl ?_
                            refine v_callI ([.ref (G.2.2.2.2 a2), .int x2, .int x3, .int x4, .int ((M6 1 0))]) ([]) 195 hF dX4_tells_192 rfl cw_X4_240 rfl (hs.1) (c_X4_allSo (G := G) hs ha2 M6 x2 x3 x4 ((M6 1 0))) ⟨rfl, rfl, Nat.le_of_ble_eq_true rfl, Nat.le_of_ble_eq_true rfl⟩ rfl rfl (Nat.le_of_ble_eq_true rfl) (fun r20 M19 => ?_)
                            exact v_iret hF dX4_tells_195
                          · refine v_tsOut 196 hF dX4_tells_75 (by have a0 := lv_neT n0 (a := (0)) (by decide); have a1 := lv_neT n1 (a := (1)) (by decide); have a2 := lv_neT n2 (a := (2)) (by decide); have a3 := lv_neT n3 (a := (3)) (by decide); have a4 := lv_neT n4 (a := (4)) (by decide); have a5 := lv_neT n5 (a := (5)) (by decide); omega) (by decide) ?_
                            refine v_aload_n 1 197 hF dX4_tells_196 rfl rfl rfl ?_
                            refine v_aload 0 199 hF dX4_tells_197 rfl rfl ?_
                            refine v_callI ([.ref (G.2.2.2.2 a2)]) ([]) 202 hF dX4_tells_199 rfl cw_X4_248 rfl (hs.1) (c_X4_lettersSo (G := G) hs ha2 M6) ⟨rfl, rfl, Nat.le_of_ble_eq_true rfl, Nat.le_of_ble_eq_true rfl⟩ rfl rfl (Nat.le_of_ble_eq_true rfl) (fun r22 M21 => ?_)
                            exact v_iret hF dX4_tells_202
              · refine v_bipush (-2) 72 hF dX4_tells_70 rfl (by decide) ?_
                exact v_iret hF dX4_tells_72
            · refine v_bipush (-11) 59 hF dX4_tells_57 rfl (by decide) ?_
              exact v_iret hF dX4_tells_59
          · refine v_bipush (-2) 48 hF dX4_tells_46 rfl (by decide) ?_
            exact v_iret hF dX4_tells_48
abbrev rmX4_film : Room := { frames := 6, cells := 0, slots := 0, locals := 142 }
def m_X4_film_B57 (a2 : Nat) (n57 : Int32 → Int32 → Int32 → Mm → Option (Int32 × Mm)) (x2 : Int32) (x3 : Int32) (x5 : Int32) (M : Mm) : Option (Int32 × Mm) := if x3 ≤ x5 then (some (x3, M)) else (bd (m_X3_passDayOf 16 x2 M) fun _ M1 => bd (m_X3_whereIs 16 x2 M1) fun r3 M2 => bd (m_X0_put a2 x5 r3 M2) fun _ M4 => lt1 (x5 + 1) fun y5 => n57 x2 x3 y5 M4)
def m_X4_film_L57 (a2 : Nat) : Nat → Int32 → Int32 → Int32 → Mm → Option (Int32 × Mm)
  | 0 => fun _ _ _ _ => none
  | n + 1 => m_X4_film_B57 a2 (m_X4_film_L57 a2 n)
def m_X4_film (x1 : Int32) (x2 : Int32) (x3 : Int32) (M : Mm) : Option (Int32 × Mm) := bd (m_X4_sheetNumbered x1 M) (rcase (fun M6 => some ((-2 : Int32), M6)) (fun a2 M6 => gd (isShe a2) (bd (m_X3_isLetter 7 x2 M6) fun r8 M7 => if r8 = 0 then (some ((-2 : Int32), M7)) else (if x3 < 0 then (some ((-2 : Int32), M7)) else (if x3 ≤ (20 : Int32) then (bd (m_X0_become a2 ((0 : Int32)) x3 M7) fun _ M9 => bd (m_X3_takeOver 16 7 M9) fun _ M10 => lt1 ((0 : Int32)) fun y11 => m_X4_film_L57 a2 FU x2 x3 y11 M10) else (some ((-2 : Int32), M7)))))))
set_option maxRecDepth 100000 in
set_option maxHeartbeats 4000000 in
theorem v_X4_film_B57 {X : Cx} {G : Gx} {sh : List Sh} (hF : FX X G sh 6 cX4_film (yX4_film).cls (some .int) rmX4_film) {a2 : Nat} (hs : TopAt sh) (ha2 : SheAt sh a2) (n57 : Int32 → Int32 → Int32 → Mm → Option (Int32 × Mm)) (h57 : ∀ (x2 : Int32) (x3 : Int32) (x5 : Int32) (M : Mm), VR X G sh 6 rvI M 57 [(0, .ref (G.2.2.2.2 0)), (2, .int x2), (3, .int x3), (4, .ref (G.2.2.2.2 a2)), (5, .int x5)] [] (n57 x2 x3 x5 M)) : ∀ (x2 : Int32) (x3 : Int32) (x5 : Int32) (M : Mm), VR X G sh 6 rvI M 57 [(0, .ref (G.2.2.2.2 0)), (2, .int x2), (3, .int x3), (4, .ref (G.2.2.2.2 a2)), (5, .int x5)] [] (m_X4_film_B57 a2 n57 x2 x3 x5 M) := by
  intro x2 x3 x5 M
  unfold m_X4_film_B57
  refine v_iload 4 59 hF dX4_film_57 rfl rfl ?_
  refine v_iload_n 2 60 hF dX4_film_59 rfl rfl rfl ?_
  refine v_icmp_ge 63 92 hF dX4_film_60 rfl (by decide) (fun _ => ?_) (fun _ => ?_)
  · refine v_iload_n 2 93 hF dX4_film_92 rfl rfl rfl ?_
    exact v_iret hF dX4_film_93
  · refine v_aload_n 0 64 hF dX4_film_63 rfl rfl rfl ?_
    refine v_getR (b := 16) 67 hF dX4_film_64 rfl fl_X4_42 hs.1 rfl ?_
    refine v_iload_n 1 68 hF dX4_film_67 rfl rfl rfl ?_
    refine v_callV ([.int x2]) ([]) 71 hF dX4_film_68 rfl cw_X4_178 rfl (hs.2.2.2.2.1.1) (c_X3_passDayOf (G := G) (hs.2.1) (hs.2.2.2.2.1) M x2) ⟨rfl, rfl, Nat.le_of_ble_eq_true rfl, Nat.le_of_ble_eq_true rfl⟩ rfl rfl (Nat.le_of_ble_eq_true rfl) (fun _ M1 => ?_)
    refine v_aload 3 73 hF dX4_film_71 rfl rfl ?_
    refine v_iload 4 75 hF dX4_film_73 rfl rfl ?_
    refine v_aload_n 0 76 hF dX4_film_75 rfl rfl rfl ?_
    refine v_getR (b := 16) 79 hF dX4_film_76 rfl fl_X4_42 hs.1 rfl ?_
    refine v_iload_n 1 80 hF dX4_film_79 rfl rfl rfl ?_
    refine v_callI ([.int x2]) ([.int x5, .ref (G.2.2.2.2 a2)]) 83 hF dX4_film_80 rfl cw_X4_138 rfl (hs.2.2.2.2.1.1) (c_X3_whereIs (G := G) (hs.2.1) (hs.2.2.2.2.1) M1 x2) ⟨rfl, rfl, Nat.le_of_ble_eq_true rfl, Nat.le_of_ble_eq_true rfl⟩ rfl rfl (Nat.le_of_ble_eq_true rfl) (fun r3 M2 => ?_)
    refine v_callV ([.int x5, .int r3]) ([]) 86 hF dX4_film_83 rfl cw_X4_255 rfl (ha2.1) (c_X0_put (G := G) ha2 M2 x5 r3) ⟨rfl, rfl, Nat.le_of_ble_eq_true rfl, Nat.le_of_ble_eq_true rfl⟩ rfl rfl (Nat.le_of_ble_eq_true rfl) (fun _ M4 => ?_)
    refine v_iinc (v := (x5 + 1)) (lo' := fun y5 => [(5, .int y5), (0, .ref (G.2.2.2.2 0)), (2, .int x2), (3, .int x3), (4, .ref (G.2.2.2.2 a2))]) 4 89 hF dX4_film_86 rfl rfl rfl (by decide) (fun _ => rfl) (fun y5 => ?_)
    refine v_goto 57 hF dX4_film_89 (by decide) ?_
    refine VR.pick [1, 2, 3, 4, 0] rfl ?_
    exact h57 x2 x3 y5 M4
theorem v_X4_film_L57 {X : Cx} {G : Gx} {sh : List Sh} (hF : FX X G sh 6 cX4_film (yX4_film).cls (some .int) rmX4_film) {a2 : Nat} (hs : TopAt sh) (ha2 : SheAt sh a2) : ∀ (n : Nat), ∀ (x2 : Int32) (x3 : Int32) (x5 : Int32) (M : Mm), VR X G sh 6 rvI M 57 [(0, .ref (G.2.2.2.2 0)), (2, .int x2), (3, .int x3), (4, .ref (G.2.2.2.2 a2)), (5, .int x5)] [] (m_X4_film_L57 a2 n x2 x3 x5 M) := by
  intro n
  induction n with
  | zero => intro x2 x3 x5 M; exact VR.none
  | succ n ih => exact v_X4_film_B57 hF hs ha2 _ ih
set_option maxRecDepth 100000 in
set_option maxHeartbeats 4000000 in
theorem c_X4_film {G : Gx} {sh : List Sh} (hs : TopAt sh) (M : Mm) (x1 : Int32) (x2 : Int32) (x3 : Int32) : CT yX4_film cX4_film 6 (some .int) rmX4_film G sh [.ref (G.2.2.2.2 0), .int x1, .int x2, .int x3] rvI M (m_X4_film  x1 x2 x3 M) := by
  refine CT.of (by decide +kernel) (Nat.le_of_ble_eq_true rfl) (fun X hF => ?_)
  show VR X G sh 6 rvI M 0 [(0, .ref (G.2.2.2.2 0)), (1, .int x1), (2, .int x2), (3, .int x3)] [] _
  unfold m_X4_film
  refine v_aload_n 0 1 hF dX4_film_0 rfl rfl rfl ?_
  refine v_iload_n 1 2 hF dX4_film_1 rfl rfl rfl ?_
  refine v_callR ([.int x1]) ([]) 5 hF dX4_film_2 rfl cw_X4_228 rfl (hs.1) (c_X4_sheetNumbered (G := G) hs M x1) ⟨rfl, rfl, Nat.le_of_ble_eq_true rfl, Nat.le_of_ble_eq_true rfl⟩ rfl rfl (Nat.le_of_ble_eq_true rfl) (fun M6 => ?_) (fun a2 M6 => v_gd (fun ha2 => ?_))
  · refine v_astoreN (lo' := [(4, .null), (0, .ref (G.2.2.2.2 0)), (1, .int x1), (2, .int x2), (3, .int x3)]) 7 hF dX4_film_5 rfl (by decide) rfl ?_
    refine v_aloadN 0 9 hF dX4_film_7 rfl rfl ?_
    refine v_ifnullN 33 hF dX4_film_9 (by decide) ?_
    refine v_bipush (-2) 35 hF dX4_film_33 rfl (by decide) ?_
    exact v_iret hF dX4_film_35
  · have ha2 := she_of hs ha2
    refine v_astore (lo' := [(4, .ref (G.2.2.2.2 a2)), (0, .ref (G.2.2.2.2 0)), (1, .int x1), (2, .int x2), (3, .int x3)]) 7 hF dX4_film_5 rfl (by decide) rfl ?_
    refine v_aload 0 9 hF dX4_film_7 rfl rfl ?_
    refine v_ifnullR 12 hF dX4_film_9 rfl ?_
    refine v_aload_n 1 13 hF dX4_film_12 rfl rfl rfl ?_
    refine v_getR (b := 7) 16 hF dX4_film_13 rfl fl_X4_38 hs.1 rfl ?_
    refine v_iload_n 3 17 hF dX4_film_16 rfl rfl rfl ?_
    refine v_callI ([.int x2]) ([]) 20 hF dX4_film_17 rfl cw_X4_98 rfl (hs.2.2.2.1.1) (c_X3_isLetter (G := G) (hs.2.1) (hs.2.2.2.1) M6 x2) ⟨rfl, rfl, Nat.le_of_ble_eq_true rfl, Nat.le_of_ble_eq_true rfl⟩ rfl rfl (Nat.le_of_ble_eq_true rfl) (fun r8 M7 => ?_)
    refine v_if_eq 23 33 hF dX4_film_20 rfl (by decide) (fun _ => ?_) (fun _ => ?_)
    · refine v_bipush (-2) 35 hF dX4_film_33 rfl (by decide) ?_
      exact v_iret hF dX4_film_35
    · refine v_iload_n 4 24 hF dX4_film_23 rfl rfl rfl ?_
      refine v_if_lt 27 33 hF dX4_film_24 rfl (by decide) (fun _ => ?_) (fun _ => ?_)
      · refine v_bipush (-2) 35 hF dX4_film_33 rfl (by decide) ?_
        exact v_iret hF dX4_film_35
      · refine v_iload_n 4 28 hF dX4_film_27 rfl rfl rfl ?_
        refine v_bipush (20) 30 hF dX4_film_28 rfl (by decide) ?_
        refine v_icmp_le 33 36 hF dX4_film_30 rfl (by decide) (fun _ => ?_) (fun _ => ?_)
        · refine v_aload 0 38 hF dX4_film_36 rfl rfl ?_
          refine v_iconst (0) 39 hF dX4_film_38 rfl (by decide) ?_
          refine v_iload_n 4 40 hF dX4_film_39 rfl rfl rfl ?_
          refine v_callV ([.int ((0 : Int32)), .int x3]) ([]) 43 hF dX4_film_40 rfl cw_X4_252 rfl (ha2.1) (c_X0_become (G := G) ha2 M7 ((0 : Int32)) x3) ⟨rfl, rfl, Nat.le_of_ble_eq_true rfl, Nat.le_of_ble_eq_true rfl⟩ rfl rfl (Nat.le_of_ble_eq_true rfl) (fun _ M9 => ?_)
          refine v_aload_n 1 44 hF dX4_film_43 rfl rfl rfl ?_
          refine v_getR (b := 16) 47 hF dX4_film_44 rfl fl_X4_42 hs.1 rfl ?_
          refine v_aload_n 1 48 hF dX4_film_47 rfl rfl rfl ?_
          refine v_getR (b := 7) 51 hF dX4_film_48 rfl fl_X4_38 hs.1 rfl ?_
          refine v_callV ([.ref (G.2.2.2.2 7)]) ([]) 54 hF dX4_film_51 rfl cw_X4_167 rfl (hs.2.2.2.2.1.1) (c_X3_takeOver (G := G) (hs.2.1) (hs.2.2.2.2.1) (hs.2.2.2.1) M9) ⟨rfl, rfl, Nat.le_of_ble_eq_true rfl, Nat.le_of_ble_eq_true rfl⟩ rfl rfl (Nat.le_of_ble_eq_true rfl) (fun _ M10 => ?_)
          refine v_iconst (0) 55 hF dX4_film_54 rfl (by decide) ?_
          refine v_istore (lo' := fun y11 => [(5, .int y11), (4, .ref (G.2.2.2.2 a2)), (0, .ref (G.2.2.2.2 0)), (1, .int x1), (2, .int x2), (3, .int x3)]) 57 hF dX4_film_55 rfl (by decide) (fun _ => rfl) (fun y11 => ?_)
          refine VR.pick [2, 4, 5, 1, 0] rfl ?_
          exact v_X4_film_L57 hF hs ha2 FU x2 x3 y11 M10
        · refine v_bipush (-2) 35 hF dX4_film_33 rfl (by decide) ?_
          exact v_iret hF dX4_film_35
abbrev rmX4_homesDrawn : Room := { frames := 6, cells := 0, slots := 0, locals := 143 }
def m_X4_homesDrawn_J86 (n16 : Int32 → Int32 → Int32 → Mm → Option (Int32 × Mm)) (x2 : Int32) (x3 : Int32) (x4 : Int32) (M : Mm) : Option (Int32 × Mm) := bd (m_X3_passDay 16 M) fun r2 M1 => lt1 (x4 + 1) fun y3 => n16 x2 x3 y3 M1
def m_X4_homesDrawn_B16 (n16 : Int32 → Int32 → Int32 → Mm → Option (Int32 × Mm)) (x2 : Int32) (x3 : Int32) (x4 : Int32) (M : Mm) : Option (Int32 × Mm) := if x2 ≤ x4 then (bd (m_X3_homes 16 M) fun r5 M4 => some (r5, M4)) else (lt1 (((x3 * (1103515245 : Int32)) + (12345 : Int32))) fun y6 => gd (!(decide ((8 : Int32) = 0))) (lt1 ((irm ((ushr y6 ((9 : Int32)))) ((8 : Int32)))) fun y7 => lt1 (((y6 * (1103515245 : Int32)) + (12345 : Int32))) fun y8 => gd (!(decide ((8 : Int32) = 0))) (lt1 ((irm ((ushr y8 ((9 : Int32)))) ((8 : Int32)))) fun y9 => bd (m_X3_areTwo 16 y7 y9 M) fun r11 M10 => if r11 = 0 then (m_X4_homesDrawn_J86 n16 x2 y8 x4 M10) else (bd (m_X3_post 16 y7 y9 M10) fun r13 M12 => m_X4_homesDrawn_J86 n16 x2 y8 x4 M12))))
def m_X4_homesDrawn_L16 : Nat → Int32 → Int32 → Int32 → Mm → Option (Int32 × Mm)
  | 0 => fun _ _ _ _ => none
  | n + 1 => m_X4_homesDrawn_B16  (m_X4_homesDrawn_L16  n)
def m_X4_homesDrawn (x1 : Int32) (x2 : Int32) (M : Mm) : Option (Int32 × Mm) := bd (m_X3_takeOver 16 7 M) fun _ M14 => lt1 x1 fun y15 => lt1 ((0 : Int32)) fun y16 => m_X4_homesDrawn_L16 FU x2 y15 y16 M14
set_option maxRecDepth 100000 in
set_option maxHeartbeats 4000000 in
theorem v_X4_homesDrawn_J86 {X : Cx} {G : Gx} {sh : List Sh} (hF : FX X G sh 7 cX4_homesDrawn (yX4_homesDrawn).cls (some .int) rmX4_homesDrawn) (hs : TopAt sh) (n16 : Int32 → Int32 → Int32 → Mm → Option (Int32 × Mm)) (h16 : ∀ (x2 : Int32) (x3 : Int32) (x4 : Int32) (M : Mm), VR X G sh 7 rvI M 16 [(0, .ref (G.2.2.2.2 0)), (2, .int x2), (3, .int x3), (4, .int x4)] [] (n16 x2 x3 x4 M)) : ∀ (x2 : Int32) (x3 : Int32) (x4 : Int32) (M : Mm), VR X G sh 7 rvI M 86 [(0, .ref (G.2.2.2.2 0)), (2, .int x2), (3, .int x3), (4, .int x4)] [] (m_X4_homesDrawn_J86  n16 x2 x3 x4 M) := by
  intro x2 x3 x4 M
  unfold m_X4_homesDrawn_J86
  refine v_aload_n 0 87 hF dX4_homesDrawn_86 rfl rfl rfl ?_
  refine v_getR (b := 16) 90 hF dX4_homesDrawn_87 rfl fl_X4_42 hs.1 rfl ?_
  refine v_callI ([]) ([]) 93 hF dX4_homesDrawn_90 rfl cw_X4_164 rfl (hs.2.2.2.2.1.1) (c_X3_passDay (G := G) (hs.2.1) (hs.2.2.2.2.1) M) ⟨rfl, rfl, Nat.le_of_ble_eq_true rfl, Nat.le_of_ble_eq_true rfl⟩ rfl rfl (Nat.le_of_ble_eq_true rfl) (fun r2 M1 => ?_)
  refine v_popI 94 hF dX4_homesDrawn_93 rfl ?_
  refine v_iinc (v := (x4 + 1)) (lo' := fun y3 => [(4, .int y3), (0, .ref (G.2.2.2.2 0)), (2, .int x2), (3, .int x3)]) 3 97 hF dX4_homesDrawn_94 rfl rfl rfl (by decide) (fun _ => rfl) (fun y3 => ?_)
  refine v_goto 16 hF dX4_homesDrawn_97 (by decide) ?_
  refine VR.pick [1, 2, 3, 0] rfl ?_
  exact h16 x2 x3 y3 M1
set_option maxRecDepth 100000 in
set_option maxHeartbeats 4000000 in
theorem v_X4_homesDrawn_B16 {X : Cx} {G : Gx} {sh : List Sh} (hF : FX X G sh 7 cX4_homesDrawn (yX4_homesDrawn).cls (some .int) rmX4_homesDrawn) (hs : TopAt sh) (n16 : Int32 → Int32 → Int32 → Mm → Option (Int32 × Mm)) (h16 : ∀ (x2 : Int32) (x3 : Int32) (x4 : Int32) (M : Mm), VR X G sh 7 rvI M 16 [(0, .ref (G.2.2.2.2 0)), (2, .int x2), (3, .int x3), (4, .int x4)] [] (n16 x2 x3 x4 M)) : ∀ (x2 : Int32) (x3 : Int32) (x4 : Int32) (M : Mm), VR X G sh 7 rvI M 16 [(0, .ref (G.2.2.2.2 0)), (2, .int x2), (3, .int x3), (4, .int x4)] [] (m_X4_homesDrawn_B16  n16 x2 x3 x4 M) := by
  intro x2 x3 x4 M
  unfold m_X4_homesDrawn_B16
  refine v_iload 3 18 hF dX4_homesDrawn_16 rfl rfl ?_
  refine v_iload_n 1 19 hF dX4_homesDrawn_18 rfl rfl rfl ?_
  refine v_icmp_ge 22 100 hF dX4_homesDrawn_19 rfl (by decide) (fun _ => ?_) (fun _ => ?_)
  · refine v_aload_n 0 101 hF dX4_homesDrawn_100 rfl rfl rfl ?_
    refine v_getR (b := 16) 104 hF dX4_homesDrawn_101 rfl fl_X4_42 hs.1 rfl ?_
    refine v_callI ([]) ([]) 107 hF dX4_homesDrawn_104 rfl cw_X4_175 rfl (hs.2.2.2.2.1.1) (c_X3_homes (G := G) (hs.2.1) (hs.2.2.2.2.1) M) ⟨rfl, rfl, Nat.le_of_ble_eq_true rfl, Nat.le_of_ble_eq_true rfl⟩ rfl rfl (Nat.le_of_ble_eq_true rfl) (fun r5 M4 => ?_)
    exact v_iret hF dX4_homesDrawn_107
  · refine v_iload_n 2 23 hF dX4_homesDrawn_22 rfl rfl rfl ?_
    refine v_ldcw (1103515245) 26 hF dX4_homesDrawn_23 rfl cc_X4_268 ?_
    refine v_imul 27 hF dX4_homesDrawn_26 rfl ?_
    refine v_sipush (12345) 30 hF dX4_homesDrawn_27 rfl (by decide) ?_
    refine v_iadd 31 hF dX4_homesDrawn_30 rfl ?_
    refine v_istore_n (lo' := fun y6 => [(3, .int y6), (0, .ref (G.2.2.2.2 0)), (2, .int x2), (4, .int x4)]) 32 hF dX4_homesDrawn_31 rfl rfl (by decide) (fun _ => rfl) (fun y6 => ?_)
    refine v_iload_n 0 33 hF dX4_homesDrawn_32 rfl rfl rfl ?_
    refine v_bipush (9) 35 hF dX4_homesDrawn_33 rfl (by decide) ?_
    refine v_iushr 36 hF dX4_homesDrawn_35 rfl ?_
    refine v_bipush (8) 38 hF dX4_homesDrawn_36 rfl (by decide) ?_
    refine v_irem 39 hF dX4_homesDrawn_38 rfl ?_
    refine v_istore (lo' := fun y7 => [(5, .int y7), (3, .int y6), (0, .ref (G.2.2.2.2 0)), (2, .int x2), (4, .int x4)]) 41 hF dX4_homesDrawn_39 rfl (by decide) (fun _ => rfl) (fun y7 => ?_)
    refine v_iload_n 1 42 hF dX4_homesDrawn_41 rfl rfl rfl ?_
    refine v_ldcw (1103515245) 45 hF dX4_homesDrawn_42 rfl cc_X4_268 ?_
    refine v_imul 46 hF dX4_homesDrawn_45 rfl ?_
    refine v_sipush (12345) 49 hF dX4_homesDrawn_46 rfl (by decide) ?_
    refine v_iadd 50 hF dX4_homesDrawn_49 rfl ?_
    refine v_istore_n (lo' := fun y8 => [(3, .int y8), (5, .int y7), (0, .ref (G.2.2.2.2 0)), (2, .int x2), (4, .int x4)]) 51 hF dX4_homesDrawn_50 rfl rfl (by decide) (fun _ => rfl) (fun y8 => ?_)
    refine v_iload_n 0 52 hF dX4_homesDrawn_51 rfl rfl rfl ?_
    refine v_bipush (9) 54 hF dX4_homesDrawn_52 rfl (by decide) ?_
    refine v_iushr 55 hF dX4_homesDrawn_54 rfl ?_
    refine v_bipush (8) 57 hF dX4_homesDrawn_55 rfl (by decide) ?_
    refine v_irem 58 hF dX4_homesDrawn_57 rfl ?_
    refine v_istore (lo' := fun y9 => [(6, .int y9), (3, .int y8), (5, .int y7), (0, .ref (G.2.2.2.2 0)), (2, .int x2), (4, .int x4)]) 60 hF dX4_homesDrawn_58 rfl (by decide) (fun _ => rfl) (fun y9 => ?_)
    refine v_aload_n 3 61 hF dX4_homesDrawn_60 rfl rfl rfl ?_
    refine v_getR (b := 16) 64 hF dX4_homesDrawn_61 rfl fl_X4_42 hs.1 rfl ?_
    refine v_iload 2 66 hF dX4_homesDrawn_64 rfl rfl ?_
    refine v_iload 0 68 hF dX4_homesDrawn_66 rfl rfl ?_
    refine v_callI ([.int y7, .int y9]) ([]) 71 hF dX4_homesDrawn_68 rfl cw_X4_88 rfl (hs.2.2.2.2.1.1) (c_X3_areTwo (G := G) (hs.2.1) (hs.2.2.2.2.1) M y7 y9) ⟨rfl, rfl, Nat.le_of_ble_eq_true rfl, Nat.le_of_ble_eq_true rfl⟩ rfl rfl (Nat.le_of_ble_eq_true rfl) (fun r11 M10 => ?_)
    refine v_if_eq 74 86 hF dX4_homesDrawn_71 rfl (by decide) (fun _ => ?_) (fun _ => ?_)
    · refine VR.pick [3, 4, 1, 5] rfl ?_
      exact v_X4_homesDrawn_J86 hF hs _ h16 x2 y8 x4 M10
    · refine v_aload_n 3 75 hF dX4_homesDrawn_74 rfl rfl rfl ?_
      refine v_getR (b := 16) 78 hF dX4_homesDrawn_75 rfl fl_X4_42 hs.1 rfl ?_
      refine v_iload 2 80 hF dX4_homesDrawn_78 rfl rfl ?_
      refine v_iload 0 82 hF dX4_homesDrawn_80 rfl rfl ?_
      refine v_callI ([.int y7, .int y9]) ([]) 85 hF dX4_homesDrawn_82 rfl cw_X4_161 rfl (hs.2.2.2.2.1.1) (c_X3_post (G := G) (hs.2.1) (hs.2.2.2.2.1) M10 y7 y9) ⟨rfl, rfl, Nat.le_of_ble_eq_true rfl, Nat.le_of_ble_eq_true rfl⟩ rfl rfl (Nat.le_of_ble_eq_true rfl) (fun r13 M12 => ?_)
      refine v_popI 86 hF dX4_homesDrawn_85 rfl ?_
      refine VR.pick [3, 4, 1, 5] rfl ?_
      exact v_X4_homesDrawn_J86 hF hs _ h16 x2 y8 x4 M12
theorem v_X4_homesDrawn_L16 {X : Cx} {G : Gx} {sh : List Sh} (hF : FX X G sh 7 cX4_homesDrawn (yX4_homesDrawn).cls (some .int) rmX4_homesDrawn) (hs : TopAt sh) : ∀ (n : Nat), ∀ (x2 : Int32) (x3 : Int32) (x4 : Int32) (M : Mm), VR X G sh 7 rvI M 16 [(0, .ref (G.2.2.2.2 0)), (2, .int x2), (3, .int x3), (4, .int x4)] [] (m_X4_homesDrawn_L16  n x2 x3 x4 M) := by
  intro n
  induction n with
  | zero => intro x2 x3 x4 M; exact VR.none
  | succ n ih => exact v_X4_homesDrawn_B16 hF hs _ ih
set_option maxRecDepth 100000 in
set_option maxHeartbeats 4000000 in
theorem c_X4_homesDrawn {G : Gx} {sh : List Sh} (hs : TopAt sh) (M : Mm) (x1 : Int32) (x2 : Int32) : CT yX4_homesDrawn cX4_homesDrawn 7 (some .int) rmX4_homesDrawn G sh [.ref (G.2.2.2.2 0), .int x1, .int x2] rvI M (m_X4_homesDrawn  x1 x2 M) := by
  refine CT.of (by decide +kernel) (Nat.le_of_ble_eq_true rfl) (fun X hF => ?_)
  show VR X G sh 7 rvI M 0 [(0, .ref (G.2.2.2.2 0)), (1, .int x1), (2, .int x2)] [] _
  unfold m_X4_homesDrawn
  refine v_aload_n 0 1 hF dX4_homesDrawn_0 rfl rfl rfl ?_
  refine v_getR (b := 16) 4 hF dX4_homesDrawn_1 rfl fl_X4_42 hs.1 rfl ?_
  refine v_aload_n 0 5 hF dX4_homesDrawn_4 rfl rfl rfl ?_
  refine v_getR (b := 7) 8 hF dX4_homesDrawn_5 rfl fl_X4_38 hs.1 rfl ?_
  refine v_callV ([.ref (G.2.2.2.2 7)]) ([]) 11 hF dX4_homesDrawn_8 rfl cw_X4_167 rfl (hs.2.2.2.2.1.1) (c_X3_takeOver (G := G) (hs.2.1) (hs.2.2.2.2.1) (hs.2.2.2.1) M) ⟨rfl, rfl, Nat.le_of_ble_eq_true rfl, Nat.le_of_ble_eq_true rfl⟩ rfl rfl (Nat.le_of_ble_eq_true rfl) (fun _ M14 => ?_)
  refine v_iload_n 1 12 hF dX4_homesDrawn_11 rfl rfl rfl ?_
  refine v_istore_n (lo' := fun y15 => [(3, .int y15), (0, .ref (G.2.2.2.2 0)), (1, .int x1), (2, .int x2)]) 13 hF dX4_homesDrawn_12 rfl rfl (by decide) (fun _ => rfl) (fun y15 => ?_)
  refine v_iconst (0) 14 hF dX4_homesDrawn_13 rfl (by decide) ?_
  refine v_istore (lo' := fun y16 => [(4, .int y16), (3, .int y15), (0, .ref (G.2.2.2.2 0)), (1, .int x1), (2, .int x2)]) 16 hF dX4_homesDrawn_14 rfl (by decide) (fun _ => rfl) (fun y16 => ?_)
  refine VR.pick [2, 4, 1, 0] rfl ?_
  exact v_X4_homesDrawn_L16 hF hs FU x2 y15 y16 M14
abbrev rmX4_drawn : Room := { frames := 7, cells := 0, slots := 0, locals := 169 }
def m_X4_drawn_J10  (M : Mm) : Option (Int32 × Mm) := some ((-2 : Int32), M)
def m_X4_drawn (x1 : Int32) (x2 : Int32) (M : Mm) : Option (Int32 × Mm) := if x2 < 0 then (m_X4_drawn_J10 M) else (if x2 ≤ (40 : Int32) then (bd (m_X4_homesDrawn x1 x2 M) fun r2 M1 => some (r2, M1)) else (m_X4_drawn_J10 M))
set_option maxRecDepth 100000 in
set_option maxHeartbeats 4000000 in
theorem v_X4_drawn_J10 {X : Cx} {G : Gx} {sh : List Sh} (hF : FX X G sh 3 cX4_drawn (yX4_drawn).cls (some .int) rmX4_drawn) (hs : TopAt sh) : ∀ (M : Mm), VR X G sh 3 rvI M 10 [(0, .ref (G.2.2.2.2 0))] [] (m_X4_drawn_J10   M) := by
  intro  M
  unfold m_X4_drawn_J10
  refine v_bipush (-2) 12 hF dX4_drawn_10 rfl (by decide) ?_
  refine v_goto 21 hF dX4_drawn_12 (by decide) ?_
  exact v_iret hF dX4_drawn_21
set_option maxRecDepth 100000 in
set_option maxHeartbeats 4000000 in
theorem c_X4_drawn {G : Gx} {sh : List Sh} (hs : TopAt sh) (M : Mm) (x1 : Int32) (x2 : Int32) : CT yX4_drawn cX4_drawn 3 (some .int) rmX4_drawn G sh [.ref (G.2.2.2.2 0), .int x1, .int x2] rvI M (m_X4_drawn  x1 x2 M) := by
  refine CT.of (by decide +kernel) (Nat.le_of_ble_eq_true rfl) (fun X hF => ?_)
  show VR X G sh 3 rvI M 0 [(0, .ref (G.2.2.2.2 0)), (1, .int x1), (2, .int x2)] [] _
  unfold m_X4_drawn
  refine v_iload_n 2 1 hF dX4_drawn_0 rfl rfl rfl ?_
  refine v_if_lt 4 10 hF dX4_drawn_1 rfl (by decide) (fun _ => ?_) (fun _ => ?_)
  · refine VR.pick [0] rfl ?_
    exact v_X4_drawn_J10 hF hs M
  · refine v_iload_n 2 5 hF dX4_drawn_4 rfl rfl rfl ?_
    refine v_bipush (40) 7 hF dX4_drawn_5 rfl (by decide) ?_
    refine v_icmp_le 10 15 hF dX4_drawn_7 rfl (by decide) (fun _ => ?_) (fun _ => ?_)
    · refine v_aload_n 0 16 hF dX4_drawn_15 rfl rfl rfl ?_
      refine v_iload_n 1 17 hF dX4_drawn_16 rfl rfl rfl ?_
      refine v_iload_n 2 18 hF dX4_drawn_17 rfl rfl rfl ?_
      refine v_callI ([.int x1, .int x2]) ([]) 21 hF dX4_drawn_18 rfl cw_X4_258 rfl (hs.1) (c_X4_homesDrawn (G := G) hs M x1 x2) ⟨rfl, rfl, Nat.le_of_ble_eq_true rfl, Nat.le_of_ble_eq_true rfl⟩ rfl rfl (Nat.le_of_ble_eq_true rfl) (fun r2 M1 => ?_)
      exact v_iret hF dX4_drawn_21
    · refine VR.pick [0] rfl ?_
      exact v_X4_drawn_J10 hF hs M
abbrev rmX4_chance : Room := { frames := 7, cells := 0, slots := 0, locals := 169 }
def m_X4_chance_J65 (n42 : Int32 → Int32 → Int32 → Int32 → Int32 → Int32 → Mm → Option (Int64 × Mm)) (x1 : Int32) (x2 : Int32) (x3 : Int32) (x4 : Int32) (x5 : Int32) (x6 : Int32) (M : Mm) : Option (Int64 × Mm) := lt1 (x6 + 1) fun y1 => n42 x1 x2 x3 x4 x5 y1 M
def m_X4_chance_B42 (n42 : Int32 → Int32 → Int32 → Int32 → Int32 → Int32 → Mm → Option (Int64 × Mm)) (x1 : Int32) (x2 : Int32) (x3 : Int32) (x4 : Int32) (x5 : Int32) (x6 : Int32) (M : Mm) : Option (Int64 × Mm) := if x2 ≤ x6 then (bd (m_X4_inLowestTerms x5 x2 x4 M) fun r3 M2 => some (r3, M2)) else (bd (m_X4_homesDrawn ((x1 + x6)) ((10 : Int32)) M) fun r5 M4 => if r5 < x3 then (m_X4_chance_J65 n42 x1 x2 x3 x4 x5 x6 M4) else (lt1 (x5 + 1) fun y6 => m_X4_chance_J65 n42 x1 x2 x3 x4 y6 x6 M4))
def m_X4_chance_L42 : Nat → Int32 → Int32 → Int32 → Int32 → Int32 → Int32 → Mm → Option (Int64 × Mm)
  | 0 => fun _ _ _ _ _ _ _ => none
  | n + 1 => m_X4_chance_B42  (m_X4_chance_L42  n)
def m_X4_chance (x1 : Int32) (x2 : Int32) (x3 : Int32) (x4 : Int32) (M : Mm) : Option (Int64 × Mm) := if x2 < (1 : Int32) then (some ((-4611686018427387904 : Int64), M)) else (if (20 : Int32) < x2 then (some ((-4611686018427387904 : Int64), M)) else (if x3 < 0 then (some ((-4611686018427387904 : Int64), M)) else (if (8 : Int32) < x3 then (some ((-4611686018427387904 : Int64), M)) else (if x4 < 0 then (some ((-4611686018427387904 : Int64), M)) else (if x4 ≤ (1 : Int32) then (lt1 ((0 : Int32)) fun y7 => lt1 ((0 : Int32)) fun y8 => m_X4_chance_L42 FU x1 x2 x3 x4 y7 y8 M) else (some ((-4611686018427387904 : Int64), M)))))))
set_option maxRecDepth 100000 in
set_option maxHeartbeats 4000000 in
theorem v_X4_chance_J65 {X : Cx} {G : Gx} {sh : List Sh} (hF : FX X G sh 7 cX4_chance (yX4_chance).cls (some .long) rmX4_chance) (hs : TopAt sh) (n42 : Int32 → Int32 → Int32 → Int32 → Int32 → Int32 → Mm → Option (Int64 × Mm)) (h42 : ∀ (x1 : Int32) (x2 : Int32) (x3 : Int32) (x4 : Int32) (x5 : Int32) (x6 : Int32) (M : Mm), VR X G sh 7 rvJ M 42 [(0, .ref (G.2.2.2.2 0)), (1, .int x1), (2, .int x2), (3, .int x3), (4, .int x4), (5, .int x5), (6, .int x6)] [] (n42 x1 x2 x3 x4 x5 x6 M)) : ∀ (x1 : Int32) (x2 : Int32) (x3 : Int32) (x4 : Int32) (x5 : Int32) (x6 : Int32) (M : Mm), VR X G sh 7 rvJ M 65 [(0, .ref (G.2.2.2.2 0)), (1, .int x1), (2, .int x2), (3, .int x3), (4, .int x4), (5, .int x5), (6, .int x6)] [] (m_X4_chance_J65  n42 x1 x2 x3 x4 x5 x6 M) := by
  intro x1 x2 x3 x4 x5 x6 M
  unfold m_X4_chance_J65
  refine v_iinc (v := (x6 + 1)) (lo' := fun y1 => [(6, .int y1), (0, .ref (G.2.2.2.2 0)), (1, .int x1), (2, .int x2), (3, .int x3), (4, .int x4), (5, .int x5)]) 6 68 hF dX4_chance_65 rfl rfl rfl (by decide) (fun _ => rfl) (fun y1 => ?_)
  refine v_goto 42 hF dX4_chance_68 (by decide) ?_
  refine VR.pick [1, 2, 3, 4, 5, 6, 0] rfl ?_
  exact h42 x1 x2 x3 x4 x5 y1 M
set_option maxRecDepth 100000 in
set_option maxHeartbeats 4000000 in
theorem v_X4_chance_B42 {X : Cx} {G : Gx} {sh : List Sh} (hF : FX X G sh 7 cX4_chance (yX4_chance).cls (some .long) rmX4_chance) (hs : TopAt sh) (n42 : Int32 → Int32 → Int32 → Int32 → Int32 → Int32 → Mm → Option (Int64 × Mm)) (h42 : ∀ (x1 : Int32) (x2 : Int32) (x3 : Int32) (x4 : Int32) (x5 : Int32) (x6 : Int32) (M : Mm), VR X G sh 7 rvJ M 42 [(0, .ref (G.2.2.2.2 0)), (1, .int x1), (2, .int x2), (3, .int x3), (4, .int x4), (5, .int x5), (6, .int x6)] [] (n42 x1 x2 x3 x4 x5 x6 M)) : ∀ (x1 : Int32) (x2 : Int32) (x3 : Int32) (x4 : Int32) (x5 : Int32) (x6 : Int32) (M : Mm), VR X G sh 7 rvJ M 42 [(0, .ref (G.2.2.2.2 0)), (1, .int x1), (2, .int x2), (3, .int x3), (4, .int x4), (5, .int x5), (6, .int x6)] [] (m_X4_chance_B42  n42 x1 x2 x3 x4 x5 x6 M) := by
  intro x1 x2 x3 x4 x5 x6 M
  unfold m_X4_chance_B42
  refine v_iload 6 44 hF dX4_chance_42 rfl rfl ?_
  refine v_iload_n 2 45 hF dX4_chance_44 rfl rfl rfl ?_
  refine v_icmp_ge 48 71 hF dX4_chance_45 rfl (by decide) (fun _ => ?_) (fun _ => ?_)
  · refine v_iload 5 73 hF dX4_chance_71 rfl rfl ?_
    refine v_iload_n 2 74 hF dX4_chance_73 rfl rfl rfl ?_
    refine v_iload 4 76 hF dX4_chance_74 rfl rfl ?_
    refine v_staJ ([.int x5, .int x2, .int x4]) ([]) 79 hF dX4_chance_76 rfl cw_X4_216 (c_X4_inLowestTerms (G := G) (sh := sh) M x5 x2 x4) ⟨rfl, rfl, Nat.le_of_ble_eq_true rfl, Nat.le_of_ble_eq_true rfl⟩ rfl rfl (Nat.le_of_ble_eq_true rfl) (fun r3 M2 => ?_)
    exact v_lret hF dX4_chance_79
  · refine v_aload_n 0 49 hF dX4_chance_48 rfl rfl rfl ?_
    refine v_iload_n 1 50 hF dX4_chance_49 rfl rfl rfl ?_
    refine v_iload 6 52 hF dX4_chance_50 rfl rfl ?_
    refine v_iadd 53 hF dX4_chance_52 rfl ?_
    refine v_bipush (10) 55 hF dX4_chance_53 rfl (by decide) ?_
    refine v_callI ([.int ((x1 + x6)), .int ((10 : Int32))]) ([]) 58 hF dX4_chance_55 rfl cw_X4_258 rfl (hs.1) (c_X4_homesDrawn (G := G) hs M ((x1 + x6)) ((10 : Int32))) ⟨rfl, rfl, Nat.le_of_ble_eq_true rfl, Nat.le_of_ble_eq_true rfl⟩ rfl rfl (Nat.le_of_ble_eq_true rfl) (fun r5 M4 => ?_)
    refine v_iload_n 3 59 hF dX4_chance_58 rfl rfl rfl ?_
    refine v_icmp_lt 62 65 hF dX4_chance_59 rfl (by decide) (fun _ => ?_) (fun _ => ?_)
    · refine VR.pick [0, 1, 2, 3, 4, 5, 6] rfl ?_
      exact v_X4_chance_J65 hF hs _ h42 x1 x2 x3 x4 x5 x6 M4
    · refine v_iinc (v := (x5 + 1)) (lo' := fun y6 => [(5, .int y6), (0, .ref (G.2.2.2.2 0)), (1, .int x1), (2, .int x2), (3, .int x3), (4, .int x4), (6, .int x6)]) 5 65 hF dX4_chance_62 rfl rfl rfl (by decide) (fun _ => rfl) (fun y6 => ?_)
      refine VR.pick [1, 2, 3, 4, 5, 0, 6] rfl ?_
      exact v_X4_chance_J65 hF hs _ h42 x1 x2 x3 x4 y6 x6 M4
theorem v_X4_chance_L42 {X : Cx} {G : Gx} {sh : List Sh} (hF : FX X G sh 7 cX4_chance (yX4_chance).cls (some .long) rmX4_chance) (hs : TopAt sh) : ∀ (n : Nat), ∀ (x1 : Int32) (x2 : Int32) (x3 : Int32) (x4 : Int32) (x5 : Int32) (x6 : Int32) (M : Mm), VR X G sh 7 rvJ M 42 [(0, .ref (G.2.2.2.2 0)), (1, .int x1), (2, .int x2), (3, .int x3), (4, .int x4), (5, .int x5), (6, .int x6)] [] (m_X4_chance_L42  n x1 x2 x3 x4 x5 x6 M) := by
  intro n
  induction n with
  | zero => intro x1 x2 x3 x4 x5 x6 M; exact VR.none
  | succ n ih => exact v_X4_chance_B42 hF hs _ ih
set_option maxRecDepth 100000 in
set_option maxHeartbeats 4000000 in
theorem c_X4_chance {G : Gx} {sh : List Sh} (hs : TopAt sh) (M : Mm) (x1 : Int32) (x2 : Int32) (x3 : Int32) (x4 : Int32) : CT yX4_chance cX4_chance 7 (some .long) rmX4_chance G sh [.ref (G.2.2.2.2 0), .int x1, .int x2, .int x3, .int x4] rvJ M (m_X4_chance  x1 x2 x3 x4 M) := by
  refine CT.of (by decide +kernel) (Nat.le_of_ble_eq_true rfl) (fun X hF => ?_)
  show VR X G sh 7 rvJ M 0 [(0, .ref (G.2.2.2.2 0)), (1, .int x1), (2, .int x2), (3, .int x3), (4, .int x4)] [] _
  unfold m_X4_chance
  refine v_iload_n 2 1 hF dX4_chance_0 rfl rfl rfl ?_
  refine v_iconst (1) 2 hF dX4_chance_1 rfl (by decide) ?_
  refine v_icmp_lt 5 32 hF dX4_chance_2 rfl (by decide) (fun _ => ?_) (fun _ => ?_)
  · refine v_ldc2 (-4611686018427387904) 35 hF dX4_chance_32 rfl cc_X4_214 ?_
    exact v_lret hF dX4_chance_35
  · refine v_iload_n 2 6 hF dX4_chance_5 rfl rfl rfl ?_
    refine v_bipush (20) 8 hF dX4_chance_6 rfl (by decide) ?_
    refine v_icmp_gt 11 32 hF dX4_chance_8 rfl (by decide) (fun _ => ?_) (fun _ => ?_)
    · refine v_ldc2 (-4611686018427387904) 35 hF dX4_chance_32 rfl cc_X4_214 ?_
      exact v_lret hF dX4_chance_35
    · refine v_iload_n 3 12 hF dX4_chance_11 rfl rfl rfl ?_
      refine v_if_lt 15 32 hF dX4_chance_12 rfl (by decide) (fun _ => ?_) (fun _ => ?_)
      · refine v_ldc2 (-4611686018427387904) 35 hF dX4_chance_32 rfl cc_X4_214 ?_
        exact v_lret hF dX4_chance_35
      · refine v_iload_n 3 16 hF dX4_chance_15 rfl rfl rfl ?_
        refine v_bipush (8) 18 hF dX4_chance_16 rfl (by decide) ?_
        refine v_icmp_gt 21 32 hF dX4_chance_18 rfl (by decide) (fun _ => ?_) (fun _ => ?_)
        · refine v_ldc2 (-4611686018427387904) 35 hF dX4_chance_32 rfl cc_X4_214 ?_
          exact v_lret hF dX4_chance_35
        · refine v_iload 4 23 hF dX4_chance_21 rfl rfl ?_
          refine v_if_lt 26 32 hF dX4_chance_23 rfl (by decide) (fun _ => ?_) (fun _ => ?_)
          · refine v_ldc2 (-4611686018427387904) 35 hF dX4_chance_32 rfl cc_X4_214 ?_
            exact v_lret hF dX4_chance_35
          · refine v_iload 4 28 hF dX4_chance_26 rfl rfl ?_
            refine v_iconst (1) 29 hF dX4_chance_28 rfl (by decide) ?_
            refine v_icmp_le 32 36 hF dX4_chance_29 rfl (by decide) (fun _ => ?_) (fun _ => ?_)
            · refine v_iconst (0) 37 hF dX4_chance_36 rfl (by decide) ?_
              refine v_istore (lo' := fun y7 => [(5, .int y7), (0, .ref (G.2.2.2.2 0)), (1, .int x1), (2, .int x2), (3, .int x3), (4, .int x4)]) 39 hF dX4_chance_37 rfl (by decide) (fun _ => rfl) (fun y7 => ?_)
              refine v_iconst (0) 40 hF dX4_chance_39 rfl (by decide) ?_
              refine v_istore (lo' := fun y8 => [(6, .int y8), (5, .int y7), (0, .ref (G.2.2.2.2 0)), (1, .int x1), (2, .int x2), (3, .int x3), (4, .int x4)]) 42 hF dX4_chance_40 rfl (by decide) (fun _ => rfl) (fun y8 => ?_)
              refine VR.pick [2, 3, 4, 5, 6, 1, 0] rfl ?_
              exact v_X4_chance_L42 hF hs FU x1 x2 x3 x4 y7 y8 M
            · refine v_ldc2 (-4611686018427387904) 35 hF dX4_chance_32 rfl cc_X4_214 ?_
              exact v_lret hF dX4_chance_35
abbrev rmX4_image : Room := { frames := 1, cells := 0, slots := 0, locals := 22 }
def m_X4_image  (M : Mm) : Option (Int32 × Mm) := bd (m_X3_takeOver 25 7 M) fun _ M1 => lt1 (up M1 0 5 ((1 : Int32))) fun M2 => some ((M2 7 4), M2)
set_option maxRecDepth 100000 in
set_option maxHeartbeats 4000000 in
theorem c_X4_image {G : Gx} {sh : List Sh} (hs : TopAt sh) (M : Mm)  : CT yX4_image cX4_image 1 (some .int) rmX4_image G sh [.ref (G.2.2.2.2 0)] rvI M (m_X4_image   M) := by
  refine CT.of (by decide +kernel) (Nat.le_of_ble_eq_true rfl) (fun X hF => ?_)
  show VR X G sh 1 rvI M 0 [(0, .ref (G.2.2.2.2 0))] [] _
  unfold m_X4_image
  refine v_aload_n 0 1 hF dX4_image_0 rfl rfl rfl ?_
  refine v_getR (b := 25) 4 hF dX4_image_1 rfl fl_X4_45 hs.1 rfl ?_
  refine v_aload_n 0 5 hF dX4_image_4 rfl rfl rfl ?_
  refine v_getR (b := 7) 8 hF dX4_image_5 rfl fl_X4_38 hs.1 rfl ?_
  refine v_callV ([.ref (G.2.2.2.2 7)]) ([]) 11 hF dX4_image_8 rfl cw_X4_167 rfl (hs.2.2.2.2.2.1.1) (c_X3_takeOver (G := G) (hs.2.1) (hs.2.2.2.2.2.1) (hs.2.2.2.1) M) ⟨rfl, rfl, Nat.le_of_ble_eq_true rfl, Nat.le_of_ble_eq_true rfl⟩ rfl rfl (Nat.le_of_ble_eq_true rfl) (fun _ M1 => ?_)
  refine v_aload_n 0 12 hF dX4_image_11 rfl rfl rfl ?_
  refine v_iconst (1) 13 hF dX4_image_12 rfl (by decide) ?_
  refine v_putZ 16 hF dX4_image_13 rfl fl_X4_261 fp_X4_5 hs.1 rfl ⟨rfl, rfl⟩ (fun M2 => ?_)
  refine v_aload_n 0 17 hF dX4_image_16 rfl rfl rfl ?_
  refine v_getR (b := 7) 20 hF dX4_image_17 rfl fl_X4_38 hs.1 rfl ?_
  refine v_getI 23 hF dX4_image_20 rfl fl_X4_196 hs.2.2.2.1.1 rfl ?_
  exact v_iret hF dX4_image_23
abbrev rmX4_back : Room := { frames := 1, cells := 0, slots := 0, locals := 22 }
def m_X4_back  (M : Mm) : Option (Int32 × Mm) := if (M 0 5) = 0 then (some ((-3 : Int32), M)) else (bd (m_X3_takeOver 7 25 M) fun _ M1 => some ((M1 7 4), M1))
set_option maxRecDepth 100000 in
set_option maxHeartbeats 4000000 in
theorem c_X4_back {G : Gx} {sh : List Sh} (hs : TopAt sh) (M : Mm)  : CT yX4_back cX4_back 1 (some .int) rmX4_back G sh [.ref (G.2.2.2.2 0)] rvI M (m_X4_back   M) := by
  refine CT.of (by decide +kernel) (Nat.le_of_ble_eq_true rfl) (fun X hF => ?_)
  show VR X G sh 1 rvI M 0 [(0, .ref (G.2.2.2.2 0))] [] _
  unfold m_X4_back
  refine v_aload_n 0 1 hF dX4_back_0 rfl rfl rfl ?_
  refine v_getI 4 hF dX4_back_1 rfl fl_X4_261 hs.1 rfl ?_
  refine v_if_ne 7 10 hF dX4_back_4 rfl (by decide) (fun _ => ?_) (fun _ => ?_)
  · refine v_aload_n 0 11 hF dX4_back_10 rfl rfl rfl ?_
    refine v_getR (b := 7) 14 hF dX4_back_11 rfl fl_X4_38 hs.1 rfl ?_
    refine v_aload_n 0 15 hF dX4_back_14 rfl rfl rfl ?_
    refine v_getR (b := 25) 18 hF dX4_back_15 rfl fl_X4_45 hs.1 rfl ?_
    refine v_callV ([.ref (G.2.2.2.2 25)]) ([]) 21 hF dX4_back_18 rfl cw_X4_167 rfl (hs.2.2.2.1.1) (c_X3_takeOver (G := G) (hs.2.1) (hs.2.2.2.1) (hs.2.2.2.2.2.1) M) ⟨rfl, rfl, Nat.le_of_ble_eq_true rfl, Nat.le_of_ble_eq_true rfl⟩ rfl rfl (Nat.le_of_ble_eq_true rfl) (fun _ M1 => ?_)
    refine v_aload_n 0 22 hF dX4_back_21 rfl rfl rfl ?_
    refine v_getR (b := 7) 25 hF dX4_back_22 rfl fl_X4_38 hs.1 rfl ?_
    refine v_getI 28 hF dX4_back_25 rfl fl_X4_196 hs.2.2.2.1.1 rfl ?_
    exact v_iret hF dX4_back_28
  · refine v_bipush (-3) 9 hF dX4_back_7 rfl (by decide) ?_
    exact v_iret hF dX4_back_9
abbrev rmX4_count : Room := { frames := 1, cells := 0, slots := 0, locals := 22 }
def m_X4_count (x1 : Int32) (M : Mm) : Option (Int32 × Mm) := if x1 = (0) then (some ((M 7 4), M)) else (if x1 = (1) then (some ((M 7 5), M)) else (if x1 = (2) then (bd (m_X3_homes 7 M) fun r2 M1 => some (r2, M1)) else (if x1 = (3) then (some ((M 1 0), M)) else (if x1 = (4) then (some ((M 5 0), M)) else (if x1 = (5) then (some ((M 7 3), M)) else (some ((-2 : Int32), M)))))))
set_option maxRecDepth 100000 in
set_option maxHeartbeats 4000000 in
theorem c_X4_count {G : Gx} {sh : List Sh} (hs : TopAt sh) (M : Mm) (x1 : Int32) : CT yX4_count cX4_count 2 (some .int) rmX4_count G sh [.ref (G.2.2.2.2 0), .int x1] rvI M (m_X4_count  x1 M) := by
  refine CT.of (by decide +kernel) (Nat.le_of_ble_eq_true rfl) (fun X hF => ?_)
  show VR X G sh 2 rvI M 0 [(0, .ref (G.2.2.2.2 0)), (1, .int x1)] [] _
  unfold m_X4_count
  refine v_iload_n 1 1 hF dX4_count_0 rfl rfl rfl ?_
  refine v_ite (fun e1 => ?_) (fun n0 => ?_)
  · refine v_tsIn (0) (39) 40 hF dX4_count_1 e1 (by decide) rfl (by decide) ?_
    refine v_aload_n 0 41 hF dX4_count_40 rfl rfl rfl ?_
    refine v_getR (b := 7) 44 hF dX4_count_41 rfl fl_X4_38 hs.1 rfl ?_
    refine v_getI 47 hF dX4_count_44 rfl fl_X4_196 hs.2.2.2.1.1 rfl ?_
    exact v_iret hF dX4_count_47
  · refine v_ite (fun e1 => ?_) (fun n1 => ?_)
    · refine v_tsIn (1) (47) 48 hF dX4_count_1 e1 (by decide) rfl (by decide) ?_
      refine v_aload_n 0 49 hF dX4_count_48 rfl rfl rfl ?_
      refine v_getR (b := 7) 52 hF dX4_count_49 rfl fl_X4_38 hs.1 rfl ?_
      refine v_getI 55 hF dX4_count_52 rfl fl_X4_211 hs.2.2.2.1.1 rfl ?_
      exact v_iret hF dX4_count_55
    · refine v_ite (fun e1 => ?_) (fun n2 => ?_)
      · refine v_tsIn (2) (55) 56 hF dX4_count_1 e1 (by decide) rfl (by decide) ?_
        refine v_aload_n 0 57 hF dX4_count_56 rfl rfl rfl ?_
        refine v_getR (b := 7) 60 hF dX4_count_57 rfl fl_X4_38 hs.1 rfl ?_
        refine v_callI ([]) ([]) 63 hF dX4_count_60 rfl cw_X4_175 rfl (hs.2.2.2.1.1) (c_X3_homes (G := G) (hs.2.1) (hs.2.2.2.1) M) ⟨rfl, rfl, Nat.le_of_ble_eq_true rfl, Nat.le_of_ble_eq_true rfl⟩ rfl rfl (Nat.le_of_ble_eq_true rfl) (fun r2 M1 => ?_)
        exact v_iret hF dX4_count_63
      · refine v_ite (fun e1 => ?_) (fun n3 => ?_)
        · refine v_tsIn (3) (63) 64 hF dX4_count_1 e1 (by decide) rfl (by decide) ?_
          refine v_aload_n 0 65 hF dX4_count_64 rfl rfl rfl ?_
          refine v_getR (b := 1) 68 hF dX4_count_65 rfl fl_X4_10 hs.1 rfl ?_
          refine v_getI 71 hF dX4_count_68 rfl fl_X4_154 hs.2.1.1 rfl ?_
          exact v_iret hF dX4_count_71
        · refine v_ite (fun e1 => ?_) (fun n4 => ?_)
          · refine v_tsIn (4) (71) 72 hF dX4_count_1 e1 (by decide) rfl (by decide) ?_
            refine v_aload_n 0 73 hF dX4_count_72 rfl rfl rfl ?_
            refine v_getR (b := 5) 76 hF dX4_count_73 rfl fl_X4_21 hs.1 rfl ?_
            refine v_getI 79 hF dX4_count_76 rfl fl_X4_147 hs.2.2.1.1 rfl ?_
            exact v_iret hF dX4_count_79
          · refine v_ite (fun e1 => ?_) (fun n5 => ?_)
            · refine v_tsIn (5) (79) 80 hF dX4_count_1 e1 (by decide) rfl (by decide) ?_
              refine v_aload_n 0 81 hF dX4_count_80 rfl rfl rfl ?_
              refine v_getR (b := 7) 84 hF dX4_count_81 rfl fl_X4_38 hs.1 rfl ?_
              refine v_getI 87 hF dX4_count_84 rfl fl_X4_158 hs.2.2.2.1.1 rfl ?_
              exact v_iret hF dX4_count_87
            · refine v_tsOut 88 hF dX4_count_1 (by have a0 := lv_neT n0 (a := (0)) (by decide); have a1 := lv_neT n1 (a := (1)) (by decide); have a2 := lv_neT n2 (a := (2)) (by decide); have a3 := lv_neT n3 (a := (3)) (by decide); have a4 := lv_neT n4 (a := (4)) (by decide); have a5 := lv_neT n5 (a := (5)) (by decide); omega) (by decide) ?_
              refine v_bipush (-2) 90 hF dX4_count_88 rfl (by decide) ?_
              exact v_iret hF dX4_count_90
