abbrev rmX4_film : Room := { frames := 6, cells := 0, slots := 0, locals := 142 }
def m_X4_film_B57 (a2 : Nat) (n57 : Int32 → Int32 → Int32 → Mm → Option (Int32 × Mm)) (x2 : Int32) (x3 : Int32) (x5 : Int32) (M : Mm) : Option (Int32 × Mm) := if x3 ≤ x5 then (some (x3, M)) else (bd (m_X3_passDayOf 16 x2 M) fun _ M1 => bd (m_X3_whereIs 16 x2 M1) fun r3 M2 => bd (m_X0_put a2 x5 r3 M2) fun _ M4 => lt1 (x5 + 1) fun y5 => n57 x2 x3 y5 M4)
def m_X4_film_L57 (a2 : Nat) : Nat → Int32 → Int32 → Int32 → Mm → Option (Int32 × Mm)
  | 0 => fun _ _ _ _ => none
  | n + 1 => m_X4_film_B57 a2 (m_X4_film_L57 a2 n)
def m_X4_film (x1 : Int32) (x2 : Int32) (x3 : Int32) (M : Mm) : Option (Int32 × Mm) := bd (m_X4_sheetNumbered x1 M) (rcase (fun M6 => some ((-2 : Int32), M6)) (fun a2 M6 => gd (isShe a2) (bd (m_X3_isLetter 7 x2 M6) fun r8 M7 => if r8 = 0 then (some ((-2 : Int32), M7)) else (if x3 < 0 then (some ((-2 : Int32), M7)) else (if x3 ≤ (20 : Int32) then (bd (m_X0_become a2 ((0 : Int32)) x3 M7) fun _ M9 => bd (m_X3_takeOver 16 7 M9) fun _ M10 => lt1 ((0 : Int32)) fun y11 => m_X4_film_L57 a2 FU x2 x3 y11 M10) else (some ((-2 : Int32), M7)))))))
set_option maxRecDepth 100000 in
set_option maxHeartbeats 4000000 in
theorem v_X4_film_B57 {X : Cx} {G : Gx} {sh : List Sh} (hF : FX X G sh 6 cX4_film (yX4_film).cls (some .int) rmX4_film) {a2 : Nat} (hs : TopAt sh) (ha2 : SheAt sh a2) (n57 : Int32 → Int32 → Int32 → Mm → Option (Int32 × Mm)) (h57 : ∀ (x2 : Int32) (x3 : Int32) (x5 : Int32) (M : Mm), VR X G sh 6 rvI M 57 [(0, .ref (G.2.2.2.2 0)), (2, .int x2), (3, .int x3), (4, .ref (G.2.2.2.2 a2)), (5, .int x5)] [] (n57 x2 x3 x5 M)) : ∀ (x2 : Int32) (x3 : Int32) (x5 : Int32) (M : Mm), VR X G sh 6 rvI M 57 [(0, .ref (G.2.2.2.2 0)), (2, .int x2), (3, .int x3), (4, .ref (G.2.2.2.2 a2)), (5, .int x5)] [] (m_X4_film_B57 a2 n57 x2 x3 x5 M) := by
  intro x2 x3 x5 M
  unfold m_X4_film_B57
  refine v_iload 4 59 hF dX4_film_57 rfl rfl ?_
  refine v_iload_n 2 60 hF dX4_film_59 rfl rfl rfl ?_
  refine v_icmp_ge 63 92 hF dX4_film_60 rfl (by decide) (fun _ => ?_) (fun _ => ?_)
  · refine v_iload_n 2 93 hF dX4_film_92 rfl rfl rfl ?_
    exact v_iret hF dX4_film_93
  · refine v_aload_n 0 64 hF dX4_film_63 rfl rfl rfl ?_
    refine v_getR (b := 16) 67 hF dX4_film_64 rfl fl_X4_42 hs.1 rfl ?_
    refine v_iload_n 1 68 hF dX4_film_67 rfl rfl rfl ?_
    refine v_callV ([.int x2]) ([]) 71 hF dX4_film_68 rfl cw_X4_178 rfl (hs.2.2.2.2.1.1) (c_X3_passDayOf (G := G) (hs.2.1) (hs.2.2.2.2.1) M x2) ⟨rfl, rfl, Nat.le_of_ble_eq_true rfl, Nat.le_of_ble_eq_true rfl⟩ rfl rfl (Nat.le_of_ble_eq_true rfl) (fun _ M1 => ?_)
    refine v_aload 3 73 hF dX4_film_71 rfl rfl ?_
    refine v_iload 4 75 hF dX4_film_73 rfl rfl ?_
    refine v_aload_n 0 76 hF dX4_film_75 rfl rfl rfl ?_
    refine v_getR (b := 16) 79 hF dX4_film_76 rfl fl_X4_42 hs.1 rfl ?_
    refine v_iload_n 1 80 hF dX4_film_79 rfl rfl rfl ?_
    refine v_callI ([.int x2]) ([.int x5, .ref (G.2.2.2.2 a2)]) 83 hF dX4_film_80 rfl cw_X4_138 rfl (hs.2.2.2.2.1.1) (c_X3_whereIs (G := G) (hs.2.1) (hs.2.2.2.2.1) M1 x2) ⟨rfl, rfl, Nat.le_of_ble_eq_true rfl, Nat.le_of_ble_eq_true rfl⟩ rfl rfl (Nat.le_of_ble_eq_true rfl) (fun r3 M2 => ?_)
    refine v_callV ([.int x5, .int r3]) ([]) 86 hF dX4_film_83 rfl cw_X4_255 rfl (ha2.1) (c_X0_put (G := G) ha2 M2 x5 r3) ⟨rfl, rfl, Nat.le_of_ble_eq_true rfl, Nat.le_of_ble_eq_true rfl⟩ rfl rfl (Nat.le_of_ble_eq_true rfl) (fun _ M4 => ?_)
    refine v_iinc (v := (x5 + 1)) (lo' := fun y5 => [(5, .int y5), (0, .ref (G.2.2.2.2 0)), (2, .int x2), (3, .int x3), (4, .ref (G.2.2.2.2 a2))]) 4 89 hF dX4_film_86 rfl rfl rfl (by decide) (fun _ => rfl) (fun y5 => ?_)
    refine v_goto 57 hF dX4_film_89 (by decide) ?_
    refine VR.pick [1, 2, 3, 4, 0] rfl ?_
    exact h57 x2 x3 y5 M4
theorem v_X4_film_L57 {X : Cx} {G : Gx} {sh : List Sh} (hF : FX X G sh 6 cX4_film (yX4_film).cls (some .int) rmX4_film) {a2 : Nat} (hs : TopAt sh) (ha2 : SheAt sh a2) : ∀ (n : Nat), ∀ (x2 : Int32) (x3 : Int32) (x5 : Int32) (M : Mm), VR X G sh 6 rvI M 57 [(0, .ref (G.2.2.2.2 0)), (2, .int x2), (3, .int x3), (4, .ref (G.2.2.2.2 a2)), (5, .int x5)] [] (m_X4_film_L57 a2 n x2 x3 x5 M) := by
  intro n
  induction n with
  | zero => intro x2 x3 x5 M; exact VR.none
  | succ n ih => exact v_X4_film_B57 hF hs ha2 _ ih
set_option maxRecDepth 100000 in
set_option maxHeartbeats 4000000 in
theorem c_X4_film {G : Gx} {sh : List Sh} (hs : TopAt sh) (M : Mm) (x1 : Int32) (x2 : Int32) (x3 : Int32) : CT yX4_film cX4_film 6 (some .int) rmX4_film G sh [.ref (G.2.2.2.2 0), .int x1, .int x2, .int x3] rvI M (m_X4_film  x1 x2 x3 M) := by
  refine CT.of (by decide +kernel) (Nat.le_of_ble_eq_true rfl) (fun X hF => ?_)
  show VR X G sh 6 rvI M 0 [(0, .ref (G.2.2.2.2 0)), (1, .int x1), (2, .int x2), (3, .int x3)] [] _
  unfold m_X4_film
  refine v_aload_n 0 1 hF dX4_film_0 rfl rfl rfl ?_
  refine v_iload_n 1 2 hF dX4_film_1 rfl rfl rfl ?_
  refine v_callR ([.int x1]) ([]) 5 hF dX4_film_2 rfl cw_X4_228 rfl (hs.1) (c_X4_sheetNumbered (G := G) hs M x1) ⟨rfl, rfl, Nat.le_of_ble_eq_true rfl, Nat.le_of_ble_eq_true rfl⟩ rfl rfl (Nat.le_of_ble_eq_true rfl) (fun M6 => ?_) (fun a2 M6 => v_gd (fun ha2 => ?_))
  · refine v_astoreN (lo' := [(4, .null), (0, .ref (G.2.2.2.2 0)), (1, .int x1), (2, .int x2), (3, .int x3)]) 7 hF dX4_film_5 rfl (by decide) rfl ?_
    refine v_aloadN 0 9 hF dX4_film_7 rfl rfl ?_
    refine v_ifnullN 33 hF dX4_film_9 (by decide) ?_
    refine v_bipush (-2) 35 hF dX4_film_33 rfl (by decide) ?_
    exact v_iret hF dX4_film_35
  · have ha2 := she_of hs ha2
    refine v_astore (lo' := [(4, .ref (G.2.2.2.2 a2)), (0, .ref (G.2.2.2.2 0)), (1, .int x1), (2, .int x2), (3, .int x3)]) 7 hF dX4_film_5 rfl (by decide) rfl ?_
    refine v_aload 0 9 hF dX4_film_7 rfl rfl ?_
    refine v_ifnullR 12 hF dX4_film_9 rfl ?_
    refine v_aload_n 1 13 hF dX4_film_12 rfl rfl rfl ?_
    refine v_getR (b := 7) 16 hF dX4_film_13 rfl fl_X4_38 hs.1 rfl ?_
    refine v_iload_n 3 17 hF dX4_film_16 rfl rfl rfl ?_
    refine v_callI ([.int x2]) ([]) 20 hF dX4_film_17 rfl cw_X4_98 rfl (hs.2.2.2.1.1) (c_X3_isLetter (G := G) (hs.2.1) (hs.2.2.2.1) M6 x2) ⟨rfl, rfl, Nat.le_of_ble_eq_true rfl, Nat.le_of_ble_eq_true rfl⟩ rfl rfl (Nat.le_of_ble_eq_true rfl) (fun r8 M7 => ?_)
    refine v_if_eq 23 33 hF dX4_film_20 rfl (by decide) (fun _ => ?_) (fun _ => ?_)
    · refine v_bipush (-2) 35 hF dX4_film_33 rfl (by decide) ?_
      exact v_iret hF dX4_film_35
    · refine v_iload_n 4 24 hF dX4_film_23 rfl rfl rfl ?_
      refine v_if_lt 27 33 hF dX4_film_24 rfl (by decide) (fun _ => ?_) (fun _ => ?_)
      · refine v_bipush (-2) 35 hF dX4_film_33 rfl (by decide) ?_
        exact v_iret hF dX4_film_35
      · refine v_iload_n 4 28 hF dX4_film_27 rfl rfl rfl ?_
        refine v_bipush (20) 30 hF dX4_film_28 rfl (by decide) ?_
        refine v_icmp_le 33 36 hF dX4_film_30 rfl (by decide) (fun _ => ?_) (fun _ => ?_)
        · refine v_aload 0 38 hF dX4_film_36 rfl rfl ?_
          refine v_iconst (0) 39 hF dX4_film_38 rfl (by decide) ?_
          refine v_iload_n 4 40 hF dX4_film_39 rfl rfl rfl ?_
          refine v_callV ([.int ((0 : Int32)), .int x3]) ([]) 43 hF dX4_film_40 rfl cw_X4_252 rfl (ha2.1) (c_X0_become (G := G) ha2 M7 ((0 : Int32)) x3) ⟨rfl, rfl, Nat.le_of_ble_eq_true rfl, Nat.le_of_ble_eq_true rfl⟩ rfl rfl (Nat.le_of_ble_eq_true rfl) (fun _ M9 => ?_)
          refine v_aload_n 1 44 hF dX4_film_43 rfl rfl rfl ?_
          refine v_getR (b := 16) 47 hF dX4_film_44 rfl fl_X4_42 hs.1 rfl ?_
          refine v_aload_n 1 48 hF dX4_film_47 rfl rfl rfl ?_
          refine v_getR (b := 7) 51 hF dX4_film_48 rfl fl_X4_38 hs.1 rfl ?_
          refine v_callV ([.ref (G.2.2.2.2 7)]) ([]) 54 hF dX4_film_51 rfl cw_X4_167 rfl (hs.2.2.2.2.1.1) (c_X3_takeOver (G := G) (hs.2.1) (hs.2.2.2.2.1) (hs.2.2.2.1) M9) ⟨rfl, rfl, Nat.le_of_ble_eq_true rfl, Nat.le_of_ble_eq_true rfl⟩ rfl rfl (Nat.le_of_ble_eq_true rfl) (fun _ M10 => ?_)
          refine v_iconst (0) 55 hF dX4_film_54 rfl (by decide) ?_
          refine v_istore (lo' := fun y11 => [(5, .int y11), (4, .ref (G.2.2.2.2 a2)), (0, .ref (G.2.2.2.2 0)), (1, .int x1), (2, .int x2), (3, .int x3)]) 57 hF dX4_film_55 rfl (by decide) (fun _ => rfl) (fun y11 => ?_)
          refine VR.pick [2, 4, 5, 1, 0] rfl ?_
          exact v_X4_film_L57 hF hs ha2 FU x2 x3 y11 M10
        · refine v_bipush (-2) 35 hF dX4_film_33 rfl (by decide) ?_
          exact v_iret hF dX4_film_35
abbrev rmX4_homesDrawn : Room := { frames := 6, cells := 0, slots := 0, locals := 143 }
def m_X4_homesDrawn_J86 (n16 : Int32 → Int32 → Int32 → Mm → Option (Int32 × Mm)) (x2 : Int32) (x3 : Int32) (x4 : Int32) (M : Mm) : Option (Int32 × Mm) := bd (m_X3_passDay 16 M) fun r2 M1 => lt1 (x4 + 1) fun y3 => n16 x2 x3 y3 M1
def m_X4_homesDrawn_B16 (n16 : Int32 → Int32 → Int32 → Mm → Option (Int32 × Mm)) (x2 : Int32) (x3 : Int32) (x4 : Int32) (M : Mm) : Option (Int32 × Mm) := if x2 ≤ x4 then (bd (m_X3_homes 16 M) fun r5 M4 => some (r5, M4)) else (lt1 (((x3 * (1103515245 : Int32)) + (12345 : Int32))) fun y6 => gd (!(decide ((8 : Int32) = 0))) (lt1 ((irm ((ushr y6 ((9 : Int32)))) ((8 : Int32)))) fun y7 => lt1 (((y6 * (1103515245 : Int32)) + (12345 : Int32))) fun y8 => gd (!(decide ((8 : Int32) = 0))) (lt1 ((irm ((ushr y8 ((9 : Int32)))) ((8 : Int32)))) fun y9 => bd (m_X3_areTwo 16 y7 y9 M) fun r11 M10 => if r11 = 0 then (m_X4_homesDrawn_J86 n16 x2 y8 x4 M10) else (bd (m_X3_post 16 y7 y9 M10) fun r13 M12 => m_X4_homesDrawn_J86 n16 x2 y8 x4 M12))))
def m_X4_homesDrawn_L16 : Nat → Int32 → Int32 → Int32 → Mm → Option (Int32 × Mm)
  | 0 => fun _ _ _ _ => none
  | n + 1 => m_X4_homesDrawn_B16  (m_X4_homesDrawn_L16  n)
def m_X4_homesDrawn (x1 : Int32) (x2 : Int32) (M : Mm) : Option (Int32 × Mm) := bd (m_X3_takeOver 16 7 M) fun _ M14 => lt1 x1 fun y15 => lt1 ((0 : Int32)) fun y16 => m_X4_homesDrawn_L16 FU x2 y15 y16 M14
set_option maxRecDepth 100000 in
set_option maxHeartbeats 4000000 in
theorem v_X4_homesDrawn_J86 {X : Cx} {G : Gx} {sh : List Sh} (hF : FX X G sh 7 cX4_homesDrawn (yX4_homesDrawn).cls (some .int) rmX4_homesDrawn) (hs : TopAt sh) (n16 : Int32 → Int32 → Int32 → Mm → Option (Int32 × Mm)) (h16 : ∀ (x2 : Int32) (x3 : Int32) (x4 : Int32) (M : Mm), VR X G sh 7 rvI M 16 [(0, .ref (G.2.2.2.2 0)), (2, .int x2), (3, .int x3), (4, .int x4)] [] (n16 x2 x3 x4 M)) : ∀ (x2 : Int32) (x3 : Int32) (x4 : Int32) (M : Mm), VR X G sh 7 rvI M 86 [(0, .ref (G.2.2.2.2 0)), (2, .int x2), (3, .int x3), (4, .int x4)] [] (m_X4_homesDrawn_J86  n16 x2 x3 x4 M) := by
  intro x2 x3 x4 M
  unfold m_X4_homesDrawn_J86
  refine v_aload_n 0 87 hF dX4_homesDrawn_86 rfl rfl rfl ?_
  refine v_getR (b := 16) 90 hF dX4_homesDrawn_87 rfl fl_X4_42 hs.1 rfl ?_
  refine v_callI ([]) ([]) 93 hF dX4_homesDrawn_90 rfl cw_X4_164 rfl (hs.2.2.2.2.1.1) (c_X3_passDay (G := G) (hs.2.1) (hs.2.2.2.2.1) M) ⟨rfl, rfl, Nat.le_of_ble_eq_true rfl, Nat.le_of_ble_eq_true rfl⟩ rfl rfl (Nat.le_of_ble_eq_true rfl) (fun r2 M1 => ?_)
  refine v_popI 94 hF dX4_homesDrawn_93 rfl ?_
  refine v_iinc (v := (x4 + 1)) (lo' := fun y3 => [(4, .int y3), (0, .ref (G.2.2.2.2 0)), (2, .int x2), (3, .int x3)]) 3 97 hF dX4_homesDrawn_94 rfl rfl rfl (by decide) (fun _ => rfl) (fun y3 => ?_)
  refine v_goto 16 hF dX4_homesDrawn_97 (by decide) ?_
  refine VR.pick [1, 2, 3, 0] rfl ?_
  exact h16 x2 x3 y3 M1
set_option maxRecDepth 100000 in
set_option maxHeartbeats 4000000 in
theorem v_X4_homesDrawn_B16 {X : Cx} {G : Gx} {sh : List Sh} (hF : FX X G sh 7 cX4_homesDrawn (yX4_homesDrawn).cls (some .int) rmX4_homesDrawn) (hs : TopAt sh) (n16 : Int32 → Int32 → Int32 → Mm → Option (Int32 × Mm)) (h16 : ∀ (x2 : Int32) (x3 : Int32) (x4 : Int32) (M : Mm), VR X G sh 7 rvI M 16 [(0, .ref (G.2.2.2.2 0)), (2, .int x2), (3, .int x3), (4, .int x4)] [] (n16 x2 x3 x4 M)) : ∀ (x2 : Int32) (x3 : Int32) (x4 : Int32) (M : Mm), VR X G sh 7 rvI M 16 [(0, .ref (G.2.2.2.2 0)), (2, .int x2), (3, .int x3), (4, .int x4)] [] (m_X4_homesDrawn_B16  n16 x2 x3 x4 M) := by
  intro x2 x3 x4 M
  unfold m_X4_homesDrawn_B16
  refine v_iload 3 18 hF dX4_homesDrawn_16 rfl rfl ?_
  refine v_iload_n 1 19 hF dX4_homesDrawn_18 rfl rfl rfl ?_
  refine v_icmp_ge 22 100 hF dX4_homesDrawn_19 rfl (by decide) (fun _ => ?_) (fun _ => ?_)
  · refine v_aload_n 0 101 hF dX4_homesDrawn_100 rfl rfl rfl ?_
    refine v_getR (b := 16) 104 hF dX4_homesDrawn_101 rfl fl_X4_42 hs.1 rfl ?_
    refine v_callI ([]) ([]) 107 hF dX4_homesDrawn_104 rfl cw_X4_175 rfl (hs.2.2.2.2.1.1) (c_X3_homes (G := G) (hs.2.1) (hs.2.2.2.2.1) M) ⟨rfl, rfl, Nat.le_of_ble_eq_true rfl, Nat.le_of_ble_eq_true rfl⟩ rfl rfl (Nat.le_of_ble_eq_true rfl) (fun r5 M4 => ?_)
    exact v_iret hF dX4_homesDrawn_107
  · refine v_iload_n 2 23 hF dX4_homesDrawn_22 rfl rfl rfl ?_
    refine v_ldcw (1103515245) 26 hF dX4_homesDrawn_23 rfl cc_X4_268 ?_
    refine v_imul 27 hF dX4_homesDrawn_26 rfl ?_
    refine v_sipush (12345) 30 hF dX4_homesDrawn_27 rfl (by decide) ?_
    refine v_iadd 31 hF dX4_homesDrawn_30 rfl ?_
    refine v_istore_n (lo' := fun y6 => [(3, .int y6), (0, .ref (G.2.2.2.2 0)), (2, .int x2), (4, .int x4)]) 32 hF dX4_homesDrawn_31 rfl rfl (by decide) (fun _ => rfl) (fun y6 => ?_)
    refine v_iload_n 0 33 hF dX4_homesDrawn_32 rfl rfl rfl ?_
    refine v_bipush (9) 35 hF dX4_homesDrawn_33 rfl (by decide) ?_
    refine v_iushr 36 hF dX4_homesDrawn_35 rfl ?_
    refine v_bipush (8) 38 hF dX4_homesDrawn_36 rfl (by decide) ?_
    refine v_irem 39 hF dX4_homesDrawn_38 rfl ?_
    refine v_istore (lo' := fun y7 => [(5, .int y7), (3, .int y6), (0, .ref (G.2.2.2.2 0)), (2, .int x2), (4, .int x4)]) 41 hF dX4_homesDrawn_39 rfl (by decide) (fun _ => rfl) (fun y7 => ?_)
    refine v_iload_n 1 42 hF dX4_homesDrawn_41 rfl rfl rfl ?_
    refine v_ldcw (1103515245) 45 hF dX4_homesDrawn_42 rfl cc_X4_268 ?_
    refine v_imul 46 hF dX4_homesDrawn_45 rfl ?_
    refine v_sipush (12345) 49 hF dX4_homesDrawn_46 rfl (by decide) ?_
    refine v_iadd 50 hF dX4_homesDrawn_49 rfl ?_
    refine v_istore_n (lo' := fun y8 => [(3, .int y8), (5, .int y7), (0, .ref (G.2.2.2.2 0)), (2, .int x2), (4, .int x4)]) 51 hF dX4_homesDrawn_50 rfl rfl (by decide) (fun _ => rfl) (fun y8 => ?_)
    refine v_iload_n 0 52 hF dX4_homesDrawn_51 rfl rfl rfl ?_
    refine v_bipush (9) 54 hF dX4_homesDrawn_52 rfl (by decide) ?_
    refine v_iushr 55 hF dX4_homesDrawn_54 rfl ?_
    refine v_bipush (8) 57 hF dX4_homesDrawn_55 rfl (by decide) ?_
    refine v_irem 58 hF dX4_homesDrawn_57 rfl ?_
    refine v_istore (lo' := fun y9 => [(6, .int y9), (3, .int y8), (5, .int y7), (0, .ref (G.2.2.2.2 0)), (2, .int x2), (4, .int x4)]) 60 hF dX4_homesDrawn_58 rfl (by decide) (fun _ => rfl) (fun y9 => ?_)
    refine v_aload_n 3 61 hF dX4_homesDrawn_60 rfl rfl rfl ?_
    refine v_getR (b := 16) 64 hF dX4_homesDrawn_61 rfl fl_X4_42 hs.1 rfl ?_
    refine v_iload 2 66 hF dX4_homesDrawn_64 rfl rfl ?_
    refine v_iload 0 68 hF dX4_homesDrawn_66 rfl rfl ?_
    refine v_callI ([.int y7, .int y9]) ([]) 71 hF dX4_homesDrawn_68 rfl cw_X4_88 rfl (hs.2.2.2.2.1.1) (c_X3_areTwo (G := G) (hs.2.1) (hs.2.2.2.2.1) M y7 y9) ⟨rfl, rfl, Nat.le_of_ble_eq_true rfl, Nat.le_of_ble_eq_true rfl⟩ rfl rfl (Nat.le_of_ble_eq_true rfl) (fun r11 M10 => ?_)
    refine v_if_eq 74 86 hF dX4_homesDrawn_71 rfl (by decide) (fun _ => ?_) (fun _ => ?_)
    · refine VR.pick [3, 4, 1, 5] rfl ?_
      exact v_X4_homesDrawn_J86 hF hs _ h16 x2 y8 x4 M10
    · refine v_aload_n 3 75 hF dX4_homesDrawn_74 rfl rfl rfl ?_
      refine v_getR (b := 16) 78 hF dX4_homesDrawn_75 rfl fl_X4_42 hs.1 rfl ?_
      refine v_iload 2 80 hF dX4_homesDrawn_78 rfl rfl ?_
      refine v_iload 0 82 hF dX4_homesDrawn_80 rfl rfl ?_
      refine v_callI ([.int y7, .int y9]) ([]) 85 hF dX4_homesDrawn_82 rfl cw_X4_161 rfl (hs.2.2.2.2.1.1) (c_X3_post (G := G) (hs.2.1) (hs.2.2.2.2.1) M10 y7 y9) ⟨rfl, rfl, Nat.le_of_ble_eq_true rfl, Nat.le_of_ble_eq_true rfl⟩ rfl rfl (Nat.le_of_ble_eq_true rfl) (fun r13 M12 => ?_)
      refine v_popI 86 hF dX4_homesDrawn_85 rfl ?_
      refine VR.pick [3, 4, 1, 5] rfl ?_
      exact v_X4_homesDrawn_J86 hF hs _ h16 x2 y8 x4 M12
theorem v_X4_homesDrawn_L16 {X : Cx} {G : Gx} {sh : List Sh} (hF : FX X G sh 7 cX4_homesDrawn (yX4_homesDrawn).cls (some .int) rmX4_homesDrawn) (hs : TopAt sh) : ∀ (n : Nat), ∀ (x2 : Int32) (x3 : Int32) (x4 : Int32) (M : Mm), VR X G sh 7 rvI M 16 [(0, .ref (G.2.2.2.2 0)), (2, .int x2), (3, .int x3), (4, .int x4)] [] (m_X4_homesDrawn_L16  n x2 x3 x4 M) := by
  intro n
  induction n with
  | zero => intro x2 x3 x4 M; exact VR.none
  | succ n ih => exact v_X4_homesDrawn_B16 hF hs _ ih
set_option maxRecDepth 100000 in
set_option maxHeartbeats 4000000 in
theorem c_X4_homesDrawn {G : Gx} {sh : List Sh} (hs : TopAt sh) (M : Mm) (x1 : Int32) (x2 : Int32) : CT yX4_homesDrawn cX4_homesDrawn 7 (some .int) rmX4_homesDrawn G sh [.ref (G.2.2.2.2 0), .int x1, .int x2] rvI M (m_X4_homesDrawn  x1 x2 M) := by
  refine CT.of (by decide +kernel) (Nat.le_of_ble_eq_true rfl) (fun X hF => ?_)
  show VR X G sh 7 rvI M 0 [(0, .ref (G.2.2.2.2 0)), (1, .int x1), (2, .int x2)] [] _
  unfold m_X4_homesDrawn
  refine v_aload_n 0 1 hF dX4_homesDrawn_0 rfl rfl rfl ?_
  refine v_getR (b := 16) 4 hF dX4_homesDrawn_1 rfl fl_X4_42 hs.1 rfl ?_
  refine v_aload_n 0 5 hF dX4_homesDrawn_4 rfl rfl rfl ?_
  refine v_getR (b := 7) 8 hF dX4_homesDrawn_5 rfl fl_X4_38 hs.1 rfl ?_
  refine v_callV ([.ref (G.2.2.2.2 7)]) ([]) 11 hF dX4_homesDrawn_8 rfl cw_X4_167 rfl (hs.2.2.2.2.1.1) (c_X3_takeOver (G := G) (hs.2.1) (hs.2.2.2.2.1) (hs.2.2.2.1) M) ⟨rfl, rfl, Nat.le_of_ble_eq_true rfl, Nat.le_of_ble_eq_true rfl⟩ rfl rfl (Nat.le_of_ble_eq_true rfl) (fun _ M14 => ?_)
  refine v_iload_n 1 12 hF dX4_homesDrawn_11 rfl rfl rfl ?_
  refine v_istore_n (lo' := fun y15 => [(3, .int y15), (0, .ref (G.2.2.2.2 0)), (1, .int x1), (2, .int x2)]) 13 hF dX4_homesDrawn_12 rfl rfl (by decide) (fun _ => rfl) (fun y15 => ?_)
  refine v_iconst (0) 14 hF dX4_homesDrawn_13 rfl (by decide) ?_
  refine v_istore (lo' := fun y16 => [(4, .int y16), (3, .int y15), (0, .ref (G.2.2.2.2 0)), (1, .int x1), (2, .int x2)]) 16 hF dX4_homesDrawn_14 rfl (by decide) (fun _ => rfl) (fun y16 => ?_)
  refine VR.pick [2, 4, 1, 0] rfl ?_
  exact v_X4_homesDrawn_L16 hF hs FU x2 y15 y16 M14
abbrev rmX4_drawn : Room := { frames := 7, cells := 0, slots := 0, locals := 169 }
def m_X4_drawn_J10  (M : Mm) : Option (Int32 × Mm) := some ((-2 : Int32), M)
def m_X4_drawn (x1 : Int32) (x2 : Int32) (M : Mm) : Option (Int32 × Mm) := if x2 < 0 then (m_X4_drawn_J10 M) else (if x2 ≤ (40 : Int32) then (bd (m_X4_homesDrawn x1 x2 M) fun r2 M1 => some (r2, M1)) else (m_X4_drawn_J10 M))
set_option maxRecDepth 100000 in
set_option maxHeartbeats 4000000 in
theorem v_X4_drawn_J10 {X : Cx} {G : Gx} {sh : List Sh} (hF : FX X G sh 3 cX4_drawn (yX4_drawn).cls (some .int) rmX4_drawn) (hs : TopAt sh) : ∀ (M : Mm), VR X G sh 3 rvI M 10 [(0, .ref (G.2.2.2.2 0))] [] (m_X4_drawn_J10   M) := by
  intro  M
  unfold m_X4_drawn_J10
  refine v_bipush (-2) 12 hF dX4_drawn_10 rfl (by decide) ?_
  refine v_goto 21 hF dX4_drawn_12 (by decide) ?_
  exact v_iret hF dX4_drawn_21
set_option maxRecDepth 100000 in
set_option maxHeartbeats 4000000 in
theorem c_X4_drawn {G : Gx} {sh : List Sh} (hs : TopAt sh) (M : Mm) (x1 : Int32) (x2 : Int32) : CT yX4_drawn cX4_drawn 3 (some .int) rmX4_drawn G sh [.ref (G.2.2.2.2 0), .int x1, .int x2] rvI M (m_X4_drawn  x1 x2 M) := by
  refine CT.of (by decide +kernel) (Nat.le_of_ble_eq_true rfl) (fun X hF => ?_)
  show VR X G sh 3 rvI M 0 [(0, .ref (G.2.2.2.2 0)), (1, .int x1), (2, .int x2)] [] _
  unfold m_X4_drawn
  refine v_iload_n 2 1 hF dX4_drawn_0 rfl rfl rfl ?_
  refine v_if_lt 4 10 hF dX4_drawn_1 rfl (by decide) (fun _ => ?_) (fun _ => ?_)
  · refine VR.pick [0] rfl ?_
    exact v_X4_drawn_J10 hF hs M
  · refine v_iload_n 2 5 hF dX4_drawn_4 rfl rfl rfl ?_
    refine v_bipush (40) 7 hF dX4_drawn_5 rfl (by decide) ?_
    refine v_icmp_le 10 15 hF dX4_drawn_7 rfl (by decide) (fun _ => ?_) (fun _ => ?_)
    · refine v_aload_n 0 16 hF dX4_drawn_15 rfl rfl rfl ?_
      refine v_iload_n 1 17 hF dX4_drawn_16 rfl rfl rfl ?_
      refine v_iload_n 2 18 hF dX4_drawn_17 rfl rfl rfl ?_
      refine v_callI ([.int x1, .int x2]) ([]) 21 hF dX4_drawn_18 rfl cw_X4_258 rfl (hs.1) (c_X4_homesDrawn (G := G) hs M x1 x2) ⟨rfl, rfl, Nat.le_of_ble_eq_true rfl, Nat.le_of_ble_eq_true rfl⟩ rfl rfl (Nat.le_of_ble_eq_true rfl) (fun r2 M1 => ?_)
      exact v_iret hF dX4_drawn_21
    · refine VR.pick [0] rfl ?_
      exact v_X4_drawn_J10 hF hs M
abbrev rmX4_chance : Room := { frames := 7, cells := 0, slots := 0, locals := 169 }
def m_X4_chance_J65 (n42 : Int32 → Int32 → Int32 → Int32 → Int32 → Int32 → Mm → Option (Int64 × Mm)) (x1 : Int32) (x2 : Int32) (x3 : Int32) (x4 : Int32) (x5 : Int32) (x6 : Int32) (M : Mm) : Option (Int64 × Mm) := lt1 (x6 + 1) fun y1 => n42 x1 x2 x3 x4 x5 y1 M
def m_X4_chance_B42 (n42 : Int32 → Int32 → Int32 → Int32 → Int32 → Int32 → Mm → Option (Int64 × Mm)) (x1 : Int32) (x2 : Int32) (x3 : Int32) (x4 : Int32) (x5 : Int32) (x6 : Int32) (M : Mm) : Option (Int64 × Mm) := if x2 ≤ x6 then (bd (m_X4_inLowestTerms x5 x2 x4 M) fun r3 M2 => some (r3, M2)) else (bd (m_X4_homesDrawn ((x1 + x6)) ((10 : Int32)) M) fun r5 M4 => if r5 < x3 then (m_X4_chance_J65 n42 x1 x2 x3 x4 x5 x6 M4) else (lt1 (x5 + 1) fun y6 => m_X4_chance_J65 n42 x1 x2 x3 x4 y6 x6 M4))
def m_X4_chance_L42 : Nat → Int32 → Int32 → Int32 → Int32 → Int32 → Int32 → Mm → Option (Int64 × Mm)
  | 0 => fun _ _ _ _ _ _ _ => none
  | n + 1 => m_X4_chance_B42  (m_X4_chance_L42  n)
def m_X4_chance (x1 : Int32) (x2 : Int32) (x3 : Int32) (x4 : Int32) (M : Mm) : Option (Int64 × Mm) := if x2 < (1 : Int32) then (some ((-4611686018427387904 : Int64), M)) else (if (20 : Int32) < x2 then (some ((-4611686018427387904 : Int64), M)) else (if x3 < 0 then (some ((-4611686018427387904 : Int64), M)) else (if (8 : Int32) < x3 then (some ((-4611686018427387904 : Int64), M)) else (if x4 < 0 then (some ((-4611686018427387904 : Int64), M)) else (if x4 ≤ (1 : Int32) then (lt1 ((0 : Int32)) fun y7 => lt1 ((0 : Int32)) fun y8 => m_X4_chance_L42 FU x1 x2 x3 x4 y7 y8 M) else (some ((-4611686018427387904 : Int64), M)))))))
set_option maxRecDepth 100000 in
set_option maxHeartbeats 4000000 in
theorem v_X4_chance_J65 {X : Cx} {G : Gx} {sh : List Sh} (hF : FX X G sh 7 cX4_chance (yX4_chance).cls (some .long) rmX4_chance) (hs : TopAt sh) (n42 : Int32 → Int32 → Int32 → Int32 → Int32 → Int32 → Mm → Option (Int64 × Mm)) (h42 : ∀ (x1 : Int32) (x2 : Int32) (x3 : Int32) (x4 : Int32) (x5 : Int32) (x6 : Int32) (M : Mm), VR X G sh 7 rvJ M 42 [(0, .ref (G.2.2.2.2 0)), (1, .int x1), (2, .int x2), (3, .int x3), (4, .int x4), (5, .int x5), (6, .int x6)] [] (n42 x1 x2 x3 x4 x5 x6 M)) : ∀ (x1 : Int32) (x2 : Int32) (x3 : Int32) (x4 : Int32) (x5 : Int32) (x6 : Int32) (M : Mm), VR X G sh 7 rvJ M 65 [(0, .ref (G.2.2.2.2 0)), (1, .int x1), (2, .int x2), (3, .int x3), (4, .int x4), (5, .int x5), (6, .int x6)] [] (m_X4_chance_J65  n42 x1 x2 x3 x4 x5 x6 M) := by
  intro x1 x2 x3 x4 x5 x6 M
  unfold m_X4_chance_J65
  refine v_iinc (v := (x6 + 1)) (lo' := fun y1 => [(6, .int y1), (0, .ref (G.2.2.2.2 0)), (1, .int x1), (2, .int x2), (3, .int x3), (4, .int x4), (5, .int x5)]) 6 68 hF dX4_chance_65 rfl rfl rfl (by decide) (fun _ => rfl) (fun y1 => ?_)
  refine v_goto 42 hF dX4_chance_68 (by decide) ?_
  refine VR.pick [1, 2, 3, 4, 5, 6, 0] rfl ?_
  exact h42 x1 x2 x3 x4 x5 y1 M
set_option maxRecDepth 100000 in
set_option maxHeartbeats 4000000 in
theorem v_X4_chance_B42 {X : Cx} {G : Gx} {sh : List Sh} (hF : FX X G sh 7 cX4_chance (yX4_chance).cls (some .long) rmX4_chance) (hs : TopAt sh) (n42 : Int32 → Int32 → Int32 → Int32 → Int32 → Int32 → Mm → Option (Int64 × Mm)) (h42 : ∀ (x1 : Int32) (x2 : Int32) (x3 : Int32) (x4 : Int32) (x5 : Int32) (x6 : Int32) (M : Mm), VR X G sh 7 rvJ M 42 [(0, .ref (G.2.2.2.2 0)), (1, .int x1), (2, .int x2), (3, .int x3), (4, .int x4), (5, .int x5), (6, .int x6)] [] (n42 x1 x2 x3 x4 x5 x6 M)) : ∀ (x1 : Int32) (x2 : Int32) (x3 : Int32) (x4 : Int32) (x5 : Int32) (x6 : Int32) (M : Mm), VR X G sh 7 rvJ M 42 [(0, .ref (G.2.2.2.2 0)), (1, .int x1), (2, .int x2), (3, .int x3), (4, .int x4), (5, .int x5), (6, .int x6)] [] (m_X4_chance_B42  n42 x1 x2 x3 x4 x5 x6 M) := by
  intro x1 x2 x3 x4 x5 x6 M
  unfold m_X4_chance_B42
  refine v_iload 6 44 hF dX4_chance_42 rfl rfl ?_
  refine v_iload_n 2 45 hF dX4_chance_44 rfl rfl rfl ?_
  refine v_icmp_ge 48 71 hF dX4_chance_45 rfl (by decide) (fun _ => ?_) (fun _ => ?_)
  · refine v_iload 5 73 hF dX4_chance_71 rfl rfl ?_
    refine v_iload_n 2 74 hF dX4_chance_73 rfl rfl rfl ?_
    refine v_iload 4 76 hF dX4_chance_74 rfl rfl ?_
    refine v_staJ ([.int x5, .int x2, .int x4]) ([]) 79 hF dX4_chance_76 rfl cw_X4_216 (c_X4_inLowestTerms (G := G) (sh := sh) M x5 x2 x4) ⟨rfl, rfl, Nat.le_of_ble_eq_true rfl, Nat.le_of_ble_eq_true rfl⟩ rfl rfl (Nat.le_of_ble_eq_true rfl) (fun r3 M2 => ?_)
    exact v_lret hF dX4_chance_79
  · refine v_aload_n 0 49 hF dX4_chance_48 rfl rfl rfl ?_
    refine v_iload_n 1 50 hF dX4_chance_49 rfl rfl rfl ?_
    refine v_iload 6 52 hF dX4_chance_50 rfl rfl ?_
    refine v_iadd 53 hF dX4_chance_52 rfl ?_
    refine v_bipush (10) 55 hF dX4_chance_53 rfl (by decide) ?_
    refine v_callI ([.int ((x1 + x6)), .int ((10 : Int32))]) ([]) 58 hF dX4_chance_55 rfl cw_X4_258 rfl (hs.1) (c_X4_homesDrawn (G := G) hs M ((x1 + x6)) ((10 : Int32))) ⟨rfl, rfl, Nat.le_of_ble_eq_true rfl, Nat.le_of_ble_eq_true rfl⟩ rfl rfl (Nat.le_of_ble_eq_true rfl) (fun r5 M4 => ?_)
    refine v_iload_n 3 59 hF dX4_chance_58 rfl rfl rfl ?_
    refine v_icmp_lt 62 65 hF dX4_chance_59 rfl (by decide) (fun _ => ?_) (fun _ => ?_)
    · refine VR.pick [0, 1, 2, 3, 4, 5, 6] rfl ?_
      exact v_X4_chance_J65 hF hs _ h42 x1 x2 x3 x4 x5 x6 M4
    · refine v_iinc (v := (x5 + 1)) (lo' := fun y6 => [(5, .int y6), (0, .ref (G.2.2.2.2 0)), (1, .int x1), (2, .int x2), (3, .int x3), (4, .int x4), (6, .int x6)]) 5 65 hF dX4_chance_62 rfl rfl rfl (by decide) (fun _ => rfl) (fun y6 => ?_)
      refine VR.pick [1, 2, 3, 4, 5, 0, 6] rfl ?_
      exact v_X4_chance_J65 hF hs _ h42 x1 x2 x3 x4 y6 x6 M4
theorem v_X4_chance_L42 {X : Cx} {G : Gx} {sh : List Sh} (hF : FX X G sh 7 cX4_chance (yX4_chance).cls (some .long) rmX4_chance) (hs : TopAt sh) : ∀ (n : Nat), ∀ (x1 : Int32) (x2 : Int32) (x3 : Int32) (x4 : Int32) (x5 : Int32) (x6 : Int32) (M : Mm), VR X G sh 7 rvJ M 42 [(0, .ref (G.2.2.2.2 0)), (1, .int x1), (2, .int x2), (3, .int x3), (4, .int x4), (5, .int x5), (6, .int x6)] [] (m_X4_chance_L42  n x1 x2 x3 x4 x5 x6 M) := by
  intro n
  induction n with
  | zero => intro x1 x2 x3 x4 x5 x6 M; exact VR.none
  | succ n ih => exact v_X4_chance_B42 hF hs _ ih
set_option maxRecDepth 100000 in
set_option maxHeartbeats 4000000 in
theorem c_X4_chance {G : Gx} {sh : List Sh} (hs : TopAt sh) (M : Mm) (x1 : Int32) (x2 : Int32) (x3 : Int32) (x4 : Int32) : CT yX4_chance cX4_chance 7 (some .long) rmX4_chance G sh [.ref (G.2.2.2.2 0), .int x1, .int x2, .int x3, .int x4] rvJ M (m_X4_chance  x1 x2 x3 x4 M) := by
  refine CT.of (by decide +kernel) (Nat.le_of_ble_eq_true rfl) (fun X hF => ?_)
  show VR X G sh 7 rvJ M 0 [(0, .ref (G.2.2.2.2 0)), (1, .int x1), (2, .int x2), (3, .int x3), (4, .int x4)] [] _
  unfold m_X4_chance
  refine v_iload_n 2 1 hF dX4_chance_0 rfl rfl rfl ?_
  refine v_iconst (1) 2 hF dX4_chance_1 rfl (by decide) ?_
  refine v_icmp_lt 5 32 hF dX4_chance_2 rfl (by decide) (fun _ => ?_) (fun _ => ?_)
  · refine v_ldc2 (-4611686018427387904) 35 hF dX4_chance_32 rfl cc_X4_214 ?_
    exact v_lret hF dX4_chance_35
  · refine v_iload_n 2 6 hF dX4_chance_5 rfl rfl rfl ?_
    refine v_bipush (20) 8 hF dX4_chance_6 rfl (by decide) ?_
    refine v_icmp_gt 11 32 hF dX4_chance_8 rfl (by decide) (fun _ => ?_) (fun _ => ?_)
    · refine v_ldc2 (-4611686018427387904) 35 hF dX4_chance_32 rfl cc_X4_214 ?_
      exact v_lret hF dX4_chance_35
    · refine v_iload_n 3 12 hF dX4_chance_11 rfl rfl rfl ?_
      refine v_if_lt 15 32 hF dX4_chance_12 rfl (by decide) (fun _ => ?_) (fun _ => ?_)
      · refine v_ldc2 (-4611686018427387904) 35 hF dX4_chance_32 rfl cc_X4_214 ?_
        exact v_lret hF dX4_chance_35
      · refine v_iload_n 3 16 hF dX4_chance_15 rfl rfl rfl ?_
        refine v_bipush (8) 18 hF dX4_chance_16 rfl (by decide) ?_
        refine v_icmp_gt 21 32 hF dX4_chance_18 rfl (by decide) (fun _ => ?_) (fun _ => ?_)
        · refine v_ldc2 (-4611686018427387904) 35 hF dX4_chance_32 rfl cc_X4_214 ?_
          exact v_lret hF dX4_chance_35
        · refine v_iload 4 23 hF dX4_chance_21 rfl rfl ?_
          refine v_if_lt 26 32 hF dX4_chance_23 rfl (by decide) (fun _ => ?_) (fun _ => ?_)
          · refine v_ldc2 (-4611686018427387904) 35 hF dX4_chance_32 rfl cc_X4_214 ?_
            exact v_lret hF dX4_chance_35
          · refine v_iload 4 28 hF dX4_chance_26 rfl rfl ?_
            refine v_iconst (1) 29 hF dX4_chance_28 rfl (by decide) ?_
            refine v_icmp_le 32 36 hF dX4_chance_29 rfl (by decide) (fun _ => ?_) (fun _ => ?_)
            · refine v_iconst (0) 37 hF dX4_chance_36 rfl (by decide) ?_
              refine v_istore (lo' := fun y7 => [(5, .int y7), (0, .ref (G.2.2.2.2 0)), (1, .int x1), (2, .int x2), (3, .int x3), (4, .int x4)]) 39 hF dX4_chance_37 rfl (by decide) (fun _ => rfl) (fun y7 => ?_)
              refine v_iconst (0) 40 hF dX4_chance_39 rfl (by decide) ?_
              refine v_istore (lo' := fun y8 => [(6, .int y8), (5, .int y7), (0, .ref (G.2.2.2.2 0)), (1, .int x1), (2, .int x2), (3, .int x3), (4, .int x4)]) 42 hF dX4_chance_40 rfl (by decide) (fun _ => rfl) (fun y8 => ?_)
              refine VR.pick [2, 3, 4, 5, 6, 1, 0] rfl ?_
              exact v_X4_chance_L42 hF hs FU x1 x2 x3 x4 y7 y8 M
            · refine v_ldc2 (-4611686018427387904) 35 hF dX4_chance_32 rfl cc_X4_214 ?_
              exact v_lret hF dX4_chance_35
abbrev rmX4_image : Room := { frames := 1, cells := 0, slots := 0, locals := 22 }
def m_X4_image  (M : Mm) : Option (Int32 × Mm) := bd (m_X3_takeOver 25 7 M) fun _ M1 => lt1 (up M1 0 5 ((1 : Int32))) fun M2 => some ((M2 7 4), M2)
set_option maxRecDepth 100000 in
set_option maxHeartbeats 4000000 in
theorem c_X4_image {G : Gx} {sh : List Sh} (hs : TopAt sh) (M : Mm)  : CT yX4_image cX4_image 1 (some .int) rmX4_image G sh [.ref (G.2.2.2.2 0)] rvI M (m_X4_image   M) := by
  refine CT.of (by decide +kernel) (Nat.le_of_ble_eq_true rfl) (fun X hF => ?_)
  show VR X G sh 1 rvI M 0 [(0, .ref (G.2.2.2.2 0))] [] _
  unfold m_X4_image
  refine v_aload_n 0 1 hF dX4_image_0 rfl rfl rfl ?_
  refine v_getR (b := 25) 4 hF dX4_image_1 rfl fl_X4_45 hs.1 rfl ?_
  refine v_aload_n 0 5 hF dX4_image_4 rfl rfl rfl ?_
  refine v_getR (b := 7) 8 hF dX4_image_5 rfl fl_X4_38 hs.1 rfl ?_
  refine v_callV ([.ref (G.2.2.2.2 7)]) ([]) 11 hF dX4_image_8 rfl cw_X4_167 rfl (hs.2.2.2.2.2.1.1) (c_X3_takeOver (G := G) (hs.2.1) (hs.2.2.2.2.2.1) (hs.2.2.2.1) M) ⟨rfl, rfl, Nat.le_of_ble_eq_true rfl, Nat.le_of_ble_eq_true rfl⟩ rfl rfl (Nat.le_of_ble_eq_true rfl) (fun _ M1 => ?_)
  refine v_aload_n 0 12 hF dX4_image_11 rfl rfl rfl ?_
  refine v_iconst (1) 13 hF dX4_image_12 rfl (by decide) ?_
  refine v_putZ 16 hF dX4_image_13 rfl fl_X4_261 fp_X4_5 hs.1 rfl ⟨rfl, rfl⟩ (fun M2 => ?_)
  refine v_aload_n 0 17 hF dX4_image_16 rfl rfl rfl ?_
  refine v_getR (b := 7) 20 hF dX4_image_17 rfl fl_X4_38 hs.1 rfl ?_
  refine v_getI 23 hF dX4_image_20 rfl fl_X4_196 hs.2.2.2.1.1 rfl ?_
  exact v_iret hF dX4_image_23
abbrev rmX4_back : Room := { frames := 1, cells := 0, slots := 0, locals := 22 }
def m_X4_back  (M : Mm) : Option (Int32 × Mm) := if (M 0 5) = 0 then (some ((-3 : Int32), M)) else (bd (m_X3_takeOver 7 25 M) fun _ M1 => some ((M1 7 4), M1))
set_option maxRecDepth 100000 in
set_option maxHeartbeats 4000000 in
theorem c_X4_back {G : Gx} {sh : List Sh} (hs : TopAt sh) (M : Mm)  : CT yX4_back cX4_back 1 (some .int) rmX4_back G sh [.ref (G.2.2.2.2 0)] rvI M (m_X4_back   M) := by
  refine CT.of (by decide +kernel) (Nat.le_of_ble_eq_true rfl) (fun X hF => ?_)
  show VR X G sh 1 rvI M 0 [(0, .ref (G.2.2.2.2 0))] [] _
  unfold m_X4_back
  refine v_aload_n 0 1 hF dX4_back_0 rfl rfl rfl ?_
  refine v_getI 4 hF dX4_back_1 rfl fl_X4_261 hs.1 rfl ?_
  refine v_if_ne 7 10 hF dX4_back_4 rfl (by decide) (fun _ => ?_) (fun _ => ?_)
  · refine v_aload_n 0 11 hF dX4_back_10 rfl rfl rfl ?_
    refine v_getR (b := 7) 14 hF dX4_back_11 rfl fl_X4_38 hs.1 rfl ?_
    refine v_aload_n 0 15 hF dX4_back_14 rfl rfl rfl ?_
    refine v_getR (b := 25) 18 hF dX4_back_15 rfl fl_X4_45 hs.1 rfl ?_
    refine v_callV ([.ref (G.2.2.2.2 25)]) ([]) 21 hF dX4_back_18 rfl cw_X4_167 rfl (hs.2.2.2.1.1) (c_X3_takeOver (G := G) (hs.2.1) (hs.2.2.2.1) (hs.2.2.2.2.2.1) M) ⟨rfl, rfl, Nat.le_of_ble_eq_true rfl, Nat.le_of_ble_eq_true rfl⟩ rfl rfl (Nat.le_of_ble_eq_true rfl) (fun _ M1 => ?_)
    refine v_aload_n 0 22 hF dX4_back_21 rfl rfl rfl ?_
    refine v_getR (b := 7) 25 hF dX4_back_22 rfl fl_X4_38 hs.1 rfl ?_
    refine v_getI 28 hF dX4_back_25 rfl fl_X4_196 hs.2.2.2.1.1 rfl ?_
    exact v_iret hF dX4_back_28
  · refine v_bipush (-3) 9 hF dX4_back_7 rfl (by decide) ?_
    exact v_iret hF dX4_back_9
abbrev rmX4_count : Room := { frames := 1, cells := 0, slots := 0, locals := 22 }
def m_X4_count (x1 : Int32) (M : Mm) : Option (Int32 × Mm) := if x1 = (0) then (some ((M 7 4), M)) else (if x1 = (1) then (some ((M 7 5), M)) else (if x1 = (2) then (bd (m_X3_homes 7 M) fun r2 M1 => some (r2, M1)) else (if x1 = (3) then (some ((M 1 0), M)) else (if x1 = (4) then (some ((M 5 0), M)) else (if x1 = (5) then (some ((M 7 3), M)) else (some ((-2 : Int32), M)))))))
set_option maxRecDepth 100000 in
set_option maxHeartbeats 4000000 in
theorem c_X4_count {G : Gx} {sh : List Sh} (hs : TopAt sh) (M : Mm) (x1 : Int32) : CT yX4_count cX4_count 2 (some .int) rmX4_count G sh [.ref (G.2.2.2.2 0), .int x1] rvI M (m_X4_count  x1 M) := by
  refine CT.of (by decide +kernel) (Nat.le_of_ble_eq_true rfl) (fun X hF => ?_)
  show VR X G sh 2 rvI M 0 [(0, .ref (G.2.2.2.2 0)), (1, .int x1)] [] _
  unfold m_X4_count
  refine v_iload_n 1 1 hF dX4_count_0 rfl rfl rfl ?_
  refine v_ite (fun e1 => ?_) (fun n0 => ?_)
  · refine v_tsIn (0) (39) 40 hF dX4_count_1 e1 (by decide) rfl (by decide) ?_
    refine v_aload_n 0 41 hF dX4_count_40 rfl rfl rfl ?_
    refine v_getR (b := 7) 44 hF dX4_count_41 rfl fl_X4_38 hs.1 rfl ?_
    refine v_getI 47 hF dX4_count_44 rfl fl_X4_196 hs.2.2.2.1.1 rfl ?_
    exact v_iret hF dX4_count_47
  · refine v_ite (fun e1 => ?_) (fun n1 => ?_)
    · refine v_tsIn (1) (47) 48 hF dX4_count_1 e1 (by decide) rfl (by decide) ?_
      refine v_aload_n 0 49 hF dX4_count_48 rfl rfl rfl ?_
      refine v_getR (b := 7) 52 hF dX4_count_49 rfl fl_X4_38 hs.1 rfl ?_
      refine v_getI 55 hF dX4_count_52 rfl fl_X4_211 hs.2.2.2.1.1 rfl ?_
      exact v_iret hF dX4_count_55
    · refine v_ite (fun e1 => ?_) (fun n2 => ?_)
      · refine v_tsIn (2) (55) 56 hF dX4_count_1 e1 (by decide) rfl (by decide) ?_
        refine v_aload_n 0 57 hF dX4_count_56 rfl rfl rfl ?_
        refine v_getR (b := 7) 60 hF dX4_count_57 rfl fl_X4_38 hs.1 rfl ?_
        refine v_callI ([]) ([]) 63 hF dX4_count_60 rfl cw_X4_175 rfl (hs.2.2.2.1.1) (c_X3_homes (G := G) (hs.2.1) (hs.2.2.2.1) M) ⟨rfl, rfl, Nat.le_of_ble_eq_true rfl, Nat.le_of_ble_eq_true rfl⟩ rfl rfl (Nat.le_of_ble_eq_true rfl) (fun r2 M1 => ?_)
        exact v_iret hF dX4_count_63
      · refine v_ite (fun e1 => ?_) (fun n3 => ?_)
        · refine v_tsIn (3) (63) 64 hF dX4_count_1 e1 (by decide) rfl (by decide) ?_
          refine v_aload_n 0 65 hF dX4_count_64 rfl rfl rfl ?_
          refine v_getR (b := 1) 68 hF dX4_count_65 rfl fl_X4_10 hs.1 rfl ?_
          refine v_getI 71 hF dX4_count_68 rfl fl_X4_154 hs.2.1.1 rfl ?_
          exact v_iret hF dX4_count_71
        · refine v_ite (fun e1 => ?_) (fun n4 => ?_)
          · refine v_tsIn (4) (71) 72 hF dX4_count_1 e1 (by decide) rfl (by decide) ?_
            refine v_aload_n 0 73 hF dX4_count_72 rfl rfl rfl ?_
            refine v_getR (b := 5) 76 hF dX4_count_73 rfl fl_X4_21 hs.1 rfl ?_
            refine v_getI 79 hF dX4_count_76 rfl fl_X4_147 hs.2.2.1.1 rfl ?_
            exact v_iret hF dX4_count_79
          · refine v_ite (fun e1 => ?_) (fun n5 => ?_)
            · refine v_tsIn (5) (79) 80 hF dX4_count_1 e1 (by decide) rfl (by decide) ?_
              refine v_aload_n 0 81 hF dX4_count_80 rfl rfl rfl ?_
              refine v_getR (b := 7) 84 hF dX4_count_81 rfl fl_X4_38 hs.1 rfl ?_
              refine v_getI 87 hF dX4_count_84 rfl fl_X4_158 hs.2.2.2.1.1 rfl ?_
              exact v_iret hF dX4_count_87
            · refine v_tsOut 88 hF dX4_count_1 (by have a0 := lv_neT n0 (a := (0)) (by decide); have a1 := lv_neT n1 (a := (1)) (by decide); have a2 := lv_neT n2 (a := (2)) (by decide); have a3 := lv_neT n3 (a := (3)) (by decide); have a4 := lv_neT n4 (a := (4)) (by decide); have a5 := lv_neT n5 (a := (5)) (by decide); omega) (by decide) ?_
              refine v_bipush (-2) 90 hF dX4_count_88 rfl (by decide) ?_
              exact v_iret hF dX4_count_90
abbrev rmX4_sheet : Room := { frames := 2, cells := 0, slots := 0, locals := 44 }
def m_X4_sheet (x1 : Int32) (x2 : Int32) (x3 : Int32) (M : Mm) : Option (Int32 × Mm) := bd (m_X4_sheetNumbered x1 M) (rcase (fun M1 => some ((-2 : Int32), M1)) (fun a2 M1 => gd (isShe a2) (if x2 < (-1 : Int32) then (some ((-2 : Int32), M1)) else (if x2 ≤ (2 : Int32) then (if x2 = (-1 : Int32) then (bd (m_X0_become a2 x2 ((0 : Int32)) M1) fun _ M3 => some ((1 : Int32), M3)) else (if x3 ≤ (40 : Int32) then (if 0 ≤ x3 then (bd (m_X0_become a2 x2 x3 M1) fun _ M2 => some ((1 : Int32), M2)) else (some ((-14 : Int32), M1))) else (some ((-2 : Int32), M1)))) else (some ((-2 : Int32), M1))))))
set_option maxRecDepth 100000 in
set_option maxHeartbeats 4000000 in
theorem c_X4_sheet {G : Gx} {sh : List Sh} (hs : TopAt sh) (M : Mm) (x1 : Int32) (x2 : Int32) (x3 : Int32) : CT yX4_sheet cX4_sheet 5 (some .int) rmX4_sheet G sh [.ref (G.2.2.2.2 0), .int x1, .int x2, .int x3] rvI M (m_X4_sheet  x1 x2 x3 M) := by
  refine CT.of (by decide +kernel) (Nat.le_of_ble_eq_true rfl) (fun X hF => ?_)
  show VR X G sh 5 rvI M 0 [(0, .ref (G.2.2.2.2 0)), (1, .int x1), (2, .int x2), (3, .int x3)] [] _
  unfold m_X4_sheet
  refine v_aload_n 0 1 hF dX4_sheet_0 rfl rfl rfl ?_
  refine v_iload_n 1 2 hF dX4_sheet_1 rfl rfl rfl ?_
  refine v_callR ([.int x1]) ([]) 5 hF dX4_sheet_2 rfl cw_X4_228 rfl (hs.1) (c_X4_sheetNumbered (G := G) hs M x1) ⟨rfl, rfl, Nat.le_of_ble_eq_true rfl, Nat.le_of_ble_eq_true rfl⟩ rfl rfl (Nat.le_of_ble_eq_true rfl) (fun M1 => ?_) (fun a2 M1 => v_gd (fun ha2 => ?_))
  · refine v_astoreN (lo' := [(4, .null), (0, .ref (G.2.2.2.2 0)), (1, .int x1), (2, .int x2), (3, .int x3)]) 7 hF dX4_sheet_5 rfl (by decide) rfl ?_
    refine v_aloadN 0 9 hF dX4_sheet_7 rfl rfl ?_
    refine v_ifnullN 22 hF dX4_sheet_9 (by decide) ?_
    refine v_bipush (-2) 24 hF dX4_sheet_22 rfl (by decide) ?_
    exact v_iret hF dX4_sheet_24
  · have ha2 := she_of hs ha2
    refine v_astore (lo' := [(4, .ref (G.2.2.2.2 a2)), (0, .ref (G.2.2.2.2 0)), (1, .int x1), (2, .int x2), (3, .int x3)]) 7 hF dX4_sheet_5 rfl (by decide) rfl ?_
    refine v_aload 0 9 hF dX4_sheet_7 rfl rfl ?_
    refine v_ifnullR 12 hF dX4_sheet_9 rfl ?_
    refine v_iload_n 3 13 hF dX4_sheet_12 rfl rfl rfl ?_
    refine v_iconst (-1) 14 hF dX4_sheet_13 rfl (by decide) ?_
    refine v_icmp_lt 17 22 hF dX4_sheet_14 rfl (by decide) (fun _ => ?_) (fun _ => ?_)
    · refine v_bipush (-2) 24 hF dX4_sheet_22 rfl (by decide) ?_
      exact v_iret hF dX4_sheet_24
    · refine v_iload_n 3 18 hF dX4_sheet_17 rfl rfl rfl ?_
      refine v_iconst (2) 19 hF dX4_sheet_18 rfl (by decide) ?_
      refine v_icmp_le 22 25 hF dX4_sheet_19 rfl (by decide) (fun _ => ?_) (fun _ => ?_)
      · refine v_iload_n 3 26 hF dX4_sheet_25 rfl rfl rfl ?_
        refine v_iconst (-1) 27 hF dX4_sheet_26 rfl (by decide) ?_
        refine v_icmp_ne 30 39 hF dX4_sheet_27 rfl (by decide) (fun _ => ?_) (fun _ => ?_)
        · refine v_iload_n 4 40 hF dX4_sheet_39 rfl rfl rfl ?_
          refine v_bipush (40) 42 hF dX4_sheet_40 rfl (by decide) ?_
          refine v_icmp_le 45 48 hF dX4_sheet_42 rfl (by decide) (fun _ => ?_) (fun _ => ?_)
          · refine v_iload_n 4 49 hF dX4_sheet_48 rfl rfl rfl ?_
            refine v_if_ge 52 55 hF dX4_sheet_49 rfl (by decide) (fun _ => ?_) (fun _ => ?_)
            · refine v_aload 0 57 hF dX4_sheet_55 rfl rfl ?_
              refine v_iload_n 3 58 hF dX4_sheet_57 rfl rfl rfl ?_
              refine v_iload_n 4 59 hF dX4_sheet_58 rfl rfl rfl ?_
              refine v_callV ([.int x2, .int x3]) ([]) 62 hF dX4_sheet_59 rfl cw_X4_252 rfl (ha2.1) (c_X0_become (G := G) ha2 M1 x2 x3) ⟨rfl, rfl, Nat.le_of_ble_eq_true rfl, Nat.le_of_ble_eq_true rfl⟩ rfl rfl (Nat.le_of_ble_eq_true rfl) (fun _ M2 => ?_)
              refine v_iconst (1) 63 hF dX4_sheet_62 rfl (by decide) ?_
              exact v_iret hF dX4_sheet_63
            · refine v_bipush (-14) 54 hF dX4_sheet_52 rfl (by decide) ?_
              exact v_iret hF dX4_sheet_54
          · refine v_bipush (-2) 47 hF dX4_sheet_45 rfl (by decide) ?_
            exact v_iret hF dX4_sheet_47
        · refine v_aload 0 32 hF dX4_sheet_30 rfl rfl ?_
          refine v_iload_n 3 33 hF dX4_sheet_32 rfl rfl rfl ?_
          refine v_iconst (0) 34 hF dX4_sheet_33 rfl (by decide) ?_
          refine v_callV ([.int x2, .int ((0 : Int32))]) ([]) 37 hF dX4_sheet_34 rfl cw_X4_252 rfl (ha2.1) (c_X0_become (G := G) ha2 M1 x2 ((0 : Int32))) ⟨rfl, rfl, Nat.le_of_ble_eq_true rfl, Nat.le_of_ble_eq_true rfl⟩ rfl rfl (Nat.le_of_ble_eq_true rfl) (fun _ M3 => ?_)
          refine v_iconst (1) 38 hF dX4_sheet_37 rfl (by decide) ?_
          exact v_iret hF dX4_sheet_38
      · refine v_bipush (-2) 24 hF dX4_sheet_22 rfl (by decide) ?_
        exact v_iret hF dX4_sheet_24
abbrev rmX4_cell : Room := { frames := 2, cells := 0, slots := 0, locals := 43 }
def m_X4_cell (x1 : Int32) (x2 : Int32) (x3 : Int32) (M : Mm) : Option (Int32 × Mm) := bd (m_X4_sheetNumbered x1 M) (rcase (fun M1 => some ((-2 : Int32), M1)) (fun a2 M1 => gd (isShe a2) (bd (m_X0_isMissing a2 M1) fun r3 M2 => if r3 = 0 then (bd (m_X0_has a2 x2 M2) fun r5 M4 => if r5 = 0 then (some ((-12 : Int32), M4)) else (bd (m_X0_put a2 x2 x3 M4) fun _ M6 => some ((1 : Int32), M6))) else (some ((-11 : Int32), M2)))))
set_option maxRecDepth 100000 in
set_option maxHeartbeats 4000000 in
theorem c_X4_cell {G : Gx} {sh : List Sh} (hs : TopAt sh) (M : Mm) (x1 : Int32) (x2 : Int32) (x3 : Int32) : CT yX4_cell cX4_cell 5 (some .int) rmX4_cell G sh [.ref (G.2.2.2.2 0), .int x1, .int x2, .int x3] rvI M (m_X4_cell  x1 x2 x3 M) := by
  refine CT.of (by decide +kernel) (Nat.le_of_ble_eq_true rfl) (fun X hF => ?_)
  show VR X G sh 5 rvI M 0 [(0, .ref (G.2.2.2.2 0)), (1, .int x1), (2, .int x2), (3, .int x3)] [] _
  unfold m_X4_cell
  refine v_aload_n 0 1 hF dX4_cell_0 rfl rfl rfl ?_
  refine v_iload_n 1 2 hF dX4_cell_1 rfl rfl rfl ?_
  refine v_callR ([.int x1]) ([]) 5 hF dX4_cell_2 rfl cw_X4_228 rfl (hs.1) (c_X4_sheetNumbered (G := G) hs M x1) ⟨rfl, rfl, Nat.le_of_ble_eq_true rfl, Nat.le_of_ble_eq_true rfl⟩ rfl rfl (Nat.le_of_ble_eq_true rfl) (fun M1 => ?_) (fun a2 M1 => v_gd (fun ha2 => ?_))
  · refine v_astoreN (lo' := [(4, .null), (0, .ref (G.2.2.2.2 0)), (1, .int x1), (2, .int x2), (3, .int x3)]) 7 hF dX4_cell_5 rfl (by decide) rfl ?_
    refine v_aloadN 0 9 hF dX4_cell_7 rfl rfl ?_
    refine v_ifnonnullN 12 hF dX4_cell_9 rfl ?_
    refine v_bipush (-2) 14 hF dX4_cell_12 rfl (by decide) ?_
    exact v_iret hF dX4_cell_14
  · have ha2 := she_of hs ha2
    refine v_astore (lo' := [(4, .ref (G.2.2.2.2 a2)), (0, .ref (G.2.2.2.2 0)), (1, .int x1), (2, .int x2), (3, .int x3)]) 7 hF dX4_cell_5 rfl (by decide) rfl ?_
    refine v_aload 0 9 hF dX4_cell_7 rfl rfl ?_
    refine v_ifnonnullR 15 hF dX4_cell_9 (by decide) ?_
    refine v_aload 0 17 hF dX4_cell_15 rfl rfl ?_
    refine v_callI ([]) ([]) 20 hF dX4_cell_17 rfl cw_X4_232 rfl (ha2.1) (c_X0_isMissing (G := G) ha2 M1) ⟨rfl, rfl, Nat.le_of_ble_eq_true rfl, Nat.le_of_ble_eq_true rfl⟩ rfl rfl (Nat.le_of_ble_eq_true rfl) (fun r3 M2 => ?_)
    refine v_if_eq 23 26 hF dX4_cell_20 rfl (by decide) (fun _ => ?_) (fun _ => ?_)
    · refine v_aload 0 28 hF dX4_cell_26 rfl rfl ?_
      refine v_iload_n 3 29 hF dX4_cell_28 rfl rfl rfl ?_
      refine v_callI ([.int x2]) ([]) 32 hF dX4_cell_29 rfl cw_X4_269 rfl (ha2.1) (c_X0_has (G := G) ha2 M2 x2) ⟨rfl, rfl, Nat.le_of_ble_eq_true rfl, Nat.le_of_ble_eq_true rfl⟩ rfl rfl (Nat.le_of_ble_eq_true rfl) (fun r5 M4 => ?_)
      refine v_if_ne 35 38 hF dX4_cell_32 rfl (by decide) (fun _ => ?_) (fun _ => ?_)
      · refine v_aload 0 40 hF dX4_cell_38 rfl rfl ?_
        refine v_iload_n 3 41 hF dX4_cell_40 rfl rfl rfl ?_
        refine v_iload_n 4 42 hF dX4_cell_41 rfl rfl rfl ?_
        refine v_callV ([.int x2, .int x3]) ([]) 45 hF dX4_cell_42 rfl cw_X4_255 rfl (ha2.1) (c_X0_put (G := G) ha2 M4 x2 x3) ⟨rfl, rfl, Nat.le_of_ble_eq_true rfl, Nat.le_of_ble_eq_true rfl⟩ rfl rfl (Nat.le_of_ble_eq_true rfl) (fun _ M6 => ?_)
        refine v_iconst (1) 46 hF dX4_cell_45 rfl (by decide) ?_
        exact v_iret hF dX4_cell_46
      · refine v_bipush (-12) 37 hF dX4_cell_35 rfl (by decide) ?_
        exact v_iret hF dX4_cell_37
    · refine v_bipush (-11) 25 hF dX4_cell_23 rfl (by decide) ?_
      exact v_iret hF dX4_cell_25
abbrev rmX4_copy : Room := { frames := 1, cells := 0, slots := 0, locals := 60 }
def m_X4_copy (x1 : Int32) (x2 : Int32) (x3 : Int32) (x4 : Int32) (x5 : Int32) (M : Mm) : Option (Int32 × Mm) := bd (m_X4_sheetNumbered x1 M) (rcase (fun M1 => bd (m_X4_sheetNumbered x3 M1) (rcase (fun M2 => some ((-2 : Int32), M2)) (fun a9 M2 => gd (isShe a9) (some ((-2 : Int32), M2))))) (fun a2 M1 => gd (isShe a2) (bd (m_X4_sheetNumbered x3 M1) (rcase (fun M3 => some ((-2 : Int32), M3)) (fun a9 M3 => gd (isShe a9) (bd (m_X0_isMissing a2 M3) fun r5 M4 => if r5 = 0 then (bd (m_X0_isMissing a9 M4) fun r7 M6 => if r7 = 0 then (if (M6 a2 0) = (M6 a9 0) then (bd (m_X0_hasRun a2 x2 x5 M6) fun r9 M8 => if r9 = 0 then (some ((-12 : Int32), M8)) else (bd (m_X0_hasRun a9 x4 x5 M8) fun r11 M10 => if r11 = 0 then (some ((-12 : Int32), M10)) else (gd (cpok x2 x4 x5 40 40) (lt1 (upr M10 (a9 + 1) (va_cpy (M10 (a2 + 1)) (M10 (a9 + 1)) x2.toNatClampNeg x4.toNatClampNeg x5.toNatClampNeg)) fun M12 => some (x5, M12))))) else (some ((-13 : Int32), M6))) else (some ((-11 : Int32), M6))) else (some ((-11 : Int32), M4))))))))
set_option maxRecDepth 100000 in
set_option maxHeartbeats 4000000 in
theorem c_X4_copy {G : Gx} {sh : List Sh} (hs : TopAt sh) (M : Mm) (x1 : Int32) (x2 : Int32) (x3 : Int32) (x4 : Int32) (x5 : Int32) : CT yX4_copy cX4_copy 8 (some .int) rmX4_copy G sh [.ref (G.2.2.2.2 0), .int x1, .int x2, .int x3, .int x4, .int x5] rvI M (m_X4_copy  x1 x2 x3 x4 x5 M) := by
  refine CT.of (by decide +kernel) (Nat.le_of_ble_eq_true rfl) (fun X hF => ?_)
  show VR X G sh 8 rvI M 0 [(0, .ref (G.2.2.2.2 0)), (1, .int x1), (2, .int x2), (3, .int x3), (4, .int x4), (5, .int x5)] [] _
  unfold m_X4_copy
  refine v_aload_n 0 1 hF dX4_copy_0 rfl rfl rfl ?_
  refine v_iload_n 1 2 hF dX4_copy_1 rfl rfl rfl ?_
  refine v_callR ([.int x1]) ([]) 5 hF dX4_copy_2 rfl cw_X4_228 rfl (hs.1) (c_X4_sheetNumbered (G := G) hs M x1) ⟨rfl, rfl, Nat.le_of_ble_eq_true rfl, Nat.le_of_ble_eq_true rfl⟩ rfl rfl (Nat.le_of_ble_eq_true rfl) (fun M1 => ?_) (fun a2 M1 => v_gd (fun ha2 => ?_))
  · refine v_astoreN (lo' := [(6, .null), (0, .ref (G.2.2.2.2 0)), (1, .int x1), (2, .int x2), (3, .int x3), (4, .int x4), (5, .int x5)]) 7 hF dX4_copy_5 rfl (by decide) rfl ?_
    refine v_aload_n 1 8 hF dX4_copy_7 rfl rfl rfl ?_
    refine v_iload_n 4 9 hF dX4_copy_8 rfl rfl rfl ?_
    refine v_callR ([.int x3]) ([]) 12 hF dX4_copy_9 rfl cw_X4_228 rfl (hs.1) (c_X4_sheetNumbered (G := G) hs M1 x3) ⟨rfl, rfl, Nat.le_of_ble_eq_true rfl, Nat.le_of_ble_eq_true rfl⟩ rfl rfl (Nat.le_of_ble_eq_true rfl) (fun M2 => ?_) (fun a9 M2 => v_gd (fun ha9 => ?_))
    · refine v_astoreN (lo' := [(7, .null), (6, .null), (0, .ref (G.2.2.2.2 0)), (1, .int x1), (2, .int x2), (3, .int x3), (4, .int x4), (5, .int x5)]) 14 hF dX4_copy_12 rfl (by decide) rfl ?_
      refine v_aloadN 1 16 hF dX4_copy_14 rfl rfl ?_
      refine v_ifnullN 24 hF dX4_copy_16 (by decide) ?_
      refine v_bipush (-2) 26 hF dX4_copy_24 rfl (by decide) ?_
      exact v_iret hF dX4_copy_26
    · have ha9 := she_of hs ha9
      refine v_astore (lo' := [(7, .ref (G.2.2.2.2 a9)), (6, .null), (0, .ref (G.2.2.2.2 0)), (1, .int x1), (2, .int x2), (3, .int x3), (4, .int x4), (5, .int x5)]) 14 hF dX4_copy_12 rfl (by decide) rfl ?_
      refine v_aloadN 1 16 hF dX4_copy_14 rfl rfl ?_
      refine v_ifnullN 24 hF dX4_copy_16 (by decide) ?_
      refine v_bipush (-2) 26 hF dX4_copy_24 rfl (by decide) ?_
      exact v_iret hF dX4_copy_26
  · have ha2 := she_of hs ha2
    refine v_astore (lo' := [(6, .ref (G.2.2.2.2 a2)), (0, .ref (G.2.2.2.2 0)), (1, .int x1), (2, .int x2), (3, .int x3), (4, .int x4), (5, .int x5)]) 7 hF dX4_copy_5 rfl (by decide) rfl ?_
    refine v_aload_n 1 8 hF dX4_copy_7 rfl rfl rfl ?_
    refine v_iload_n 4 9 hF dX4_copy_8 rfl rfl rfl ?_
    refine v_callR ([.int x3]) ([]) 12 hF dX4_copy_9 rfl cw_X4_228 rfl (hs.1) (c_X4_sheetNumbered (G := G) hs M1 x3) ⟨rfl, rfl, Nat.le_of_ble_eq_true rfl, Nat.le_of_ble_eq_true rfl⟩ rfl rfl (Nat.le_of_ble_eq_true rfl) (fun M3 => ?_) (fun a9 M3 => v_gd (fun ha9 => ?_))
    · refine v_astoreN (lo' := [(7, .null), (6, .ref (G.2.2.2.2 a2)), (0, .ref (G.2.2.2.2 0)), (1, .int x1), (2, .int x2), (3, .int x3), (4, .int x4), (5, .int x5)]) 14 hF dX4_copy_12 rfl (by decide) rfl ?_
      refine v_aload 1 16 hF dX4_copy_14 rfl rfl ?_
      refine v_ifnullR 19 hF dX4_copy_16 rfl ?_
      refine v_aloadN 0 21 hF dX4_copy_19 rfl rfl ?_
      refine v_ifnonnullN 24 hF dX4_copy_21 rfl ?_
      refine v_bipush (-2) 26 hF dX4_copy_24 rfl (by decide) ?_
      exact v_iret hF dX4_copy_26
    · have ha9 := she_of hs ha9
      refine v_astore (lo' := [(7, .ref (G.2.2.2.2 a9)), (6, .ref (G.2.2.2.2 a2)), (0, .ref (G.2.2.2.2 0)), (1, .int x1), (2, .int x2), (3, .int x3), (4, .int x4), (5, .int x5)]) 14 hF dX4_copy_12 rfl (by decide) rfl ?_
      refine v_aload 1 16 hF dX4_copy_14 rfl rfl ?_
      refine v_ifnullR 19 hF dX4_copy_16 rfl ?_
      refine v_aload 0 21 hF dX4_copy_19 rfl rfl ?_
      refine v_ifnonnullR 27 hF dX4_copy_21 (by decide) ?_
      refine v_aload 1 29 hF dX4_copy_27 rfl rfl ?_
      refine v_callI ([]) ([]) 32 hF dX4_copy_29 rfl cw_X4_232 rfl (ha2.1) (c_X0_isMissing (G := G) ha2 M3) ⟨rfl, rfl, Nat.le_of_ble_eq_true rfl, Nat.le_of_ble_eq_true rfl⟩ rfl rfl (Nat.le_of_ble_eq_true rfl) (fun r5 M4 => ?_)
      refine v_if_ne 35 43 hF dX4_copy_32 rfl (by decide) (fun _ => ?_) (fun _ => ?_)
      · refine v_bipush (-11) 45 hF dX4_copy_43 rfl (by decide) ?_
        exact v_iret hF dX4_copy_45
      · refine v_aload 0 37 hF dX4_copy_35 rfl rfl ?_
        refine v_callI ([]) ([]) 40 hF dX4_copy_37 rfl cw_X4_232 rfl (ha9.1) (c_X0_isMissing (G := G) ha9 M4) ⟨rfl, rfl, Nat.le_of_ble_eq_true rfl, Nat.le_of_ble_eq_true rfl⟩ rfl rfl (Nat.le_of_ble_eq_true rfl) (fun r7 M6 => ?_)
        refine v_if_eq 43 46 hF dX4_copy_40 rfl (by decide) (fun _ => ?_) (fun _ => ?_)
        · refine v_aload 1 48 hF dX4_copy_46 rfl rfl ?_
          refine v_getI 51 hF dX4_copy_48 rfl fl_X4_272 ha2.1 rfl ?_
          refine v_aload 0 53 hF dX4_copy_51 rfl rfl ?_
          refine v_getI 56 hF dX4_copy_53 rfl fl_X4_272 ha9.1 rfl ?_
          refine v_icmp_eq 59 62 hF dX4_copy_56 rfl (by decide) (fun _ => ?_) (fun _ => ?_)
          · refine v_aload 1 64 hF dX4_copy_62 rfl rfl ?_
            refine v_iload_n 4 65 hF dX4_copy_64 rfl rfl rfl ?_
            refine v_iload 7 67 hF dX4_copy_65 rfl rfl ?_
            refine v_callI ([.int x2, .int x5]) ([]) 70 hF dX4_copy_67 rfl cw_X4_275 rfl (ha2.1) (c_X0_hasRun (G := G) ha2 M6 x2 x5) ⟨rfl, rfl, Nat.le_of_ble_eq_true rfl, Nat.le_of_ble_eq_true rfl⟩ rfl rfl (Nat.le_of_ble_eq_true rfl) (fun r9 M8 => ?_)
            refine v_if_eq 73 85 hF dX4_copy_70 rfl (by decide) (fun _ => ?_) (fun _ => ?_)
            · refine v_bipush (-12) 87 hF dX4_copy_85 rfl (by decide) ?_
              exact v_iret hF dX4_copy_87
            · refine v_aload 0 75 hF dX4_copy_73 rfl rfl ?_
              refine v_iload 6 77 hF dX4_copy_75 rfl rfl ?_
              refine v_iload 7 79 hF dX4_copy_77 rfl rfl ?_
              refine v_callI ([.int x4, .int x5]) ([]) 82 hF dX4_copy_79 rfl cw_X4_275 rfl (ha9.1) (c_X0_hasRun (G := G) ha9 M8 x4 x5) ⟨rfl, rfl, Nat.le_of_ble_eq_true rfl, Nat.le_of_ble_eq_true rfl⟩ rfl rfl (Nat.le_of_ble_eq_true rfl) (fun r11 M10 => ?_)
              refine v_if_ne 85 88 hF dX4_copy_82 rfl (by decide) (fun _ => ?_) (fun _ => ?_)
              · refine v_aload 1 90 hF dX4_copy_88 rfl rfl ?_
                refine v_getR (b := a2 + 1) 93 hF dX4_copy_90 rfl fl_X4_278 ha2.1 rfl ?_
                refine v_iload_n 4 94 hF dX4_copy_93 rfl rfl rfl ?_
                refine v_aload 0 96 hF dX4_copy_94 rfl rfl ?_
                refine v_getR (b := a9 + 1) 99 hF dX4_copy_96 rfl fl_X4_278 ha9.1 rfl ?_
                refine v_iload 6 101 hF dX4_copy_99 rfl rfl ?_
                refine v_iload 7 103 hF dX4_copy_101 rfl rfl ?_
                refine v_acopy 106 hF dX4_copy_103 rfl (ha2.2) (ha9.2) ca_X4_281 ⟨Nat.le_of_ble_eq_true rfl, Nat.le_of_ble_eq_true rfl⟩ (fun M12 => ?_)
                refine v_iload 7 108 hF dX4_copy_106 rfl rfl ?_
                exact v_iret hF dX4_copy_108
              · refine v_bipush (-12) 87 hF dX4_copy_85 rfl (by decide) ?_
                exact v_iret hF dX4_copy_87
          · refine v_bipush (-13) 61 hF dX4_copy_59 rfl (by decide) ?_
            exact v_iret hF dX4_copy_61
        · refine v_bipush (-11) 45 hF dX4_copy_43 rfl (by decide) ?_
          exact v_iret hF dX4_copy_45
abbrev rmX4_hill : Room := { frames := 2, cells := 0, slots := 0, locals := 47 }
def m_X4_hill_J131 (a2 : Nat) (n75 : Int32 → Int32 → Int32 → Int32 → Mm → Option (Int32 × Mm)) (x4 : Int32) (x6 : Int32) (x7 : Int32) (x8 : Int32) (M : Mm) : Option (Int32 × Mm) := lt1 (x7 + 3) fun y1 => lt1 (x8 + 1) fun y2 => n75 x4 x6 y1 y2 M
def m_X4_hill_B75 (a2 : Nat) (n75 : Int32 → Int32 → Int32 → Int32 → Mm → Option (Int32 × Mm)) (x4 : Int32) (x6 : Int32) (x7 : Int32) (x8 : Int32) (M : Mm) : Option (Int32 × Mm) := if x4 ≤ x8 then (some (x6, M)) else (bd (m_X0_hasRun a2 x7 ((3 : Int32)) M) fun r4 M3 => if r4 = 0 then (some ((-12 : Int32), M3)) else (bd (m_X0_item a2 x7 M3) fun r6 M5 => bd (m_X0_item a2 ((x7 + (1 : Int32))) M5) fun r8 M7 => bd (m_X0_item a2 ((x7 + (2 : Int32))) M7) fun r10 M9 => bd (m_X4_person r6 r8 r10 M9) fun r12 M11 => if r12 < 0 then (m_X4_hill_J131 a2 n75 x4 x6 x7 x8 M11) else (lt1 (x6 + 1) fun y13 => m_X4_hill_J131 a2 n75 x4 y13 x7 x8 M11)))
def m_X4_hill_L75 (a2 : Nat) : Nat → Int32 → Int32 → Int32 → Int32 → Mm → Option (Int32 × Mm)
  | 0 => fun _ _ _ _ _ => none
  | n + 1 => m_X4_hill_B75 a2 (m_X4_hill_L75 a2 n)
def m_X4_hill_J55 (a2 : Nat) (x3 : Int32) (x4 : Int32) (M : Mm) : Option (Int32 × Mm) := bd (m_X0_isMissing a2 M) fun r15 M14 => if r15 = 0 then (lt1 ((0 : Int32)) fun y16 => lt1 x3 fun y17 => lt1 ((0 : Int32)) fun y18 => m_X4_hill_L75 a2 FU x4 y16 y17 y18 M14) else (some ((-11 : Int32), M14))
def m_X4_hill (x1 : Int32) (x2 : Int32) (x3 : Int32) (x4 : Int32) (M : Mm) : Option (Int32 × Mm) := bd (m_X4_sheetNumbered x1 M) (rcase (fun M19 => some ((-2 : Int32), M19)) (fun a2 M19 => gd (isShe a2) (if x2 < 0 then (some ((-2 : Int32), M19)) else (if (2 : Int32) < x2 then (some ((-2 : Int32), M19)) else (if x4 < 0 then (some ((-2 : Int32), M19)) else (if x4 ≤ (5 : Int32) then (bd (m_X0_isMissing a2 M19) fun r21 M20 => if r21 = 0 then (if (M20 a2 0) = x2 then (m_X4_hill_J55 a2 x3 x4 M20) else (some ((-13 : Int32), M20))) else (m_X4_hill_J55 a2 x3 x4 M20)) else (some ((-2 : Int32), M19))))))))
set_option maxRecDepth 100000 in
set_option maxHeartbeats 4000000 in
theorem v_X4_hill_J131 {X : Cx} {G : Gx} {sh : List Sh} (hF : FX X G sh 9 cX4_hill (yX4_hill).cls (some .int) rmX4_hill) {a2 : Nat} (hs : TopAt sh) (ha2 : SheAt sh a2) (n75 : Int32 → Int32 → Int32 → Int32 → Mm → Option (Int32 × Mm)) (h75 : ∀ (x4 : Int32) (x6 : Int32) (x7 : Int32) (x8 : Int32) (M : Mm), VR X G sh 9 rvI M 75 [(0, .ref (G.2.2.2.2 0)), (4, .int x4), (5, .ref (G.2.2.2.2 a2)), (6, .int x6), (7, .int x7), (8, .int x8)] [] (n75 x4 x6 x7 x8 M)) : ∀ (x4 : Int32) (x6 : Int32) (x7 : Int32) (x8 : Int32) (M : Mm), VR X G sh 9 rvI M 131 [(0, .ref (G.2.2.2.2 0)), (4, .int x4), (5, .ref (G.2.2.2.2 a2)), (6, .int x6), (7, .int x7), (8, .int x8)] [] (m_X4_hill_J131 a2 n75 x4 x6 x7 x8 M) := by
  intro x4 x6 x7 x8 M
  unfold m_X4_hill_J131
  refine v_iinc (v := (x7 + 3)) (lo' := fun y1 => [(7, .int y1), (0, .ref (G.2.2.2.2 0)), (4, .int x4), (5, .ref (G.2.2.2.2 a2)), (6, .int x6), (8, .int x8)]) 4 134 hF dX4_hill_131 rfl rfl rfl (by decide) (fun _ => rfl) (fun y1 => ?_)
  refine v_iinc (v := (x8 + 1)) (lo' := fun y2 => [(8, .int y2), (7, .int y1), (0, .ref (G.2.2.2.2 0)), (4, .int x4), (5, .ref (G.2.2.2.2 a2)), (6, .int x6)]) 5 137 hF dX4_hill_134 rfl rfl rfl (by decide) (fun _ => rfl) (fun y2 => ?_)
  refine v_goto 75 hF dX4_hill_137 (by decide) ?_
  refine VR.pick [2, 3, 4, 5, 1, 0] rfl ?_
  exact h75 x4 x6 y1 y2 M
set_option maxRecDepth 100000 in
set_option maxHeartbeats 4000000 in
theorem v_X4_hill_B75 {X : Cx} {G : Gx} {sh : List Sh} (hF : FX X G sh 9 cX4_hill (yX4_hill).cls (some .int) rmX4_hill) {a2 : Nat} (hs : TopAt sh) (ha2 : SheAt sh a2) (n75 : Int32 → Int32 → Int32 → Int32 → Mm → Option (Int32 × Mm)) (h75 : ∀ (x4 : Int32) (x6 : Int32) (x7 : Int32) (x8 : Int32) (M : Mm), VR X G sh 9 rvI M 75 [(0, .ref (G.2.2.2.2 0)), (4, .int x4), (5, .ref (G.2.2.2.2 a2)), (6, .int x6), (7, .int x7), (8, .int x8)] [] (n75 x4 x6 x7 x8 M)) : ∀ (x4 : Int32) (x6 : Int32) (x7 : Int32) (x8 : Int32) (M : Mm), VR X G sh 9 rvI M 75 [(0, .ref (G.2.2.2.2 0)), (4, .int x4), (5, .ref (G.2.2.2.2 a2)), (6, .int x6), (7, .int x7), (8, .int x8)] [] (m_X4_hill_B75 a2 n75 x4 x6 x7 x8 M) := by
  intro x4 x6 x7 x8 M
  unfold m_X4_hill_B75
  refine v_iload 5 77 hF dX4_hill_75 rfl rfl ?_
  refine v_iload 1 79 hF dX4_hill_77 rfl rfl ?_
  refine v_icmp_ge 82 140 hF dX4_hill_79 rfl (by decide) (fun _ => ?_) (fun _ => ?_)
  · refine v_iload 3 142 hF dX4_hill_140 rfl rfl ?_
    exact v_iret hF dX4_hill_142
  · refine v_aload 2 84 hF dX4_hill_82 rfl rfl ?_
    refine v_iload 4 86 hF dX4_hill_84 rfl rfl ?_
    refine v_iconst (3) 87 hF dX4_hill_86 rfl (by decide) ?_
    refine v_callI ([.int x7, .int ((3 : Int32))]) ([]) 90 hF dX4_hill_87 rfl cw_X4_275 rfl (ha2.1) (c_X0_hasRun (G := G) ha2 M x7 ((3 : Int32))) ⟨rfl, rfl, Nat.le_of_ble_eq_true rfl, Nat.le_of_ble_eq_true rfl⟩ rfl rfl (Nat.le_of_ble_eq_true rfl) (fun r4 M3 => ?_)
    refine v_if_ne 93 96 hF dX4_hill_90 rfl (by decide) (fun _ => ?_) (fun _ => ?_)
    · refine v_aload_n 0 97 hF dX4_hill_96 rfl rfl rfl ?_
      refine v_aload 2 99 hF dX4_hill_97 rfl rfl ?_
      refine v_iload 4 101 hF dX4_hill_99 rfl rfl ?_
      refine v_callI ([.int x7]) ([.ref (G.2.2.2.2 0)]) 104 hF dX4_hill_101 rfl cw_X4_287 rfl (ha2.1) (c_X0_item (G := G) ha2 M3 x7) ⟨rfl, rfl, Nat.le_of_ble_eq_true rfl, Nat.le_of_ble_eq_true rfl⟩ rfl rfl (Nat.le_of_ble_eq_true rfl) (fun r6 M5 => ?_)
      refine v_aload 2 106 hF dX4_hill_104 rfl rfl ?_
      refine v_iload 4 108 hF dX4_hill_106 rfl rfl ?_
      refine v_iconst (1) 109 hF dX4_hill_108 rfl (by decide) ?_
      refine v_iadd 110 hF dX4_hill_109 rfl ?_
      refine v_callI ([.int ((x7 + (1 : Int32)))]) ([.int r6, .ref (G.2.2.2.2 0)]) 113 hF dX4_hill_110 rfl cw_X4_287 rfl (ha2.1) (c_X0_item (G := G) ha2 M5 ((x7 + (1 : Int32)))) ⟨rfl, rfl, Nat.le_of_ble_eq_true rfl, Nat.le_of_ble_eq_true rfl⟩ rfl rfl (Nat.le_of_ble_eq_true rfl) (fun r8 M7 => ?_)
      refine v_aload 2 115 hF dX4_hill_113 rfl rfl ?_
      refine v_iload 4 117 hF dX4_hill_115 rfl rfl ?_
      refine v_iconst (2) 118 hF dX4_hill_117 rfl (by decide) ?_
      refine v_iadd 119 hF dX4_hill_118 rfl ?_
      refine v_callI ([.int ((x7 + (2 : Int32)))]) ([.int r8, .int r6, .ref (G.2.2.2.2 0)]) 122 hF dX4_hill_119 rfl cw_X4_287 rfl (ha2.1) (c_X0_item (G := G) ha2 M7 ((x7 + (2 : Int32)))) ⟨rfl, rfl, Nat.le_of_ble_eq_true rfl, Nat.le_of_ble_eq_true rfl⟩ rfl rfl (Nat.le_of_ble_eq_true rfl) (fun r10 M9 => ?_)
      refine v_callI ([.int r6, .int r8, .int r10]) ([]) 125 hF dX4_hill_122 rfl cw_X4_290 rfl (hs.1) (c_X4_person (G := G) hs M9 r6 r8 r10) ⟨rfl, rfl, Nat.le_of_ble_eq_true rfl, Nat.le_of_ble_eq_true rfl⟩ rfl rfl (Nat.le_of_ble_eq_true rfl) (fun r12 M11 => ?_)
      refine v_if_lt 128 131 hF dX4_hill_125 rfl (by decide) (fun _ => ?_) (fun _ => ?_)
      · refine VR.pick [0, 1, 2, 3, 4, 5] rfl ?_
        exact v_X4_hill_J131 hF hs ha2 _ h75 x4 x6 x7 x8 M11
      · refine v_iinc (v := (x6 + 1)) (lo' := fun y13 => [(6, .int y13), (0, .ref (G.2.2.2.2 0)), (4, .int x4), (5, .ref (G.2.2.2.2 a2)), (7, .int x7), (8, .int x8)]) 3 131 hF dX4_hill_128 rfl rfl rfl (by decide) (fun _ => rfl) (fun y13 => ?_)
        refine VR.pick [1, 2, 3, 0, 4, 5] rfl ?_
        exact v_X4_hill_J131 hF hs ha2 _ h75 x4 y13 x7 x8 M11
    · refine v_bipush (-12) 95 hF dX4_hill_93 rfl (by decide) ?_
      exact v_iret hF dX4_hill_95
theorem v_X4_hill_L75 {X : Cx} {G : Gx} {sh : List Sh} (hF : FX X G sh 9 cX4_hill (yX4_hill).cls (some .int) rmX4_hill) {a2 : Nat} (hs : TopAt sh) (ha2 : SheAt sh a2) : ∀ (n : Nat), ∀ (x4 : Int32) (x6 : Int32) (x7 : Int32) (x8 : Int32) (M : Mm), VR X G sh 9 rvI M 75 [(0, .ref (G.2.2.2.2 0)), (4, .int x4), (5, .ref (G.2.2.2.2 a2)), (6, .int x6), (7, .int x7), (8, .int x8)] [] (m_X4_hill_L75 a2 n x4 x6 x7 x8 M) := by
  intro n
  induction n with
  | zero => intro x4 x6 x7 x8 M; exact VR.none
  | succ n ih => exact v_X4_hill_B75 hF hs ha2 _ ih
set_option maxRecDepth 100000 in
set_option maxHeartbeats 4000000 in
theorem v_X4_hill_J55 {X : Cx} {G : Gx} {sh : List Sh} (hF : FX X G sh 9 cX4_hill (yX4_hill).cls (some .int) rmX4_hill) {a2 : Nat} (hs : TopAt sh) (ha2 : SheAt sh a2) : ∀ (x3 : Int32) (x4 : Int32) (M : Mm), VR X G sh 9 rvI M 55 [(0, .ref (G.2.2.2.2 0)), (3, .int x3), (4, .int x4), (5, .ref (G.2.2.2.2 a2))] [] (m_X4_hill_J55 a2 x3 x4 M) := by
  intro x3 x4 M
  unfold m_X4_hill_J55
  refine v_aload 3 57 hF dX4_hill_55 rfl rfl ?_
  refine v_callI ([]) ([]) 60 hF dX4_hill_57 rfl cw_X4_232 rfl (ha2.1) (c_X0_isMissing (G := G) ha2 M) ⟨rfl, rfl, Nat.le_of_ble_eq_true rfl, Nat.le_of_ble_eq_true rfl⟩ rfl rfl (Nat.le_of_ble_eq_true rfl) (fun r15 M14 => ?_)
  refine v_if_eq 63 66 hF dX4_hill_60 rfl (by decide) (fun _ => ?_) (fun _ => ?_)
  · refine v_iconst (0) 67 hF dX4_hill_66 rfl (by decide) ?_
    refine v_istore (lo' := fun y16 => [(6, .int y16), (0, .ref (G.2.2.2.2 0)), (3, .int x3), (4, .int x4), (5, .ref (G.2.2.2.2 a2))]) 69 hF dX4_hill_67 rfl (by decide) (fun _ => rfl) (fun y16 => ?_)
    refine v_iload_n 2 70 hF dX4_hill_69 rfl rfl rfl ?_
    refine v_istore (lo' := fun y17 => [(7, .int y17), (6, .int y16), (0, .ref (G.2.2.2.2 0)), (3, .int x3), (4, .int x4), (5, .ref (G.2.2.2.2 a2))]) 72 hF dX4_hill_70 rfl (by decide) (fun _ => rfl) (fun y17 => ?_)
    refine v_iconst (0) 73 hF dX4_hill_72 rfl (by decide) ?_
    refine v_istore (lo' := fun y18 => [(8, .int y18), (7, .int y17), (6, .int y16), (0, .ref (G.2.2.2.2 0)), (3, .int x3), (4, .int x4), (5, .ref (G.2.2.2.2 a2))]) 75 hF dX4_hill_73 rfl (by decide) (fun _ => rfl) (fun y18 => ?_)
    refine VR.pick [3, 5, 6, 2, 1, 0] rfl ?_
    exact v_X4_hill_L75 hF hs ha2 FU x4 y16 y17 y18 M14
  · refine v_bipush (-11) 65 hF dX4_hill_63 rfl (by decide) ?_
    exact v_iret hF dX4_hill_65
set_option maxRecDepth 100000 in
set_option maxHeartbeats 4000000 in
theorem c_X4_hill {G : Gx} {sh : List Sh} (hs : TopAt sh) (M : Mm) (x1 : Int32) (x2 : Int32) (x3 : Int32) (x4 : Int32) : CT yX4_hill cX4_hill 9 (some .int) rmX4_hill G sh [.ref (G.2.2.2.2 0), .int x1, .int x2, .int x3, .int x4] rvI M (m_X4_hill  x1 x2 x3 x4 M) := by
  refine CT.of (by decide +kernel) (Nat.le_of_ble_eq_true rfl) (fun X hF => ?_)
  show VR X G sh 9 rvI M 0 [(0, .ref (G.2.2.2.2 0)), (1, .int x1), (2, .int x2), (3, .int x3), (4, .int x4)] [] _
  unfold m_X4_hill
  refine v_aload_n 0 1 hF dX4_hill_0 rfl rfl rfl ?_
  refine v_iload_n 1 2 hF dX4_hill_1 rfl rfl rfl ?_
  refine v_callR ([.int x1]) ([]) 5 hF dX4_hill_2 rfl cw_X4_228 rfl (hs.1) (c_X4_sheetNumbered (G := G) hs M x1) ⟨rfl, rfl, Nat.le_of_ble_eq_true rfl, Nat.le_of_ble_eq_true rfl⟩ rfl rfl (Nat.le_of_ble_eq_true rfl) (fun M19 => ?_) (fun a2 M19 => v_gd (fun ha2 => ?_))
  · refine v_astoreN (lo' := [(5, .null), (0, .ref (G.2.2.2.2 0)), (1, .int x1), (2, .int x2), (3, .int x3), (4, .int x4)]) 7 hF dX4_hill_5 rfl (by decide) rfl ?_
    refine v_aloadN 0 9 hF dX4_hill_7 rfl rfl ?_
    refine v_ifnullN 32 hF dX4_hill_9 (by decide) ?_
    refine v_bipush (-2) 34 hF dX4_hill_32 rfl (by decide) ?_
    exact v_iret hF dX4_hill_34
  · have ha2 := she_of hs ha2
    refine v_astore (lo' := [(5, .ref (G.2.2.2.2 a2)), (0, .ref (G.2.2.2.2 0)), (1, .int x1), (2, .int x2), (3, .int x3), (4, .int x4)]) 7 hF dX4_hill_5 rfl (by decide) rfl ?_
    refine v_aload 0 9 hF dX4_hill_7 rfl rfl ?_
    refine v_ifnullR 12 hF dX4_hill_9 rfl ?_
    refine v_iload_n 3 13 hF dX4_hill_12 rfl rfl rfl ?_
    refine v_if_lt 16 32 hF dX4_hill_13 rfl (by decide) (fun _ => ?_) (fun _ => ?_)
    · refine v_bipush (-2) 34 hF dX4_hill_32 rfl (by decide) ?_
      exact v_iret hF dX4_hill_34
    · refine v_iload_n 3 17 hF dX4_hill_16 rfl rfl rfl ?_
      refine v_iconst (2) 18 hF dX4_hill_17 rfl (by decide) ?_
      refine v_icmp_gt 21 32 hF dX4_hill_18 rfl (by decide) (fun _ => ?_) (fun _ => ?_)
      · refine v_bipush (-2) 34 hF dX4_hill_32 rfl (by decide) ?_
        exact v_iret hF dX4_hill_34
      · refine v_iload 5 23 hF dX4_hill_21 rfl rfl ?_
        refine v_if_lt 26 32 hF dX4_hill_23 rfl (by decide) (fun _ => ?_) (fun _ => ?_)
        · refine v_bipush (-2) 34 hF dX4_hill_32 rfl (by decide) ?_
          exact v_iret hF dX4_hill_34
        · refine v_iload 5 28 hF dX4_hill_26 rfl rfl ?_
          refine v_iconst (5) 29 hF dX4_hill_28 rfl (by decide) ?_
          refine v_icmp_le 32 35 hF dX4_hill_29 rfl (by decide) (fun _ => ?_) (fun _ => ?_)
          · refine v_aload 0 37 hF dX4_hill_35 rfl rfl ?_
            refine v_callI ([]) ([]) 40 hF dX4_hill_37 rfl cw_X4_232 rfl (ha2.1) (c_X0_isMissing (G := G) ha2 M19) ⟨rfl, rfl, Nat.le_of_ble_eq_true rfl, Nat.le_of_ble_eq_true rfl⟩ rfl rfl (Nat.le_of_ble_eq_true rfl) (fun r21 M20 => ?_)
            refine v_if_ne 43 55 hF dX4_hill_40 rfl (by decide) (fun _ => ?_) (fun _ => ?_)
            · refine VR.pick [1, 4, 5, 0] rfl ?_
              exact v_X4_hill_J55 hF hs ha2 x3 x4 M20
            · refine v_aload 0 45 hF dX4_hill_43 rfl rfl ?_
              refine v_getI 48 hF dX4_hill_45 rfl fl_X4_272 ha2.1 rfl ?_
              refine v_iload_n 3 49 hF dX4_hill_48 rfl rfl rfl ?_
              refine v_icmp_eq 52 55 hF dX4_hill_49 rfl (by decide) (fun _ => ?_) (fun _ => ?_)
              · refine VR.pick [1, 4, 5, 0] rfl ?_
                exact v_X4_hill_J55 hF hs ha2 x3 x4 M20
              · refine v_bipush (-13) 54 hF dX4_hill_52 rfl (by decide) ?_
                exact v_iret hF dX4_hill_54
          · refine v_bipush (-2) 34 hF dX4_hill_32 rfl (by decide) ?_
            exact v_iret hF dX4_hill_34
abbrev rmX4_taken : Room := { frames := 2, cells := 0, slots := 0, locals := 42 }
def m_X4_taken (x1 : Int32) (x2 : Int32) (M : Mm) : Option (Int32 × Mm) := if x2 < 0 then (some ((-2 : Int32), M)) else (if x2 ≤ (5 : Int32) then (bd (m_X3_isOne 7 x1 M) fun r2 M1 => if r2 = 0 then (some ((-11 : Int32), M1)) else (bd (m_X3_kindOf 7 x1 M1) fun r4 M3 => bd (m_X3_isUnder r4 x2 M3) fun r6 M5 => if r6 = 0 then (some ((-13 : Int32), M5)) else (bd (m_X3_numberOf 7 x1 M5) fun r8 M7 => some (r8, M7)))) else (some ((-2 : Int32), M)))
set_option maxRecDepth 100000 in
set_option maxHeartbeats 4000000 in
theorem c_X4_taken {G : Gx} {sh : List Sh} (hs : TopAt sh) (M : Mm) (x1 : Int32) (x2 : Int32) : CT yX4_taken cX4_taken 3 (some .int) rmX4_taken G sh [.ref (G.2.2.2.2 0), .int x1, .int x2] rvI M (m_X4_taken  x1 x2 M) := by
  refine CT.of (by decide +kernel) (Nat.le_of_ble_eq_true rfl) (fun X hF => ?_)
  show VR X G sh 3 rvI M 0 [(0, .ref (G.2.2.2.2 0)), (1, .int x1), (2, .int x2)] [] _
  unfold m_X4_taken
  refine v_iload_n 2 1 hF dX4_taken_0 rfl rfl rfl ?_
  refine v_if_lt 4 9 hF dX4_taken_1 rfl (by decide) (fun _ => ?_) (fun _ => ?_)
  · refine v_bipush (-2) 11 hF dX4_taken_9 rfl (by decide) ?_
    exact v_iret hF dX4_taken_11
  · refine v_iload_n 2 5 hF dX4_taken_4 rfl rfl rfl ?_
    refine v_iconst (5) 6 hF dX4_taken_5 rfl (by decide) ?_
    refine v_icmp_le 9 12 hF dX4_taken_6 rfl (by decide) (fun _ => ?_) (fun _ => ?_)
    · refine v_aload_n 0 13 hF dX4_taken_12 rfl rfl rfl ?_
      refine v_getR (b := 7) 16 hF dX4_taken_13 rfl fl_X4_38 hs.1 rfl ?_
      refine v_iload_n 1 17 hF dX4_taken_16 rfl rfl rfl ?_
      refine v_callI ([.int x1]) ([]) 20 hF dX4_taken_17 rfl cw_X4_105 rfl (hs.2.2.2.1.1) (c_X3_isOne (G := G) (hs.2.1) (hs.2.2.2.1) M x1) ⟨rfl, rfl, Nat.le_of_ble_eq_true rfl, Nat.le_of_ble_eq_true rfl⟩ rfl rfl (Nat.le_of_ble_eq_true rfl) (fun r2 M1 => ?_)
      refine v_if_ne 23 26 hF dX4_taken_20 rfl (by decide) (fun _ => ?_) (fun _ => ?_)
      · refine v_aload_n 0 27 hF dX4_taken_26 rfl rfl rfl ?_
        refine v_getR (b := 7) 30 hF dX4_taken_27 rfl fl_X4_38 hs.1 rfl ?_
        refine v_iload_n 1 31 hF dX4_taken_30 rfl rfl rfl ?_
        refine v_callI ([.int x1]) ([]) 34 hF dX4_taken_31 rfl cw_X4_123 rfl (hs.2.2.2.1.1) (c_X3_kindOf (G := G) (hs.2.1) (hs.2.2.2.1) M1 x1) ⟨rfl, rfl, Nat.le_of_ble_eq_true rfl, Nat.le_of_ble_eq_true rfl⟩ rfl rfl (Nat.le_of_ble_eq_true rfl) (fun r4 M3 => ?_)
        refine v_iload_n 2 35 hF dX4_taken_34 rfl rfl rfl ?_
        refine v_staI ([.int r4, .int x2]) ([]) 38 hF dX4_taken_35 rfl cw_X4_293 (c_X3_isUnder (G := G) (sh := sh) M3 r4 x2) ⟨rfl, rfl, Nat.le_of_ble_eq_true rfl, Nat.le_of_ble_eq_true rfl⟩ rfl rfl (Nat.le_of_ble_eq_true rfl) (fun r6 M5 => ?_)
        refine v_if_eq 41 52 hF dX4_taken_38 rfl (by decide) (fun _ => ?_) (fun _ => ?_)
        · refine v_bipush (-13) 54 hF dX4_taken_52 rfl (by decide) ?_
          exact v_iret hF dX4_taken_54
        · refine v_aload_n 0 42 hF dX4_taken_41 rfl rfl rfl ?_
          refine v_getR (b := 7) 45 hF dX4_taken_42 rfl fl_X4_38 hs.1 rfl ?_
          refine v_iload_n 1 46 hF dX4_taken_45 rfl rfl rfl ?_
          refine v_callI ([.int x1]) ([]) 49 hF dX4_taken_46 rfl cw_X4_120 rfl (hs.2.2.2.1.1) (c_X3_numberOf (G := G) (hs.2.1) (hs.2.2.2.1) M5 x1) ⟨rfl, rfl, Nat.le_of_ble_eq_true rfl, Nat.le_of_ble_eq_true rfl⟩ rfl rfl (Nat.le_of_ble_eq_true rfl) (fun r8 M7 => ?_)
          refine v_goto 54 hF dX4_taken_49 (by decide) ?_
          exact v_iret hF dX4_taken_54
      · refine v_bipush (-11) 25 hF dX4_taken_23 rfl (by decide) ?_
        exact v_iret hF dX4_taken_25
    · refine v_bipush (-2) 11 hF dX4_taken_9 rfl (by decide) ?_
      exact v_iret hF dX4_taken_11
abbrev rmX5_in : Room := { frames := 0, cells := 0, slots := 0, locals := 0 }
def m_X5_in (x0 : Int64) (x2 : Int64) (x4 : Int64) (M : Mm) : Option (Int32 × Mm) := if (lg_cmp x0 x2) < 0 then (some ((0 : Int32), M)) else (if 0 < (lg_cmp x0 x4) then (some ((0 : Int32), M)) else (some ((1 : Int32), M)))
set_option maxRecDepth 100000 in
set_option maxHeartbeats 4000000 in
theorem c_X5_in {G : Gx} {sh : List Sh} (M : Mm) (x0 : Int64) (x2 : Int64) (x4 : Int64) : CT yX5_in cX5_in 6 (some .boolean) rmX5_in G sh [.long x0, .long x2, .long x4] rvI M (m_X5_in  x0 x2 x4 M) := by
  refine CT.of (by decide +kernel) (Nat.le_of_ble_eq_true rfl) (fun X hF => ?_)
  show VR X G sh 6 rvI M 0 [(0, .long x0), (2, .long x2), (4, .long x4)] [] _
  unfold m_X5_in
  refine v_lload_n 0 1 hF dX5_in_0 rfl rfl rfl ?_
  refine v_lload_n 1 2 hF dX5_in_1 rfl rfl rfl ?_
  refine v_lcmp 3 hF dX5_in_2 rfl ?_
  refine v_if_lt 6 17 hF dX5_in_3 rfl (by decide) (fun _ => ?_) (fun _ => ?_)
  · refine v_iconst (0) 18 hF dX5_in_17 rfl (by decide) ?_
    exact v_zret0 hF dX5_in_18 rfl
  · refine v_lload_n 0 7 hF dX5_in_6 rfl rfl rfl ?_
    refine v_lload 2 9 hF dX5_in_7 rfl rfl ?_
    refine v_lcmp 10 hF dX5_in_9 rfl ?_
    refine v_if_gt 13 17 hF dX5_in_10 rfl (by decide) (fun _ => ?_) (fun _ => ?_)
    · refine v_iconst (0) 18 hF dX5_in_17 rfl (by decide) ?_
      exact v_zret0 hF dX5_in_18 rfl
    · refine v_iconst (1) 14 hF dX5_in_13 rfl (by decide) ?_
      refine v_goto 18 hF dX5_in_14 (by decide) ?_
      exact v_zret0 hF dX5_in_18 rfl
abbrev rmX5_within : Room := { frames := 0, cells := 0, slots := 0, locals := 0 }
def m_X5_within (x0 : Int32) (x1 : Int32) (x2 : Int32) (M : Mm) : Option (Int32 × Mm) := if x1 ≤ x0 then (if x0 ≤ x2 then (some (x0, M)) else (some (x2, M))) else (some (x1, M))
set_option maxRecDepth 100000 in
set_option maxHeartbeats 4000000 in
theorem c_X5_within {G : Gx} {sh : List Sh} (M : Mm) (x0 : Int32) (x1 : Int32) (x2 : Int32) : CT yX5_within cX5_within 3 (some .int) rmX5_within G sh [.int x0, .int x1, .int x2] rvI M (m_X5_within  x0 x1 x2 M) := by
  refine CT.of (by decide +kernel) (Nat.le_of_ble_eq_true rfl) (fun X hF => ?_)
  show VR X G sh 3 rvI M 0 [(0, .int x0), (1, .int x1), (2, .int x2)] [] _
  unfold m_X5_within
  refine v_iload_n 0 1 hF dX5_within_0 rfl rfl rfl ?_
  refine v_iload_n 1 2 hF dX5_within_1 rfl rfl rfl ?_
  refine v_icmp_ge 5 9 hF dX5_within_2 rfl (by decide) (fun _ => ?_) (fun _ => ?_)
  · refine v_iload_n 0 10 hF dX5_within_9 rfl rfl rfl ?_
    refine v_iload_n 2 11 hF dX5_within_10 rfl rfl rfl ?_
    refine v_icmp_le 14 18 hF dX5_within_11 rfl (by decide) (fun _ => ?_) (fun _ => ?_)
    · refine v_iload_n 0 19 hF dX5_within_18 rfl rfl rfl ?_
      exact v_iret hF dX5_within_19
    · refine v_iload_n 2 15 hF dX5_within_14 rfl rfl rfl ?_
      refine v_goto 19 hF dX5_within_15 (by decide) ?_
      exact v_iret hF dX5_within_19
  · refine v_iload_n 1 6 hF dX5_within_5 rfl rfl rfl ?_
    refine v_goto 19 hF dX5_within_6 (by decide) ?_
    exact v_iret hF dX5_within_19
abbrev rmX5_spell : Room := { frames := 0, cells := 0, slots := 0, locals := 0 }
def m_X5_spell (x1 : Int32) (x2 : Int32) (x3 : Int32) (x4 : Int32) (x5 : Int32) (x6 : Int32) (x7 : Int32) (x8 : Int32) (x9 : Int32) (M : Mm) : Option (Unit × Mm) := gd (inr x1 960) (lt1 (up M 1 x1.toNatClampNeg x2) fun M1 => gd (inr ((x1 + (1 : Int32))) 960) (lt1 (up M1 1 ((x1 + (1 : Int32))).toNatClampNeg x3) fun M2 => gd (inr ((x1 + (2 : Int32))) 960) (lt1 (up M2 1 ((x1 + (2 : Int32))).toNatClampNeg x4) fun M3 => gd (inr ((x1 + (3 : Int32))) 960) (lt1 (up M3 1 ((x1 + (3 : Int32))).toNatClampNeg x5) fun M4 => gd (inr ((x1 + (4 : Int32))) 960) (lt1 (up M4 1 ((x1 + (4 : Int32))).toNatClampNeg x6) fun M5 => gd (inr ((x1 + (5 : Int32))) 960) (lt1 (up M5 1 ((x1 + (5 : Int32))).toNatClampNeg x7) fun M6 => gd (inr ((x1 + (6 : Int32))) 960) (lt1 (up M6 1 ((x1 + (6 : Int32))).toNatClampNeg x8) fun M7 => gd (inr ((x1 + (7 : Int32))) 960) (lt1 (up M7 1 ((x1 + (7 : Int32))).toNatClampNeg x9) fun M8 => some ((), M8)))))))))
set_option maxRecDepth 100000 in
set_option maxHeartbeats 4000000 in
theorem c_X5_spell {G : Gx} {sh : List Sh} (hs : ModAt sh) (M : Mm) (x1 : Int32) (x2 : Int32) (x3 : Int32) (x4 : Int32) (x5 : Int32) (x6 : Int32) (x7 : Int32) (x8 : Int32) (x9 : Int32) : CT yX5_spell cX5_spell 10 none rmX5_spell G sh [.ref (G.2.2.2.2 0), .int x1, .int x2, .int x3, .int x4, .int x5, .int x6, .int x7, .int x8, .int x9] rvV M (m_X5_spell  x1 x2 x3 x4 x5 x6 x7 x8 x9 M) := by
  refine CT.of (by decide +kernel) (Nat.le_of_ble_eq_true rfl) (fun X hF => ?_)
  show VR X G sh 10 rvV M 0 [(0, .ref (G.2.2.2.2 0)), (1, .int x1), (2, .int x2), (3, .int x3), (4, .int x4), (5, .int x5), (6, .int x6), (7, .int x7), (8, .int x8), (9, .int x9)] [] _
  unfold m_X5_spell
  refine v_aload_n 0 1 hF dX5_spell_0 rfl rfl rfl ?_
  refine v_getR (b := 1) 4 hF dX5_spell_1 rfl fl_X5_13 hs.1 rfl ?_
  refine v_iload_n 1 5 hF dX5_spell_4 rfl rfl rfl ?_
  refine v_iload_n 2 6 hF dX5_spell_5 rfl rfl rfl ?_
  refine v_iast 7 hF dX5_spell_6 rfl (hs.2.1) (fun M1 => ?_)
  refine v_aload_n 0 8 hF dX5_spell_7 rfl rfl rfl ?_
  refine v_getR (b := 1) 11 hF dX5_spell_8 rfl fl_X5_13 hs.1 rfl ?_
  refine v_iload_n 1 12 hF dX5_spell_11 rfl rfl rfl ?_
  refine v_iconst (1) 13 hF dX5_spell_12 rfl (by decide) ?_
  refine v_iadd 14 hF dX5_spell_13 rfl ?_
  refine v_iload_n 3 15 hF dX5_spell_14 rfl rfl rfl ?_
  refine v_iast 16 hF dX5_spell_15 rfl (hs.2.1) (fun M2 => ?_)
  refine v_aload_n 0 17 hF dX5_spell_16 rfl rfl rfl ?_
  refine v_getR (b := 1) 20 hF dX5_spell_17 rfl fl_X5_13 hs.1 rfl ?_
  refine v_iload_n 1 21 hF dX5_spell_20 rfl rfl rfl ?_
  refine v_iconst (2) 22 hF dX5_spell_21 rfl (by decide) ?_
  refine v_iadd 23 hF dX5_spell_22 rfl ?_
  refine v_iload 4 25 hF dX5_spell_23 rfl rfl ?_
  refine v_iast 26 hF dX5_spell_25 rfl (hs.2.1) (fun M3 => ?_)
  refine v_aload_n 0 27 hF dX5_spell_26 rfl rfl rfl ?_
  refine v_getR (b := 1) 30 hF dX5_spell_27 rfl fl_X5_13 hs.1 rfl ?_
  refine v_iload_n 1 31 hF dX5_spell_30 rfl rfl rfl ?_
  refine v_iconst (3) 32 hF dX5_spell_31 rfl (by decide) ?_
  refine v_iadd 33 hF dX5_spell_32 rfl ?_
  refine v_iload 5 35 hF dX5_spell_33 rfl rfl ?_
  refine v_iast 36 hF dX5_spell_35 rfl (hs.2.1) (fun M4 => ?_)
  refine v_aload_n 0 37 hF dX5_spell_36 rfl rfl rfl ?_
  refine v_getR (b := 1) 40 hF dX5_spell_37 rfl fl_X5_13 hs.1 rfl ?_
  refine v_iload_n 1 41 hF dX5_spell_40 rfl rfl rfl ?_
  refine v_iconst (4) 42 hF dX5_spell_41 rfl (by decide) ?_
  refine v_iadd 43 hF dX5_spell_42 rfl ?_
  refine v_iload 6 45 hF dX5_spell_43 rfl rfl ?_
  refine v_iast 46 hF dX5_spell_45 rfl (hs.2.1) (fun M5 => ?_)
  refine v_aload_n 0 47 hF dX5_spell_46 rfl rfl rfl ?_
  refine v_getR (b := 1) 50 hF dX5_spell_47 rfl fl_X5_13 hs.1 rfl ?_
  refine v_iload_n 1 51 hF dX5_spell_50 rfl rfl rfl ?_
  refine v_iconst (5) 52 hF dX5_spell_51 rfl (by decide) ?_
  refine v_iadd 53 hF dX5_spell_52 rfl ?_
  refine v_iload 7 55 hF dX5_spell_53 rfl rfl ?_
  refine v_iast 56 hF dX5_spell_55 rfl (hs.2.1) (fun M6 => ?_)
  refine v_aload_n 0 57 hF dX5_spell_56 rfl rfl rfl ?_
  refine v_getR (b := 1) 60 hF dX5_spell_57 rfl fl_X5_13 hs.1 rfl ?_
  refine v_iload_n 1 61 hF dX5_spell_60 rfl rfl rfl ?_
  refine v_bipush (6) 63 hF dX5_spell_61 rfl (by decide) ?_
  refine v_iadd 64 hF dX5_spell_63 rfl ?_
  refine v_iload 8 66 hF dX5_spell_64 rfl rfl ?_
  refine v_iast 67 hF dX5_spell_66 rfl (hs.2.1) (fun M7 => ?_)
  refine v_aload_n 0 68 hF dX5_spell_67 rfl rfl rfl ?_
  refine v_getR (b := 1) 71 hF dX5_spell_68 rfl fl_X5_13 hs.1 rfl ?_
  refine v_iload_n 1 72 hF dX5_spell_71 rfl rfl rfl ?_
  refine v_bipush (7) 74 hF dX5_spell_72 rfl (by decide) ?_
  refine v_iadd 75 hF dX5_spell_74 rfl ?_
  refine v_iload 9 77 hF dX5_spell_75 rfl rfl ?_
  refine v_iast 78 hF dX5_spell_77 rfl (hs.2.1) (fun M8 => ?_)
  exact v_vret hF dX5_spell_78
