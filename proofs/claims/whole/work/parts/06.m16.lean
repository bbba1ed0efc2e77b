abbrev rmX5_firstOther : Room := { frames := 70, cells := 0, slots := 0, locals := 3114 }
def m_X5_firstOther_J67 (x3 : Int32) (M : Mm) : Option (Int32 × Mm) := bd (m_X5_laysBack M) fun _ M1 => some (x3, M1)
def m_X5_firstOther_J60 (n9 : Int32 → Int32 → Int32 → Int32 → Mm → Option (Int32 × Mm)) (x1 : Int32) (x2 : Int32) (x4 : Int32) (s0 : Int32) (M : Mm) : Option (Int32 × Mm) := lt1 s0 fun y2 => lt1 (x4 + 1) fun y3 => n9 x1 x2 y2 y3 M
def m_X5_firstOther_B9 (n9 : Int32 → Int32 → Int32 → Int32 → Mm → Option (Int32 × Mm)) (x1 : Int32) (x2 : Int32) (x3 : Int32) (x4 : Int32) (M : Mm) : Option (Int32 × Mm) := gd (inr x1 4) (if (M 14 x1.toNatClampNeg) ≤ x4 then (m_X5_firstOther_J67 x3 M) else (if x3 = (-1 : Int32) then (bd (m_X5_passes M) fun _ M4 => gd (inr ((((5 : Int32) * x2) + (3 : Int32))) 40) (gd (inr ((((40 : Int32) * x1) + x4)) 160) (if (M4 5 ((((5 : Int32) * x2) + (3 : Int32))).toNatClampNeg) = (M4 15 ((((40 : Int32) * x1) + x4)).toNatClampNeg) then (m_X5_firstOther_J60 n9 x1 x2 x4 ((-1 : Int32)) M4) else (m_X5_firstOther_J60 n9 x1 x2 x4 x4 M4)))) else (m_X5_firstOther_J67 x3 M)))
def m_X5_firstOther_L9 : Nat → Int32 → Int32 → Int32 → Int32 → Mm → Option (Int32 × Mm)
  | 0 => fun _ _ _ _ _ => none
  | n + 1 => m_X5_firstOther_B9  (m_X5_firstOther_L9  n)
def m_X5_firstOther (x1 : Int32) (x2 : Int32) (M : Mm) : Option (Int32 × Mm) := bd (m_X5_laysAside M) fun _ M5 => lt1 ((-1 : Int32)) fun y6 => lt1 ((0 : Int32)) fun y7 => m_X5_firstOther_L9 FU x1 x2 y6 y7 M5
set_option maxRecDepth 100000 in
set_option maxHeartbeats 4000000 in
theorem v_X5_firstOther_J67 {X : Cx} {G : Gx} {sh : List Sh} (hF : FX X G sh 5 cX5_firstOther (yX5_firstOther).cls (some .int) rmX5_firstOther) (hs : ModAt sh) : ∀ (x3 : Int32) (M : Mm), VR X G sh 5 rvI M 67 [(0, .ref (G.2.2.2.2 0)), (3, .int x3)] [] (m_X5_firstOther_J67  x3 M) := by
  intro x3 M
  unfold m_X5_firstOther_J67
  refine v_aload_n 0 68 hF dX5_firstOther_67 rfl rfl rfl ?_
  refine v_callV ([]) ([]) 71 hF dX5_firstOther_68 rfl cw_X5_291 rfl (hs.1) (c_X5_laysBack (G := G) hs M) ⟨rfl, rfl, Nat.le_of_ble_eq_true rfl, Nat.le_of_ble_eq_true rfl⟩ rfl rfl (Nat.le_of_ble_eq_true rfl) (fun _ M1 => ?_)
  refine v_iload_n 1 72 hF dX5_firstOther_71 rfl rfl rfl ?_
  exact v_iret hF dX5_firstOther_72
set_option maxRecDepth 100000 in
set_option maxHeartbeats 4000000 in
theorem v_X5_firstOther_J60 {X : Cx} {G : Gx} {sh : List Sh} (hF : FX X G sh 5 cX5_firstOther (yX5_firstOther).cls (some .int) rmX5_firstOther) (hs : ModAt sh) (n9 : Int32 → Int32 → Int32 → Int32 → Mm → Option (Int32 × Mm)) (h9 : ∀ (x1 : Int32) (x2 : Int32) (x3 : Int32) (x4 : Int32) (M : Mm), VR X G sh 5 rvI M 9 [(0, .ref (G.2.2.2.2 0)), (1, .int x1), (2, .int x2), (3, .int x3), (4, .int x4)] [] (n9 x1 x2 x3 x4 M)) : ∀ (x1 : Int32) (x2 : Int32) (x4 : Int32) (s0 : Int32) (M : Mm), VR X G sh 5 rvI M 60 [(0, .ref (G.2.2.2.2 0)), (1, .int x1), (2, .int x2), (4, .int x4)] [.int s0] (m_X5_firstOther_J60  n9 x1 x2 x4 s0 M) := by
  intro x1 x2 x4 s0 M
  unfold m_X5_firstOther_J60
  refine v_istore_n (lo' := fun y2 => [(3, .int y2), (0, .ref (G.2.2.2.2 0)), (1, .int x1), (2, .int x2), (4, .int x4)]) 61 hF dX5_firstOther_60 rfl rfl (by decide) (fun _ => rfl) (fun y2 => ?_)
  refine v_iinc (v := (x4 + 1)) (lo' := fun y3 => [(4, .int y3), (3, .int y2), (0, .ref (G.2.2.2.2 0)), (1, .int x1), (2, .int x2)]) 4 64 hF dX5_firstOther_61 rfl rfl rfl (by decide) (fun _ => rfl) (fun y3 => ?_)
  refine v_goto 9 hF dX5_firstOther_64 (by decide) ?_
  refine VR.pick [2, 3, 4, 1, 0] rfl ?_
  exact h9 x1 x2 y2 y3 M
set_option maxRecDepth 100000 in
set_option maxHeartbeats 4000000 in
theorem v_X5_firstOther_B9 {X : Cx} {G : Gx} {sh : List Sh} (hF : FX X G sh 5 cX5_firstOther (yX5_firstOther).cls (some .int) rmX5_firstOther) (hs : ModAt sh) (n9 : Int32 → Int32 → Int32 → Int32 → Mm → Option (Int32 × Mm)) (h9 : ∀ (x1 : Int32) (x2 : Int32) (x3 : Int32) (x4 : Int32) (M : Mm), VR X G sh 5 rvI M 9 [(0, .ref (G.2.2.2.2 0)), (1, .int x1), (2, .int x2), (3, .int x3), (4, .int x4)] [] (n9 x1 x2 x3 x4 M)) : ∀ (x1 : Int32) (x2 : Int32) (x3 : Int32) (x4 : Int32) (M : Mm), VR X G sh 5 rvI M 9 [(0, .ref (G.2.2.2.2 0)), (1, .int x1), (2, .int x2), (3, .int x3), (4, .int x4)] [] (m_X5_firstOther_B9  n9 x1 x2 x3 x4 M) := by
  intro x1 x2 x3 x4 M
  unfold m_X5_firstOther_B9
  refine v_iload 4 11 hF dX5_firstOther_9 rfl rfl ?_
  refine v_aload_n 0 12 hF dX5_firstOther_11 rfl rfl rfl ?_
  refine v_getR (b := 14) 15 hF dX5_firstOther_12 rfl fl_X5_60 hs.1 rfl ?_
  refine v_iload_n 1 16 hF dX5_firstOther_15 rfl rfl rfl ?_
  refine v_iald 17 hF dX5_firstOther_16 rfl (hs.2.2.2.2.2.2.2.2.2.2.2.2.2.2.1) ?_
  refine v_icmp_ge 20 67 hF dX5_firstOther_17 rfl (by decide) (fun _ => ?_) (fun _ => ?_)
  · refine VR.pick [0, 3] rfl ?_
    exact v_X5_firstOther_J67 hF hs x3 M
  · refine v_iload_n 3 21 hF dX5_firstOther_20 rfl rfl rfl ?_
    refine v_iconst (-1) 22 hF dX5_firstOther_21 rfl (by decide) ?_
    refine v_icmp_ne 25 67 hF dX5_firstOther_22 rfl (by decide) (fun _ => ?_) (fun _ => ?_)
    · refine VR.pick [0, 3] rfl ?_
      exact v_X5_firstOther_J67 hF hs x3 M
    · refine v_aload_n 0 26 hF dX5_firstOther_25 rfl rfl rfl ?_
      refine v_callV ([]) ([]) 29 hF dX5_firstOther_26 rfl cw_X5_279 rfl (hs.1) (c_X5_passes (G := G) hs M) ⟨rfl, rfl, Nat.le_of_ble_eq_true rfl, Nat.le_of_ble_eq_true rfl⟩ rfl rfl (Nat.le_of_ble_eq_true rfl) (fun _ M4 => ?_)
      refine v_aload_n 0 30 hF dX5_firstOther_29 rfl rfl rfl ?_
      refine v_getR (b := 5) 33 hF dX5_firstOther_30 rfl fl_X5_29 hs.1 rfl ?_
      refine v_iconst (5) 34 hF dX5_firstOther_33 rfl (by decide) ?_
      refine v_iload_n 2 35 hF dX5_firstOther_34 rfl rfl rfl ?_
      refine v_imul 36 hF dX5_firstOther_35 rfl ?_
      refine v_iconst (3) 37 hF dX5_firstOther_36 rfl (by decide) ?_
      refine v_iadd 38 hF dX5_firstOther_37 rfl ?_
      refine v_iald 39 hF dX5_firstOther_38 rfl (hs.2.2.2.2.2.1) ?_
      refine v_aload_n 0 40 hF dX5_firstOther_39 rfl rfl rfl ?_
      refine v_getR (b := 15) 43 hF dX5_firstOther_40 rfl fl_X5_63 hs.1 rfl ?_
      refine v_bipush (40) 45 hF dX5_firstOther_43 rfl (by decide) ?_
      refine v_iload_n 1 46 hF dX5_firstOther_45 rfl rfl rfl ?_
      refine v_imul 47 hF dX5_firstOther_46 rfl ?_
      refine v_iload 4 49 hF dX5_firstOther_47 rfl rfl ?_
      refine v_iadd 50 hF dX5_firstOther_49 rfl ?_
      refine v_iald 51 hF dX5_firstOther_50 rfl (hs.2.2.2.2.2.2.2.2.2.2.2.2.2.2.2) ?_
      refine v_icmp_ne 54 58 hF dX5_firstOther_51 rfl (by decide) (fun _ => ?_) (fun _ => ?_)
      · refine v_iload 4 60 hF dX5_firstOther_58 rfl rfl ?_
        refine VR.pick [0, 1, 2, 4] rfl ?_
        exact v_X5_firstOther_J60 hF hs _ h9 x1 x2 x4 x4 M4
      · refine v_iconst (-1) 55 hF dX5_firstOther_54 rfl (by decide) ?_
        refine v_goto 60 hF dX5_firstOther_55 (by decide) ?_
        refine VR.pick [0, 1, 2, 4] rfl ?_
        exact v_X5_firstOther_J60 hF hs _ h9 x1 x2 x4 ((-1 : Int32)) M4
theorem v_X5_firstOther_L9 {X : Cx} {G : Gx} {sh : List Sh} (hF : FX X G sh 5 cX5_firstOther (yX5_firstOther).cls (some .int) rmX5_firstOther) (hs : ModAt sh) : ∀ (n : Nat), ∀ (x1 : Int32) (x2 : Int32) (x3 : Int32) (x4 : Int32) (M : Mm), VR X G sh 5 rvI M 9 [(0, .ref (G.2.2.2.2 0)), (1, .int x1), (2, .int x2), (3, .int x3), (4, .int x4)] [] (m_X5_firstOther_L9  n x1 x2 x3 x4 M) := by
  intro n
  induction n with
  | zero => intro x1 x2 x3 x4 M; exact VR.none
  | succ n ih => exact v_X5_firstOther_B9 hF hs _ ih
set_option maxRecDepth 100000 in
set_option maxHeartbeats 4000000 in
theorem c_X5_firstOther {G : Gx} {sh : List Sh} (hs : ModAt sh) (M : Mm) (x1 : Int32) (x2 : Int32) : CT yX5_firstOther cX5_firstOther 5 (some .int) rmX5_firstOther G sh [.ref (G.2.2.2.2 0), .int x1, .int x2] rvI M (m_X5_firstOther  x1 x2 M) := by
  refine CT.of (by decide +kernel) (Nat.le_of_ble_eq_true rfl) (fun X hF => ?_)
  show VR X G sh 5 rvI M 0 [(0, .ref (G.2.2.2.2 0)), (1, .int x1), (2, .int x2)] [] _
  unfold m_X5_firstOther
  refine v_aload_n 0 1 hF dX5_firstOther_0 rfl rfl rfl ?_
  refine v_callV ([]) ([]) 4 hF dX5_firstOther_1 rfl cw_X5_282 rfl (hs.1) (c_X5_laysAside (G := G) hs M) ⟨rfl, rfl, Nat.le_of_ble_eq_true rfl, Nat.le_of_ble_eq_true rfl⟩ rfl rfl (Nat.le_of_ble_eq_true rfl) (fun _ M5 => ?_)
  refine v_iconst (-1) 5 hF dX5_firstOther_4 rfl (by decide) ?_
  refine v_istore_n (lo' := fun y6 => [(3, .int y6), (0, .ref (G.2.2.2.2 0)), (1, .int x1), (2, .int x2)]) 6 hF dX5_firstOther_5 rfl rfl (by decide) (fun _ => rfl) (fun y6 => ?_)
  refine v_iconst (0) 7 hF dX5_firstOther_6 rfl (by decide) ?_
  refine v_istore (lo' := fun y7 => [(4, .int y7), (3, .int y6), (0, .ref (G.2.2.2.2 0)), (1, .int x1), (2, .int x2)]) 9 hF dX5_firstOther_7 rfl (by decide) (fun _ => rfl) (fun y7 => ?_)
  refine VR.pick [2, 3, 4, 1, 0] rfl ?_
  exact v_X5_firstOther_L9 hF hs FU x1 x2 y6 y7 M5
abbrev rmX5_likeSet : Room := { frames := 71, cells := 0, slots := 0, locals := 3138 }
def m_X5_likeSet_J28 (n4 : Int32 → Int32 → Int32 → Mm → Option (Int32 × Mm)) (x1 : Int32) (x3 : Int32) (s0 : Int32) (s1 : Int32) (M : Mm) : Option (Int32 × Mm) := lt1 ((s1 ||| (shl s0 x3))) fun y1 => lt1 (x3 + 1) fun y2 => n4 x1 y1 y2 M
def m_X5_likeSet_B4 (n4 : Int32 → Int32 → Int32 → Mm → Option (Int32 × Mm)) (x1 : Int32) (x2 : Int32) (x3 : Int32) (M : Mm) : Option (Int32 × Mm) := if (M 0 12) ≤ x3 then (some (x2, M)) else (bd (m_X5_firstOther x1 x3 M) fun r4 M3 => if r4 = (-1 : Int32) then (m_X5_likeSet_J28 n4 x1 x3 ((1 : Int32)) x2 M3) else (m_X5_likeSet_J28 n4 x1 x3 ((0 : Int32)) x2 M3))
def m_X5_likeSet_L4 : Nat → Int32 → Int32 → Int32 → Mm → Option (Int32 × Mm)
  | 0 => fun _ _ _ _ => none
  | n + 1 => m_X5_likeSet_B4  (m_X5_likeSet_L4  n)
def m_X5_likeSet (x1 : Int32) (M : Mm) : Option (Int32 × Mm) := lt1 ((0 : Int32)) fun y5 => lt1 ((0 : Int32)) fun y6 => m_X5_likeSet_L4 FU x1 y5 y6 M
set_option maxRecDepth 100000 in
set_option maxHeartbeats 4000000 in
theorem v_X5_likeSet_J28 {X : Cx} {G : Gx} {sh : List Sh} (hF : FX X G sh 4 cX5_likeSet (yX5_likeSet).cls (some .int) rmX5_likeSet) (hs : ModAt sh) (n4 : Int32 → Int32 → Int32 → Mm → Option (Int32 × Mm)) (h4 : ∀ (x1 : Int32) (x2 : Int32) (x3 : Int32) (M : Mm), VR X G sh 4 rvI M 4 [(0, .ref (G.2.2.2.2 0)), (1, .int x1), (2, .int x2), (3, .int x3)] [] (n4 x1 x2 x3 M)) : ∀ (x1 : Int32) (x3 : Int32) (s0 : Int32) (s1 : Int32) (M : Mm), VR X G sh 4 rvI M 28 [(0, .ref (G.2.2.2.2 0)), (1, .int x1), (3, .int x3)] [.int s0, .int s1] (m_X5_likeSet_J28  n4 x1 x3 s0 s1 M) := by
  intro x1 x3 s0 s1 M
  unfold m_X5_likeSet_J28
  refine v_iload_n 2 29 hF dX5_likeSet_28 rfl rfl rfl ?_
  refine v_ishl 30 hF dX5_likeSet_29 rfl ?_
  refine v_ior 31 hF dX5_likeSet_30 rfl ?_
  refine v_istore_n (lo' := fun y1 => [(2, .int y1), (0, .ref (G.2.2.2.2 0)), (1, .int x1), (3, .int x3)]) 32 hF dX5_likeSet_31 rfl rfl (by decide) (fun _ => rfl) (fun y1 => ?_)
  refine v_iinc (v := (x3 + 1)) (lo' := fun y2 => [(3, .int y2), (2, .int y1), (0, .ref (G.2.2.2.2 0)), (1, .int x1)]) 3 35 hF dX5_likeSet_32 rfl rfl rfl (by decide) (fun _ => rfl) (fun y2 => ?_)
  refine v_goto 4 hF dX5_likeSet_35 (by decide) ?_
  refine VR.pick [2, 3, 1, 0] rfl ?_
  exact h4 x1 y1 y2 M
set_option maxRecDepth 100000 in
set_option maxHeartbeats 4000000 in
theorem v_X5_likeSet_B4 {X : Cx} {G : Gx} {sh : List Sh} (hF : FX X G sh 4 cX5_likeSet (yX5_likeSet).cls (some .int) rmX5_likeSet) (hs : ModAt sh) (n4 : Int32 → Int32 → Int32 → Mm → Option (Int32 × Mm)) (h4 : ∀ (x1 : Int32) (x2 : Int32) (x3 : Int32) (M : Mm), VR X G sh 4 rvI M 4 [(0, .ref (G.2.2.2.2 0)), (1, .int x1), (2, .int x2), (3, .int x3)] [] (n4 x1 x2 x3 M)) : ∀ (x1 : Int32) (x2 : Int32) (x3 : Int32) (M : Mm), VR X G sh 4 rvI M 4 [(0, .ref (G.2.2.2.2 0)), (1, .int x1), (2, .int x2), (3, .int x3)] [] (m_X5_likeSet_B4  n4 x1 x2 x3 M) := by
  intro x1 x2 x3 M
  unfold m_X5_likeSet_B4
  refine v_iload_n 3 5 hF dX5_likeSet_4 rfl rfl rfl ?_
  refine v_aload_n 0 6 hF dX5_likeSet_5 rfl rfl rfl ?_
  refine v_getI 9 hF dX5_likeSet_6 rfl fl_X5_80 hs.1 rfl ?_
  refine v_icmp_ge 12 38 hF dX5_likeSet_9 rfl (by decide) (fun _ => ?_) (fun _ => ?_)
  · refine v_iload_n 2 39 hF dX5_likeSet_38 rfl rfl rfl ?_
    exact v_iret hF dX5_likeSet_39
  · refine v_iload_n 2 13 hF dX5_likeSet_12 rfl rfl rfl ?_
    refine v_aload_n 0 14 hF dX5_likeSet_13 rfl rfl rfl ?_
    refine v_iload_n 1 15 hF dX5_likeSet_14 rfl rfl rfl ?_
    refine v_iload_n 3 16 hF dX5_likeSet_15 rfl rfl rfl ?_
    refine v_callI ([.int x1, .int x3]) ([.int x2]) 19 hF dX5_likeSet_16 rfl cw_X5_316 rfl (hs.1) (c_X5_firstOther (G := G) hs M x1 x3) ⟨rfl, rfl, Nat.le_of_ble_eq_true rfl, Nat.le_of_ble_eq_true rfl⟩ rfl rfl (Nat.le_of_ble_eq_true rfl) (fun r4 M3 => ?_)
    refine v_iconst (-1) 20 hF dX5_likeSet_19 rfl (by decide) ?_
    refine v_icmp_ne 23 27 hF dX5_likeSet_20 rfl (by decide) (fun _ => ?_) (fun _ => ?_)
    · refine v_iconst (0) 28 hF dX5_likeSet_27 rfl (by decide) ?_
      refine VR.pick [0, 1, 3] rfl ?_
      exact v_X5_likeSet_J28 hF hs _ h4 x1 x3 ((0 : Int32)) x2 M3
    · refine v_iconst (1) 24 hF dX5_likeSet_23 rfl (by decide) ?_
      refine v_goto 28 hF dX5_likeSet_24 (by decide) ?_
      refine VR.pick [0, 1, 3] rfl ?_
      exact v_X5_likeSet_J28 hF hs _ h4 x1 x3 ((1 : Int32)) x2 M3
theorem v_X5_likeSet_L4 {X : Cx} {G : Gx} {sh : List Sh} (hF : FX X G sh 4 cX5_likeSet (yX5_likeSet).cls (some .int) rmX5_likeSet) (hs : ModAt sh) : ∀ (n : Nat), ∀ (x1 : Int32) (x2 : Int32) (x3 : Int32) (M : Mm), VR X G sh 4 rvI M 4 [(0, .ref (G.2.2.2.2 0)), (1, .int x1), (2, .int x2), (3, .int x3)] [] (m_X5_likeSet_L4  n x1 x2 x3 M) := by
  intro n
  induction n with
  | zero => intro x1 x2 x3 M; exact VR.none
  | succ n ih => exact v_X5_likeSet_B4 hF hs _ ih
set_option maxRecDepth 100000 in
set_option maxHeartbeats 4000000 in
theorem c_X5_likeSet {G : Gx} {sh : List Sh} (hs : ModAt sh) (M : Mm) (x1 : Int32) : CT yX5_likeSet cX5_likeSet 4 (some .int) rmX5_likeSet G sh [.ref (G.2.2.2.2 0), .int x1] rvI M (m_X5_likeSet  x1 M) := by
  refine CT.of (by decide +kernel) (Nat.le_of_ble_eq_true rfl) (fun X hF => ?_)
  show VR X G sh 4 rvI M 0 [(0, .ref (G.2.2.2.2 0)), (1, .int x1)] [] _
  unfold m_X5_likeSet
  refine v_iconst (0) 1 hF dX5_likeSet_0 rfl (by decide) ?_
  refine v_istore_n (lo' := fun y5 => [(2, .int y5), (0, .ref (G.2.2.2.2 0)), (1, .int x1)]) 2 hF dX5_likeSet_1 rfl rfl (by decide) (fun _ => rfl) (fun y5 => ?_)
  refine v_iconst (0) 3 hF dX5_likeSet_2 rfl (by decide) ?_
  refine v_istore_n (lo' := fun y6 => [(3, .int y6), (2, .int y5), (0, .ref (G.2.2.2.2 0)), (1, .int x1)]) 4 hF dX5_likeSet_3 rfl rfl (by decide) (fun _ => rfl) (fun y6 => ?_)
  refine VR.pick [2, 3, 1, 0] rfl ?_
  exact v_X5_likeSet_L4 hF hs FU x1 y5 y6 M
abbrev rmX5_isSheet : Room := { frames := 1, cells := 0, slots := 0, locals := 25 }
def m_X5_isSheet (x0 : Int32) (M : Mm) : Option (Int32 × Mm) := bd (m_X5_in (((x0).toInt64)) ((0 : Int64)) ((3 : Int64)) M) fun r2 M1 => gd (z01 r2) (some (r2, M1))
set_option maxRecDepth 100000 in
set_option maxHeartbeats 4000000 in
theorem c_X5_isSheet {G : Gx} {sh : List Sh} (M : Mm) (x0 : Int32) : CT yX5_isSheet cX5_isSheet 1 (some .boolean) rmX5_isSheet G sh [.int x0] rvI M (m_X5_isSheet  x0 M) := by
  refine CT.of (by decide +kernel) (Nat.le_of_ble_eq_true rfl) (fun X hF => ?_)
  show VR X G sh 1 rvI M 0 [(0, .int x0)] [] _
  unfold m_X5_isSheet
  refine v_iload_n 0 1 hF dX5_isSheet_0 rfl rfl rfl ?_
  refine v_i2l 2 hF dX5_isSheet_1 rfl ?_
  refine v_lconst 0 3 hF dX5_isSheet_2 rfl (by decide) ?_
  refine v_ldc2 (3) 6 hF dX5_isSheet_3 rfl cc_X5_90 ?_
  refine v_staI ([.long (((x0).toInt64)), .long ((0 : Int64)), .long ((3 : Int64))]) ([]) 9 hF dX5_isSheet_6 rfl cw_X5_76 (c_X5_in (G := G) (sh := sh) M (((x0).toInt64)) ((0 : Int64)) ((3 : Int64))) ⟨rfl, rfl, Nat.le_of_ble_eq_true rfl, Nat.le_of_ble_eq_true rfl⟩ rfl rfl (Nat.le_of_ble_eq_true rfl) (fun r2 M1 => ?_)
  exact v_zret hF dX5_isSheet_9
abbrev rmX5_tells : Room := { frames := 72, cells := 0, slots := 0, locals := 3161 }
def m_X5_tells_J256 (n205 : Int32 → Int32 → Int32 → Int32 → Int32 → Int32 → Int32 → Int32 → Int32 → Int32 → Mm → Option (Int32 × Mm)) (x1 : Int32) (x2 : Int32) (x3 : Int32) (x4 : Int32) (x5 : Int32) (x6 : Int32) (x8 : Int32) (x9 : Int32) (x10 : Int32) (x11 : Int32) (M : Mm) : Option (Int32 × Mm) := lt1 (x11 + (-1)) fun y1 => n205 x1 x2 x3 x4 x5 x6 x8 x9 x10 y1 M
def m_X5_tells_J246 (n205 : Int32 → Int32 → Int32 → Int32 → Int32 → Int32 → Int32 → Int32 → Int32 → Int32 → Mm → Option (Int32 × Mm)) (x1 : Int32) (x2 : Int32) (x3 : Int32) (x4 : Int32) (x5 : Int32) (x6 : Int32) (x9 : Int32) (x11 : Int32) (s0 : Int32) (s1 : Int32) (M : Mm) : Option (Int32 × Mm) := lt1 ((s1 ||| s0)) fun y2 => lt1 (x9 + 1) fun y3 => lt1 x11 fun y4 => m_X5_tells_J256 n205 x1 x2 x3 x4 x5 x6 y2 y3 y4 x11 M
def m_X5_tells_B205 (n205 : Int32 → Int32 → Int32 → Int32 → Int32 → Int32 → Int32 → Int32 → Int32 → Int32 → Mm → Option (Int32 × Mm)) (x1 : Int32) (x2 : Int32) (x3 : Int32) (x4 : Int32) (x5 : Int32) (x6 : Int32) (x8 : Int32) (x9 : Int32) (x10 : Int32) (x11 : Int32) (M : Mm) : Option (Int32 × Mm) := if x11 < 0 then (bd (m_X5_lays x5 x3 x6 M) fun _ M5 => if x4 = (3 : Int32) then (some (x9, M5)) else (if x4 = (4 : Int32) then (some (x10, M5)) else (some (x8, M5)))) else (bd (m_X5_lays x5 x3 x11 M) fun _ M6 => bd (m_X5_firstOther x1 x2 M6) fun r8 M7 => if r8 = (-1 : Int32) then (if (10 : Int32) ≤ x11 then (m_X5_tells_J246 n205 x1 x2 x3 x4 x5 x6 x9 x11 ((0 : Int32)) x8 M7) else (m_X5_tells_J246 n205 x1 x2 x3 x4 x5 x6 x9 x11 ((shl ((1 : Int32)) x11)) x8 M7)) else (m_X5_tells_J256 n205 x1 x2 x3 x4 x5 x6 x8 x9 x10 x11 M7))
def m_X5_tells_L205 : Nat → Int32 → Int32 → Int32 → Int32 → Int32 → Int32 → Int32 → Int32 → Int32 → Int32 → Mm → Option (Int32 × Mm)
  | 0 => fun _ _ _ _ _ _ _ _ _ _ _ => none
  | n + 1 => m_X5_tells_B205  (m_X5_tells_L205  n)
def m_X5_tells_J190 (x1 : Int32) (x2 : Int32) (x3 : Int32) (x4 : Int32) (x5 : Int32) (x6 : Int32) (s0 : Int32) (M : Mm) : Option (Int32 × Mm) := lt1 s0 fun y9 => lt1 ((0 : Int32)) fun y10 => lt1 ((0 : Int32)) fun y11 => lt1 ((-1 : Int32)) fun y12 => lt1 y9 fun y13 => m_X5_tells_L205 FU x1 x2 x3 x4 x5 x6 y10 y11 y12 y13 M
def m_X5_tells_J150 (x1 : Int32) (x2 : Int32) (x3 : Int32) (x4 : Int32) (x5 : Int32) (s0 : Int32) (M : Mm) : Option (Int32 × Mm) := lt1 s0 fun y14 => if x5 = (5 : Int32) then (m_X5_tells_J190 x1 x2 x3 x4 x5 y14 (((M 0 3) - (1 : Int32))) M) else (if x5 = (4 : Int32) then (m_X5_tells_J190 x1 x2 x3 x4 x5 y14 ((5 : Int32)) M) else (if x5 = (2 : Int32) then (m_X5_tells_J190 x1 x2 x3 x4 x5 y14 ((9 : Int32)) M) else (m_X5_tells_J190 x1 x2 x3 x4 x5 y14 ((99 : Int32)) M)))
def m_X5_tells_J128 (x1 : Int32) (x2 : Int32) (x3 : Int32) (x4 : Int32) (s0 : Int32) (M : Mm) : Option (Int32 × Mm) := lt1 s0 fun y15 => if y15 = (5 : Int32) then (m_X5_tells_J150 x1 x2 x3 x4 y15 ((M 0 4)) M) else (bd (m_X5_told x3 y15 M) fun r17 M16 => m_X5_tells_J150 x1 x2 x3 x4 y15 r17 M16)
def m_X5_tells_J77 (x1 : Int32) (x2 : Int32) (x4 : Int32) (M : Mm) : Option (Int32 × Mm) := if x4 = 0 then (bd (m_X5_firstOther x1 x2 M) fun r21 M20 => some (r21, M20)) else (bd (m_X5_likeSet x1 M) fun r19 M18 => some (r19, M18))
def m_X5_tells (x1 : Int32) (x2 : Int32) (x3 : Int32) (x4 : Int32) (M : Mm) : Option (Int32 × Mm) := bd (m_X5_isSheet x1 M) fun r23 M22 => if r23 = 0 then (some ((-2 : Int32), M22)) else (bd (m_X5_isLetter x2 M22) fun r25 M24 => if r25 = 0 then (some ((-2 : Int32), M24)) else (bd (m_X5_isOne x3 M24) fun r27 M26 => if r27 = 0 then (some ((-2 : Int32), M26)) else (bd (m_X5_in (((x4).toInt64)) ((0 : Int64)) ((6 : Int64)) M26) fun r29 M28 => if r29 = 0 then (some ((-2 : Int32), M28)) else (gd (inr x1 4) (if (M28 12 x1.toNatClampNeg) = 0 then (some ((-11 : Int32), M28)) else (gd (inr x1 4) (if (M28 14 x1.toNatClampNeg) ≤ (20 : Int32) then (if x4 = 0 then (m_X5_tells_J77 x1 x2 x4 M28) else (if x4 = (6 : Int32) then (m_X5_tells_J77 x1 x2 x4 M28) else (if x4 = (1 : Int32) then (m_X5_tells_J128 x1 x2 x3 x4 ((4 : Int32)) M28) else (if x4 = (2 : Int32) then (m_X5_tells_J128 x1 x2 x3 x4 ((2 : Int32)) M28) else (if x4 = (5 : Int32) then (m_X5_tells_J128 x1 x2 x3 x4 ((5 : Int32)) M28) else (m_X5_tells_J128 x1 x2 x3 x4 ((0 : Int32)) M28)))))) else (some ((-2 : Int32), M28)))))))))
set_option maxRecDepth 100000 in
set_option maxHeartbeats 4000000 in
theorem v_X5_tells_J256 {X : Cx} {G : Gx} {sh : List Sh} (hF : FX X G sh 12 cX5_tells (yX5_tells).cls (some .int) rmX5_tells) (hs : ModAt sh) (n205 : Int32 → Int32 → Int32 → Int32 → Int32 → Int32 → Int32 → Int32 → Int32 → Int32 → Mm → Option (Int32 × Mm)) (h205 : ∀ (x1 : Int32) (x2 : Int32) (x3 : Int32) (x4 : Int32) (x5 : Int32) (x6 : Int32) (x8 : Int32) (x9 : Int32) (x10 : Int32) (x11 : Int32) (M : Mm), VR X G sh 12 rvI M 205 [(0, .ref (G.2.2.2.2 0)), (1, .int x1), (2, .int x2), (3, .int x3), (4, .int x4), (5, .int x5), (6, .int x6), (8, .int x8), (9, .int x9), (10, .int x10), (11, .int x11)] [] (n205 x1 x2 x3 x4 x5 x6 x8 x9 x10 x11 M)) : ∀ (x1 : Int32) (x2 : Int32) (x3 : Int32) (x4 : Int32) (x5 : Int32) (x6 : Int32) (x8 : Int32) (x9 : Int32) (x10 : Int32) (x11 : Int32) (M : Mm), VR X G sh 12 rvI M 256 [(0, .ref (G.2.2.2.2 0)), (1, .int x1), (2, .int x2), (3, .int x3), (4, .int x4), (5, .int x5), (6, .int x6), (8, .int x8), (9, .int x9), (10, .int x10), (11, .int x11)] [] (m_X5_tells_J256  n205 x1 x2 x3 x4 x5 x6 x8 x9 x10 x11 M) := by
  intro x1 x2 x3 x4 x5 x6 x8 x9 x10 x11 M
  unfold m_X5_tells_J256
  refine v_iinc (v := (x11 + (-1))) (lo' := fun y1 => [(11, .int y1), (0, .ref (G.2.2.2.2 0)), (1, .int x1), (2, .int x2), (3, .int x3), (4, .int x4), (5, .int x5), (6, .int x6), (8, .int x8), (9, .int x9), (10, .int x10)]) 10 259 hF dX5_tells_256 rfl rfl rfl (by decide) (fun _ => rfl) (fun y1 => ?_)
  refine v_goto 205 hF dX5_tells_259 (by decide) ?_
  refine VR.pick [1, 2, 3, 4, 5, 6, 7, 8, 9, 10, 0] rfl ?_
  exact h205 x1 x2 x3 x4 x5 x6 x8 x9 x10 y1 M
set_option maxRecDepth 100000 in
set_option maxHeartbeats 4000000 in
theorem v_X5_tells_J246 {X : Cx} {G : Gx} {sh : List Sh} (hF : FX X G sh 12 cX5_tells (yX5_tells).cls (some .int) rmX5_tells) (hs : ModAt sh) (n205 : Int32 → Int32 → Int32 → Int32 → Int32 → Int32 → Int32 → Int32 → Int32 → Int32 → Mm → Option (Int32 × Mm)) (h205 : ∀ (x1 : Int32) (x2 : Int32) (x3 : Int32) (x4 : Int32) (x5 : Int32) (x6 : Int32) (x8 : Int32) (x9 : Int32) (x10 : Int32) (x11 : Int32) (M : Mm), VR X G sh 12 rvI M 205 [(0, .ref (G.2.2.2.2 0)), (1, .int x1), (2, .int x2), (3, .int x3), (4, .int x4), (5, .int x5), (6, .int x6), (8, .int x8), (9, .int x9), (10, .int x10), (11, .int x11)] [] (n205 x1 x2 x3 x4 x5 x6 x8 x9 x10 x11 M)) : ∀ (x1 : Int32) (x2 : Int32) (x3 : Int32) (x4 : Int32) (x5 : Int32) (x6 : Int32) (x9 : Int32) (x11 : Int32) (s0 : Int32) (s1 : Int32) (M : Mm), VR X G sh 12 rvI M 246 [(0, .ref (G.2.2.2.2 0)), (1, .int x1), (2, .int x2), (3, .int x3), (4, .int x4), (5, .int x5), (6, .int x6), (9, .int x9), (11, .int x11)] [.int s0, .int s1] (m_X5_tells_J246  n205 x1 x2 x3 x4 x5 x6 x9 x11 s0 s1 M) := by
  intro x1 x2 x3 x4 x5 x6 x9 x11 s0 s1 M
  unfold m_X5_tells_J246
  refine v_ior 247 hF dX5_tells_246 rfl ?_
  refine v_istore (lo' := fun y2 => [(8, .int y2), (0, .ref (G.2.2.2.2 0)), (1, .int x1), (2, .int x2), (3, .int x3), (4, .int x4), (5, .int x5), (6, .int x6), (9, .int x9), (11, .int x11)]) 249 hF dX5_tells_247 rfl (by decide) (fun _ => rfl) (fun y2 => ?_)
  refine v_iinc (v := (x9 + 1)) (lo' := fun y3 => [(9, .int y3), (8, .int y2), (0, .ref (G.2.2.2.2 0)), (1, .int x1), (2, .int x2), (3, .int x3), (4, .int x4), (5, .int x5), (6, .int x6), (11, .int x11)]) 8 252 hF dX5_tells_249 rfl rfl rfl (by decide) (fun _ => rfl) (fun y3 => ?_)
  refine v_iload 9 254 hF dX5_tells_252 rfl rfl ?_
  refine v_istore (lo' := fun y4 => [(10, .int y4), (9, .int y3), (8, .int y2), (0, .ref (G.2.2.2.2 0)), (1, .int x1), (2, .int x2), (3, .int x3), (4, .int x4), (5, .int x5), (6, .int x6), (11, .int x11)]) 256 hF dX5_tells_254 rfl (by decide) (fun _ => rfl) (fun y4 => ?_)
  refine VR.pick [3, 4, 5, 6, 7, 8, 9, 2, 1, 0, 10] rfl ?_
  exact v_X5_tells_J256 hF hs _ h205 x1 x2 x3 x4 x5 x6 y2 y3 y4 x11 M
set_option maxRecDepth 100000 in
set_option maxHeartbeats 4000000 in
theorem v_X5_tells_B205 {X : Cx} {G : Gx} {sh : List Sh} (hF : FX X G sh 12 cX5_tells (yX5_tells).cls (some .int) rmX5_tells) (hs : ModAt sh) (n205 : Int32 → Int32 → Int32 → Int32 → Int32 → Int32 → Int32 → Int32 → Int32 → Int32 → Mm → Option (Int32 × Mm)) (h205 : ∀ (x1 : Int32) (x2 : Int32) (x3 : Int32) (x4 : Int32) (x5 : Int32) (x6 : Int32) (x8 : Int32) (x9 : Int32) (x10 : Int32) (x11 : Int32) (M : Mm), VR X G sh 12 rvI M 205 [(0, .ref (G.2.2.2.2 0)), (1, .int x1), (2, .int x2), (3, .int x3), (4, .int x4), (5, .int x5), (6, .int x6), (8, .int x8), (9, .int x9), (10, .int x10), (11, .int x11)] [] (n205 x1 x2 x3 x4 x5 x6 x8 x9 x10 x11 M)) : ∀ (x1 : Int32) (x2 : Int32) (x3 : Int32) (x4 : Int32) (x5 : Int32) (x6 : Int32) (x8 : Int32) (x9 : Int32) (x10 : Int32) (x11 : Int32) (M : Mm), VR X G sh 12 rvI M 205 [(0, .ref (G.2.2.2.2 0)), (1, .int x1), (2, .int x2), (3, .int x3), (4, .int x4), (5, .int x5), (6, .int x6), (8, .int x8), (9, .int x9), (10, .int x10), (11, .int x11)] [] (m_X5_tells_B205  n205 x1 x2 x3 x4 x5 x6 x8 x9 x10 x11 M) := by
  intro x1 x2 x3 x4 x5 x6 x8 x9 x10 x11 M
  unfold m_X5_tells_B205
  refine v_iload 10 207 hF dX5_tells_205 rfl rfl ?_
  refine v_if_lt 210 262 hF dX5_tells_207 rfl (by decide) (fun _ => ?_) (fun _ => ?_)
  · refine v_aload_n 0 263 hF dX5_tells_262 rfl rfl rfl ?_
    refine v_iload 5 265 hF dX5_tells_263 rfl rfl ?_
    refine v_iload_n 3 266 hF dX5_tells_265 rfl rfl rfl ?_
    refine v_iload 6 268 hF dX5_tells_266 rfl rfl ?_
    refine v_callV ([.int x5, .int x3, .int x6]) ([]) 271 hF dX5_tells_268 rfl cw_X5_104 rfl (hs.1) (c_X5_lays (G := G) hs M x5 x3 x6) ⟨rfl, rfl, Nat.le_of_ble_eq_true rfl, Nat.le_of_ble_eq_true rfl⟩ rfl rfl (Nat.le_of_ble_eq_true rfl) (fun _ M5 => ?_)
    refine v_iload 4 273 hF dX5_tells_271 rfl rfl ?_
    refine v_iconst (3) 274 hF dX5_tells_273 rfl (by decide) ?_
    refine v_icmp_ne 277 282 hF dX5_tells_274 rfl (by decide) (fun _ => ?_) (fun _ => ?_)
    · refine v_iload 4 284 hF dX5_tells_282 rfl rfl ?_
      refine v_iconst (4) 285 hF dX5_tells_284 rfl (by decide) ?_
      refine v_icmp_ne 288 293 hF dX5_tells_285 rfl (by decide) (fun _ => ?_) (fun _ => ?_)
      · refine v_iload 7 295 hF dX5_tells_293 rfl rfl ?_
        exact v_iret hF dX5_tells_295
      · refine v_iload 9 290 hF dX5_tells_288 rfl rfl ?_
        refine v_goto 295 hF dX5_tells_290 (by decide) ?_
        exact v_iret hF dX5_tells_295
    · refine v_iload 8 279 hF dX5_tells_277 rfl rfl ?_
      refine v_goto 295 hF dX5_tells_279 (by decide) ?_
      exact v_iret hF dX5_tells_295
  · refine v_aload_n 0 211 hF dX5_tells_210 rfl rfl rfl ?_
    refine v_iload 5 213 hF dX5_tells_211 rfl rfl ?_
    refine v_iload_n 3 214 hF dX5_tells_213 rfl rfl rfl ?_
    refine v_iload 10 216 hF dX5_tells_214 rfl rfl ?_
    refine v_callV ([.int x5, .int x3, .int x11]) ([]) 219 hF dX5_tells_216 rfl cw_X5_104 rfl (hs.1) (c_X5_lays (G := G) hs M x5 x3 x11) ⟨rfl, rfl, Nat.le_of_ble_eq_true rfl, Nat.le_of_ble_eq_true rfl⟩ rfl rfl (Nat.le_of_ble_eq_true rfl) (fun _ M6 => ?_)
    refine v_aload_n 0 220 hF dX5_tells_219 rfl rfl rfl ?_
    refine v_iload_n 1 221 hF dX5_tells_220 rfl rfl rfl ?_
    refine v_iload_n 2 222 hF dX5_tells_221 rfl rfl rfl ?_
    refine v_callI ([.int x1, .int x2]) ([]) 225 hF dX5_tells_222 rfl cw_X5_316 rfl (hs.1) (c_X5_firstOther (G := G) hs M6 x1 x2) ⟨rfl, rfl, Nat.le_of_ble_eq_true rfl, Nat.le_of_ble_eq_true rfl⟩ rfl rfl (Nat.le_of_ble_eq_true rfl) (fun r8 M7 => ?_)
    refine v_iconst (-1) 226 hF dX5_tells_225 rfl (by decide) ?_
    refine v_icmp_ne 229 256 hF dX5_tells_226 rfl (by decide) (fun _ => ?_) (fun _ => ?_)
    · refine VR.pick [0, 1, 2, 3, 4, 5, 6, 7, 8, 9, 10] rfl ?_
      exact v_X5_tells_J256 hF hs _ h205 x1 x2 x3 x4 x5 x6 x8 x9 x10 x11 M7
    · refine v_iload 7 231 hF dX5_tells_229 rfl rfl ?_
      refine v_iload 10 233 hF dX5_tells_231 rfl rfl ?_
      refine v_bipush (10) 235 hF dX5_tells_233 rfl (by decide) ?_
      refine v_icmp_ge 238 245 hF dX5_tells_235 rfl (by decide) (fun _ => ?_) (fun _ => ?_)
      · refine v_iconst (0) 246 hF dX5_tells_245 rfl (by decide) ?_
        refine VR.pick [0, 1, 2, 3, 4, 5, 6, 8, 10] rfl ?_
        exact v_X5_tells_J246 hF hs _ h205 x1 x2 x3 x4 x5 x6 x9 x11 ((0 : Int32)) x8 M7
      · refine v_iconst (1) 239 hF dX5_tells_238 rfl (by decide) ?_
        refine v_iload 10 241 hF dX5_tells_239 rfl rfl ?_
        refine v_ishl 242 hF dX5_tells_241 rfl ?_
        refine v_goto 246 hF dX5_tells_242 (by decide) ?_
        refine VR.pick [0, 1, 2, 3, 4, 5, 6, 8, 10] rfl ?_
        exact v_X5_tells_J246 hF hs _ h205 x1 x2 x3 x4 x5 x6 x9 x11 ((shl ((1 : Int32)) x11)) x8 M7
theorem v_X5_tells_L205 {X : Cx} {G : Gx} {sh : List Sh} (hF : FX X G sh 12 cX5_tells (yX5_tells).cls (some .int) rmX5_tells) (hs : ModAt sh) : ∀ (n : Nat), ∀ (x1 : Int32) (x2 : Int32) (x3 : Int32) (x4 : Int32) (x5 : Int32) (x6 : Int32) (x8 : Int32) (x9 : Int32) (x10 : Int32) (x11 : Int32) (M : Mm), VR X G sh 12 rvI M 205 [(0, .ref (G.2.2.2.2 0)), (1, .int x1), (2, .int x2), (3, .int x3), (4, .int x4), (5, .int x5), (6, .int x6), (8, .int x8), (9, .int x9), (10, .int x10), (11, .int x11)] [] (m_X5_tells_L205  n x1 x2 x3 x4 x5 x6 x8 x9 x10 x11 M) := by
  intro n
  induction n with
  | zero => intro x1 x2 x3 x4 x5 x6 x8 x9 x10 x11 M; exact VR.none
  | succ n ih => exact v_X5_tells_B205 hF hs _ ih
set_option maxRecDepth 100000 in
set_option maxHeartbeats 4000000 in
theorem v_X5_tells_J190 {X : Cx} {G : Gx} {sh : List Sh} (hF : FX X G sh 12 cX5_tells (yX5_tells).cls (some .int) rmX5_tells) (hs : ModAt sh) : ∀ (x1 : Int32) (x2 : Int32) (x3 : Int32) (x4 : Int32) (x5 : Int32) (x6 : Int32) (s0 : Int32) (M : Mm), VR X G sh 12 rvI M 190 [(0, .ref (G.2.2.2.2 0)), (1, .int x1), (2, .int x2), (3, .int x3), (4, .int x4), (5, .int x5), (6, .int x6)] [.int s0] (m_X5_tells_J190  x1 x2 x3 x4 x5 x6 s0 M) := by
  intro x1 x2 x3 x4 x5 x6 s0 M
  unfold m_X5_tells_J190
  refine v_istore (lo' := fun y9 => [(7, .int y9), (0, .ref (G.2.2.2.2 0)), (1, .int x1), (2, .int x2), (3, .int x3), (4, .int x4), (5, .int x5), (6, .int x6)]) 192 hF dX5_tells_190 rfl (by decide) (fun _ => rfl) (fun y9 => ?_)
  refine v_iconst (0) 193 hF dX5_tells_192 rfl (by decide) ?_
  refine v_istore (lo' := fun y10 => [(8, .int y10), (7, .int y9), (0, .ref (G.2.2.2.2 0)), (1, .int x1), (2, .int x2), (3, .int x3), (4, .int x4), (5, .int x5), (6, .int x6)]) 195 hF dX5_tells_193 rfl (by decide) (fun _ => rfl) (fun y10 => ?_)
  refine v_iconst (0) 196 hF dX5_tells_195 rfl (by decide) ?_
  refine v_istore (lo' := fun y11 => [(9, .int y11), (8, .int y10), (7, .int y9), (0, .ref (G.2.2.2.2 0)), (1, .int x1), (2, .int x2), (3, .int x3), (4, .int x4), (5, .int x5), (6, .int x6)]) 198 hF dX5_tells_196 rfl (by decide) (fun _ => rfl) (fun y11 => ?_)
  refine v_iconst (-1) 199 hF dX5_tells_198 rfl (by decide) ?_
  refine v_istore (lo' := fun y12 => [(10, .int y12), (9, .int y11), (8, .int y10), (7, .int y9), (0, .ref (G.2.2.2.2 0)), (1, .int x1), (2, .int x2), (3, .int x3), (4, .int x4), (5, .int x5), (6, .int x6)]) 201 hF dX5_tells_199 rfl (by decide) (fun _ => rfl) (fun y12 => ?_)
  refine v_iload 3 203 hF dX5_tells_201 rfl rfl ?_
  refine v_istore (lo' := fun y13 => [(11, .int y13), (10, .int y12), (9, .int y11), (8, .int y10), (7, .int y9), (0, .ref (G.2.2.2.2 0)), (1, .int x1), (2, .int x2), (3, .int x3), (4, .int x4), (5, .int x5), (6, .int x6)]) 205 hF dX5_tells_203 rfl (by decide) (fun _ => rfl) (fun y13 => ?_)
  refine VR.pick [5, 6, 7, 8, 9, 10, 11, 3, 2, 1, 0] rfl ?_
  exact v_X5_tells_L205 hF hs FU x1 x2 x3 x4 x5 x6 y10 y11 y12 y13 M
set_option maxRecDepth 100000 in
set_option maxHeartbeats 4000000 in
theorem v_X5_tells_J150 {X : Cx} {G : Gx} {sh : List Sh} (hF : FX X G sh 12 cX5_tells (yX5_tells).cls (some .int) rmX5_tells) (hs : ModAt sh) : ∀ (x1 : Int32) (x2 : Int32) (x3 : Int32) (x4 : Int32) (x5 : Int32) (s0 : Int32) (M : Mm), VR X G sh 12 rvI M 150 [(0, .ref (G.2.2.2.2 0)), (1, .int x1), (2, .int x2), (3, .int x3), (4, .int x4), (5, .int x5)] [.int s0] (m_X5_tells_J150  x1 x2 x3 x4 x5 s0 M) := by
  intro x1 x2 x3 x4 x5 s0 M
  unfold m_X5_tells_J150
  refine v_istore (lo' := fun y14 => [(6, .int y14), (0, .ref (G.2.2.2.2 0)), (1, .int x1), (2, .int x2), (3, .int x3), (4, .int x4), (5, .int x5)]) 152 hF dX5_tells_150 rfl (by decide) (fun _ => rfl) (fun y14 => ?_)
  refine v_iload 6 154 hF dX5_tells_152 rfl rfl ?_
  refine v_iconst (5) 155 hF dX5_tells_154 rfl (by decide) ?_
  refine v_icmp_ne 158 167 hF dX5_tells_155 rfl (by decide) (fun _ => ?_) (fun _ => ?_)
  · refine v_iload 6 169 hF dX5_tells_167 rfl rfl ?_
    refine v_iconst (4) 170 hF dX5_tells_169 rfl (by decide) ?_
    refine v_icmp_ne 173 177 hF dX5_tells_170 rfl (by decide) (fun _ => ?_) (fun _ => ?_)
    · refine v_iload 6 179 hF dX5_tells_177 rfl rfl ?_
      refine v_iconst (2) 180 hF dX5_tells_179 rfl (by decide) ?_
      refine v_icmp_ne 183 188 hF dX5_tells_180 rfl (by decide) (fun _ => ?_) (fun _ => ?_)
      · refine v_bipush (99) 190 hF dX5_tells_188 rfl (by decide) ?_
        refine VR.pick [1, 2, 3, 4, 5, 6, 0] rfl ?_
        exact v_X5_tells_J190 hF hs x1 x2 x3 x4 x5 y14 ((99 : Int32)) M
      · refine v_bipush (9) 185 hF dX5_tells_183 rfl (by decide) ?_
        refine v_goto 190 hF dX5_tells_185 (by decide) ?_
        refine VR.pick [1, 2, 3, 4, 5, 6, 0] rfl ?_
        exact v_X5_tells_J190 hF hs x1 x2 x3 x4 x5 y14 ((9 : Int32)) M
    · refine v_iconst (5) 174 hF dX5_tells_173 rfl (by decide) ?_
      refine v_goto 190 hF dX5_tells_174 (by decide) ?_
      refine VR.pick [1, 2, 3, 4, 5, 6, 0] rfl ?_
      exact v_X5_tells_J190 hF hs x1 x2 x3 x4 x5 y14 ((5 : Int32)) M
  · refine v_aload_n 1 159 hF dX5_tells_158 rfl rfl rfl ?_
    refine v_getI 162 hF dX5_tells_159 rfl fl_X5_70 hs.1 rfl ?_
    refine v_iconst (1) 163 hF dX5_tells_162 rfl (by decide) ?_
    refine v_isub 164 hF dX5_tells_163 rfl ?_
    refine v_goto 190 hF dX5_tells_164 (by decide) ?_
    refine VR.pick [1, 2, 3, 4, 5, 6, 0] rfl ?_
    exact v_X5_tells_J190 hF hs x1 x2 x3 x4 x5 y14 (((M 0 3) - (1 : Int32))) M
set_option maxRecDepth 100000 in
set_option maxHeartbeats 4000000 in
theorem v_X5_tells_J128 {X : Cx} {G : Gx} {sh : List Sh} (hF : FX X G sh 12 cX5_tells (yX5_tells).cls (some .int) rmX5_tells) (hs : ModAt sh) : ∀ (x1 : Int32) (x2 : Int32) (x3 : Int32) (x4 : Int32) (s0 : Int32) (M : Mm), VR X G sh 12 rvI M 128 [(0, .ref (G.2.2.2.2 0)), (1, .int x1), (2, .int x2), (3, .int x3), (4, .int x4)] [.int s0] (m_X5_tells_J128  x1 x2 x3 x4 s0 M) := by
  intro x1 x2 x3 x4 s0 M
  unfold m_X5_tells_J128
  refine v_istore (lo' := fun y15 => [(5, .int y15), (0, .ref (G.2.2.2.2 0)), (1, .int x1), (2, .int x2), (3, .int x3), (4, .int x4)]) 130 hF dX5_tells_128 rfl (by decide) (fun _ => rfl) (fun y15 => ?_)
  refine v_iload 0 132 hF dX5_tells_130 rfl rfl ?_
  refine v_iconst (5) 133 hF dX5_tells_132 rfl (by decide) ?_
  refine v_icmp_ne 136 143 hF dX5_tells_133 rfl (by decide) (fun _ => ?_) (fun _ => ?_)
  · refine v_aload_n 1 144 hF dX5_tells_143 rfl rfl rfl ?_
    refine v_iload_n 4 145 hF dX5_tells_144 rfl rfl rfl ?_
    refine v_iload 0 147 hF dX5_tells_145 rfl rfl ?_
    refine v_callI ([.int x3, .int y15]) ([]) 150 hF dX5_tells_147 rfl cw_X5_100 rfl (hs.1) (c_X5_told (G := G) hs M x3 y15) ⟨rfl, rfl, Nat.le_of_ble_eq_true rfl, Nat.le_of_ble_eq_true rfl⟩ rfl rfl (Nat.le_of_ble_eq_true rfl) (fun r17 M16 => ?_)
    refine VR.pick [1, 2, 3, 4, 5, 0] rfl ?_
    exact v_X5_tells_J150 hF hs x1 x2 x3 x4 y15 r17 M16
  · refine v_aload_n 1 137 hF dX5_tells_136 rfl rfl rfl ?_
    refine v_getI 140 hF dX5_tells_137 rfl fl_X5_111 hs.1 rfl ?_
    refine v_goto 150 hF dX5_tells_140 (by decide) ?_
    refine VR.pick [1, 2, 3, 4, 5, 0] rfl ?_
    exact v_X5_tells_J150 hF hs x1 x2 x3 x4 y15 ((M 0 4)) M
set_option maxRecDepth 100000 in
set_option maxHeartbeats 4000000 in
theorem v_X5_tells_J77 {X : Cx} {G : Gx} {sh : List Sh} (hF : FX X G sh 12 cX5_tells (yX5_tells).cls (some .int) rmX5_tells) (hs : ModAt sh) : ∀ (x1 : Int32) (x2 : Int32) (x4 : Int32) (M : Mm), VR X G sh 12 rvI M 77 [(0, .ref (G.2.2.2.2 0)), (1, .int x1), (2, .int x2), (4, .int x4)] [] (m_X5_tells_J77  x1 x2 x4 M) := by
  intro x1 x2 x4 M
  unfold m_X5_tells_J77
  refine v_iload 3 79 hF dX5_tells_77 rfl rfl ?_
  refine v_if_ne 82 91 hF dX5_tells_79 rfl (by decide) (fun _ => ?_) (fun _ => ?_)
  · refine v_aload_n 0 92 hF dX5_tells_91 rfl rfl rfl ?_
    refine v_iload_n 1 93 hF dX5_tells_92 rfl rfl rfl ?_
    refine v_callI ([.int x1]) ([]) 96 hF dX5_tells_93 rfl cw_X5_324 rfl (hs.1) (c_X5_likeSet (G := G) hs M x1) ⟨rfl, rfl, Nat.le_of_ble_eq_true rfl, Nat.le_of_ble_eq_true rfl⟩ rfl rfl (Nat.le_of_ble_eq_true rfl) (fun r19 M18 => ?_)
    exact v_iret hF dX5_tells_96
  · refine v_aload_n 0 83 hF dX5_tells_82 rfl rfl rfl ?_
    refine v_iload_n 1 84 hF dX5_tells_83 rfl rfl rfl ?_
    refine v_iload_n 2 85 hF dX5_tells_84 rfl rfl rfl ?_
    refine v_callI ([.int x1, .int x2]) ([]) 88 hF dX5_tells_85 rfl cw_X5_316 rfl (hs.1) (c_X5_firstOther (G := G) hs M x1 x2) ⟨rfl, rfl, Nat.le_of_ble_eq_true rfl, Nat.le_of_ble_eq_true rfl⟩ rfl rfl (Nat.le_of_ble_eq_true rfl) (fun r21 M20 => ?_)
    refine v_goto 96 hF dX5_tells_88 (by decide) ?_
    exact v_iret hF dX5_tells_96
set_option maxRecDepth 100000 in
set_option maxHeartbeats 4000000 in
theorem c_X5_tells {G : Gx} {sh : List Sh} (hs : ModAt sh) (M : Mm) (x1 : Int32) (x2 : Int32) (x3 : Int32) (x4 : Int32) : CT yX5_tells cX5_tells 12 (some .int) rmX5_tells G sh [.ref (G.2.2.2.2 0), .int x1, .int x2, .int x3, .int x4] rvI M (m_X5_tells  x1 x2 x3 x4 M) := by
  refine CT.of (by decide +kernel) (Nat.le_of_ble_eq_true rfl) (fun X hF => ?_)
  show VR X G sh 12 rvI M 0 [(0, .ref (G.2.2.2.2 0)), (1, .int x1), (2, .int x2), (3, .int x3), (4, .int x4)] [] _
  unfold m_X5_tells
  refine v_iload_n 1 1 hF dX5_tells_0 rfl rfl rfl ?_
  refine v_staI ([.int x1]) ([]) 4 hF dX5_tells_1 rfl cw_X5_319 (c_X5_isSheet (G := G) (sh := sh) M x1) ⟨rfl, rfl, Nat.le_of_ble_eq_true rfl, Nat.le_of_ble_eq_true rfl⟩ rfl rfl (Nat.le_of_ble_eq_true rfl) (fun r23 M22 => ?_)
  refine v_if_eq 7 36 hF dX5_tells_4 rfl (by decide) (fun _ => ?_) (fun _ => ?_)
  · refine v_bipush (-2) 38 hF dX5_tells_36 rfl (by decide) ?_
    exact v_iret hF dX5_tells_38
  · refine v_aload_n 0 8 hF dX5_tells_7 rfl rfl rfl ?_
    refine v_iload_n 2 9 hF dX5_tells_8 rfl rfl rfl ?_
    refine v_callI ([.int x2]) ([]) 12 hF dX5_tells_9 rfl cw_X5_87 rfl (hs.1) (c_X5_isLetter (G := G) hs M22 x2) ⟨rfl, rfl, Nat.le_of_ble_eq_true rfl, Nat.le_of_ble_eq_true rfl⟩ rfl rfl (Nat.le_of_ble_eq_true rfl) (fun r25 M24 => ?_)
    refine v_if_eq 15 36 hF dX5_tells_12 rfl (by decide) (fun _ => ?_) (fun _ => ?_)
    · refine v_bipush (-2) 38 hF dX5_tells_36 rfl (by decide) ?_
      exact v_iret hF dX5_tells_38
    · refine v_aload_n 0 16 hF dX5_tells_15 rfl rfl rfl ?_
      refine v_iload_n 3 17 hF dX5_tells_16 rfl rfl rfl ?_
      refine v_callI ([.int x3]) ([]) 20 hF dX5_tells_17 rfl cw_X5_83 rfl (hs.1) (c_X5_isOne (G := G) hs M24 x3) ⟨rfl, rfl, Nat.le_of_ble_eq_true rfl, Nat.le_of_ble_eq_true rfl⟩ rfl rfl (Nat.le_of_ble_eq_true rfl) (fun r27 M26 => ?_)
      refine v_if_eq 23 36 hF dX5_tells_20 rfl (by decide) (fun _ => ?_) (fun _ => ?_)
      · refine v_bipush (-2) 38 hF dX5_tells_36 rfl (by decide) ?_
        exact v_iret hF dX5_tells_38
      · refine v_iload 4 25 hF dX5_tells_23 rfl rfl ?_
        refine v_i2l 26 hF dX5_tells_25 rfl ?_
        refine v_lconst 0 27 hF dX5_tells_26 rfl (by decide) ?_
        refine v_ldc2 (6) 30 hF dX5_tells_27 rfl cc_X5_322 ?_
        refine v_staI ([.long (((x4).toInt64)), .long ((0 : Int64)), .long ((6 : Int64))]) ([]) 33 hF dX5_tells_30 rfl cw_X5_76 (c_X5_in (G := G) (sh := sh) M26 (((x4).toInt64)) ((0 : Int64)) ((6 : Int64))) ⟨rfl, rfl, Nat.le_of_ble_eq_true rfl, Nat.le_of_ble_eq_true rfl⟩ rfl rfl (Nat.le_of_ble_eq_true rfl) (fun r29 M28 => ?_)
        refine v_if_ne 36 39 hF dX5_tells_33 rfl (by decide) (fun _ => ?_) (fun _ => ?_)
        · refine v_aload_n 0 40 hF dX5_tells_39 rfl rfl rfl ?_
          refine v_getR (b := 12) 43 hF dX5_tells_40 rfl fl_X5_53 hs.1 rfl ?_
          refine v_iload_n 1 44 hF dX5_tells_43 rfl rfl rfl ?_
          refine v_zald 45 hF dX5_tells_44 rfl (hs.2.2.2.2.2.2.2.2.2.2.2.2.1) ?_
          refine v_if_ne 48 51 hF dX5_tells_45 rfl (by decide) (fun _ => ?_) (fun _ => ?_)
          · refine v_aload_n 0 52 hF dX5_tells_51 rfl rfl rfl ?_
            refine v_getR (b := 14) 55 hF dX5_tells_52 rfl fl_X5_60 hs.1 rfl ?_
            refine v_iload_n 1 56 hF dX5_tells_55 rfl rfl rfl ?_
            refine v_iald 57 hF dX5_tells_56 rfl (hs.2.2.2.2.2.2.2.2.2.2.2.2.2.2.1) ?_
            refine v_bipush (20) 59 hF dX5_tells_57 rfl (by decide) ?_
            refine v_icmp_le 62 65 hF dX5_tells_59 rfl (by decide) (fun _ => ?_) (fun _ => ?_)
            · refine v_iload 4 67 hF dX5_tells_65 rfl rfl ?_
              refine v_if_eq 70 77 hF dX5_tells_67 rfl (by decide) (fun _ => ?_) (fun _ => ?_)
              · refine VR.pick [0, 1, 2, 4] rfl ?_
                exact v_X5_tells_J77 hF hs x1 x2 x4 M28
              · refine v_iload 4 72 hF dX5_tells_70 rfl rfl ?_
                refine v_bipush (6) 74 hF dX5_tells_72 rfl (by decide) ?_
                refine v_icmp_ne 77 97 hF dX5_tells_74 rfl (by decide) (fun _ => ?_) (fun _ => ?_)
                · refine v_iload 4 99 hF dX5_tells_97 rfl rfl ?_
                  refine v_iconst (1) 100 hF dX5_tells_99 rfl (by decide) ?_
                  refine v_icmp_ne 103 107 hF dX5_tells_100 rfl (by decide) (fun _ => ?_) (fun _ => ?_)
                  · refine v_iload 4 109 hF dX5_tells_107 rfl rfl ?_
                    refine v_iconst (2) 110 hF dX5_tells_109 rfl (by decide) ?_
                    refine v_icmp_ne 113 117 hF dX5_tells_110 rfl (by decide) (fun _ => ?_) (fun _ => ?_)
                    · refine v_iload 4 119 hF dX5_tells_117 rfl rfl ?_
                      refine v_iconst (5) 120 hF dX5_tells_119 rfl (by decide) ?_
                      refine v_icmp_ne 123 127 hF dX5_tells_120 rfl (by decide) (fun _ => ?_) (fun _ => ?_)
                      · refine v_iconst (0) 128 hF dX5_tells_127 rfl (by decide) ?_
                        refine VR.pick [0, 1, 2, 3, 4] rfl ?_
                        exact v_X5_tells_J128 hF hs x1 x2 x3 x4 ((0 : Int32)) M28
                      · refine v_iconst (5) 124 hF dX5_tells_123 rfl (by decide) ?_
                        refine v_goto 128 hF dX5_tells_124 (by decide) ?_
                        refine VR.pick [0, 1, 2, 3, 4] rfl ?_
                        exact v_X5_tells_J128 hF hs x1 x2 x3 x4 ((5 : Int32)) M28
                    · refine v_iconst (2) 114 hF dX5_tells_113 rfl (by decide) ?_
                      refine v_goto 128 hF dX5_tells_114 (by decide) ?_
                      refine VR.pick [0, 1, 2, 3, 4] rfl ?_
                      exact v_X5_tells_J128 hF hs x1 x2 x3 x4 ((2 : Int32)) M28
                  · refine v_iconst (4) 104 hF dX5_tells_103 rfl (by decide) ?_
                    refine v_goto 128 hF dX5_tells_104 (by decide) ?_
                    refine VR.pick [0, 1, 2, 3, 4] rfl ?_
                    exact v_X5_tells_J128 hF hs x1 x2 x3 x4 ((4 : Int32)) M28
                · refine VR.pick [0, 1, 2, 4] rfl ?_
                  exact v_X5_tells_J77 hF hs x1 x2 x4 M28
            · refine v_bipush (-2) 64 hF dX5_tells_62 rfl (by decide) ?_
              exact v_iret hF dX5_tells_64
          · refine v_bipush (-11) 50 hF dX5_tells_48 rfl (by decide) ?_
            exact v_iret hF dX5_tells_50
        · refine v_bipush (-2) 38 hF dX5_tells_36 rfl (by decide) ?_
          exact v_iret hF dX5_tells_38
abbrev rmX5_sheet : Room := { frames := 2, cells := 0, slots := 0, locals := 45 }
def m_X5_sheet_B77 (n77 : Int32 → Int32 → Int32 → Int32 → Mm → Option (Int32 × Mm)) (x1 : Int32) (x2 : Int32) (x3 : Int32) (x4 : Int32) (M : Mm) : Option (Int32 × Mm) := if x3 ≤ x4 then (some ((1 : Int32), M)) else (if x2 < 0 then (some ((1 : Int32), M)) else (gd (inr ((((40 : Int32) * x1) + x4)) 160) (lt1 (up M 15 ((((40 : Int32) * x1) + x4)).toNatClampNeg ((0 : Int32))) fun M1 => lt1 (x4 + 1) fun y2 => n77 x1 x2 x3 y2 M1)))
def m_X5_sheet_L77 : Nat → Int32 → Int32 → Int32 → Int32 → Mm → Option (Int32 × Mm)
  | 0 => fun _ _ _ _ _ => none
  | n + 1 => m_X5_sheet_B77  (m_X5_sheet_L77  n)
def m_X5_sheet_J59 (x1 : Int32) (x2 : Int32) (x3 : Int32) (s0 : Int32) (s1 : Int32) (M : Mm) : Option (Int32 × Mm) := gd (inr s1 4) (lt1 (up M 12 s1.toNatClampNeg (vp_nar .boolean s0)) fun M3 => gd (inr x1 4) (lt1 (up M3 13 x1.toNatClampNeg x2) fun M4 => gd (inr x1 4) (lt1 (up M4 14 x1.toNatClampNeg x3) fun M5 => lt1 ((0 : Int32)) fun y6 => m_X5_sheet_L77 FU x1 x2 x3 y6 M5)))
def m_X5_sheet_J45 (x1 : Int32) (x2 : Int32) (x3 : Int32) (M : Mm) : Option (Int32 × Mm) := if x2 < 0 then (m_X5_sheet_J59 x1 x2 x3 ((0 : Int32)) x1 M) else (m_X5_sheet_J59 x1 x2 x3 ((1 : Int32)) x1 M)
def m_X5_sheet_J34 (x1 : Int32) (x2 : Int32) (x3 : Int32) (M : Mm) : Option (Int32 × Mm) := if x2 < 0 then (m_X5_sheet_J45 x1 x2 x3 M) else (if 0 ≤ x3 then (m_X5_sheet_J45 x1 x2 x3 M) else (some ((-14 : Int32), M)))
def m_X5_sheet (x1 : Int32) (x2 : Int32) (x3 : Int32) (M : Mm) : Option (Int32 × Mm) := bd (m_X5_isSheet x1 M) fun r8 M7 => if r8 = 0 then (some ((-2 : Int32), M7)) else (bd (m_X5_in (((x2).toInt64)) ((-1 : Int64)) ((2 : Int64)) M7) fun r10 M9 => if r10 = 0 then (some ((-2 : Int32), M9)) else (if x2 < 0 then (m_X5_sheet_J34 x1 x2 x3 M9) else (if x3 ≤ (40 : Int32) then (m_X5_sheet_J34 x1 x2 x3 M9) else (some ((-2 : Int32), M9)))))
set_option maxRecDepth 100000 in
set_option maxHeartbeats 4000000 in
theorem v_X5_sheet_B77 {X : Cx} {G : Gx} {sh : List Sh} (hF : FX X G sh 5 cX5_sheet (yX5_sheet).cls (some .int) rmX5_sheet) (hs : ModAt sh) (n77 : Int32 → Int32 → Int32 → Int32 → Mm → Option (Int32 × Mm)) (h77 : ∀ (x1 : Int32) (x2 : Int32) (x3 : Int32) (x4 : Int32) (M : Mm), VR X G sh 5 rvI M 77 [(0, .ref (G.2.2.2.2 0)), (1, .int x1), (2, .int x2), (3, .int x3), (4, .int x4)] [] (n77 x1 x2 x3 x4 M)) : ∀ (x1 : Int32) (x2 : Int32) (x3 : Int32) (x4 : Int32) (M : Mm), VR X G sh 5 rvI M 77 [(0, .ref (G.2.2.2.2 0)), (1, .int x1), (2, .int x2), (3, .int x3), (4, .int x4)] [] (m_X5_sheet_B77  n77 x1 x2 x3 x4 M) := by
  intro x1 x2 x3 x4 M
  unfold m_X5_sheet_B77
  refine v_iload 4 79 hF dX5_sheet_77 rfl rfl ?_
  refine v_iload_n 3 80 hF dX5_sheet_79 rfl rfl rfl ?_
  refine v_icmp_ge 83 106 hF dX5_sheet_80 rfl (by decide) (fun _ => ?_) (fun _ => ?_)
  · refine v_iconst (1) 107 hF dX5_sheet_106 rfl (by decide) ?_
    exact v_iret hF dX5_sheet_107
  · refine v_iload_n 2 84 hF dX5_sheet_83 rfl rfl rfl ?_
    refine v_if_lt 87 106 hF dX5_sheet_84 rfl (by decide) (fun _ => ?_) (fun _ => ?_)
    · refine v_iconst (1) 107 hF dX5_sheet_106 rfl (by decide) ?_
      exact v_iret hF dX5_sheet_107
    · refine v_aload_n 0 88 hF dX5_sheet_87 rfl rfl rfl ?_
      refine v_getR (b := 15) 91 hF dX5_sheet_88 rfl fl_X5_63 hs.1 rfl ?_
      refine v_bipush (40) 93 hF dX5_sheet_91 rfl (by decide) ?_
      refine v_iload_n 1 94 hF dX5_sheet_93 rfl rfl rfl ?_
      refine v_imul 95 hF dX5_sheet_94 rfl ?_
      refine v_iload 4 97 hF dX5_sheet_95 rfl rfl ?_
      refine v_iadd 98 hF dX5_sheet_97 rfl ?_
      refine v_iconst (0) 99 hF dX5_sheet_98 rfl (by decide) ?_
      refine v_iast 100 hF dX5_sheet_99 rfl (hs.2.2.2.2.2.2.2.2.2.2.2.2.2.2.2) (fun M1 => ?_)
      refine v_iinc (v := (x4 + 1)) (lo' := fun y2 => [(4, .int y2), (0, .ref (G.2.2.2.2 0)), (1, .int x1), (2, .int x2), (3, .int x3)]) 4 103 hF dX5_sheet_100 rfl rfl rfl (by decide) (fun _ => rfl) (fun y2 => ?_)
      refine v_goto 77 hF dX5_sheet_103 (by decide) ?_
      refine VR.pick [1, 2, 3, 4, 0] rfl ?_
      exact h77 x1 x2 x3 y2 M1
theorem v_X5_sheet_L77 {X : Cx} {G : Gx} {sh : List Sh} (hF : FX X G sh 5 cX5_sheet (yX5_sheet).cls (some .int) rmX5_sheet) (hs : ModAt sh) : ∀ (n : Nat), ∀ (x1 : Int32) (x2 : Int32) (x3 : Int32) (x4 : Int32) (M : Mm), VR X G sh 5 rvI M 77 [(0, .ref (G.2.2.2.2 0)), (1, .int x1), (2, .int x2), (3, .int x3), (4, .int x4)] [] (m_X5_sheet_L77  n x1 x2 x3 x4 M) := by
  intro n
  induction n with
  | zero => intro x1 x2 x3 x4 M; exact VR.none
  | succ n ih => exact v_X5_sheet_B77 hF hs _ ih
set_option maxRecDepth 100000 in
set_option maxHeartbeats 4000000 in
theorem v_X5_sheet_J59 {X : Cx} {G : Gx} {sh : List Sh} (hF : FX X G sh 5 cX5_sheet (yX5_sheet).cls (some .int) rmX5_sheet) (hs : ModAt sh) : ∀ (x1 : Int32) (x2 : Int32) (x3 : Int32) (s0 : Int32) (s1 : Int32) (M : Mm), VR X G sh 5 rvI M 59 [(0, .ref (G.2.2.2.2 0)), (1, .int x1), (2, .int x2), (3, .int x3)] [.int s0, .int s1, .ref (G.2.2.2.2 12)] (m_X5_sheet_J59  x1 x2 x3 s0 s1 M) := by
  intro x1 x2 x3 s0 s1 M
  unfold m_X5_sheet_J59
  refine v_zast 60 hF dX5_sheet_59 rfl (hs.2.2.2.2.2.2.2.2.2.2.2.2.1) (fun M3 => ?_)
  refine v_aload_n 0 61 hF dX5_sheet_60 rfl rfl rfl ?_
  refine v_getR (b := 13) 64 hF dX5_sheet_61 rfl fl_X5_57 hs.1 rfl ?_
  refine v_iload_n 1 65 hF dX5_sheet_64 rfl rfl rfl ?_
  refine v_iload_n 2 66 hF dX5_sheet_65 rfl rfl rfl ?_
  refine v_iast 67 hF dX5_sheet_66 rfl (hs.2.2.2.2.2.2.2.2.2.2.2.2.2.1) (fun M4 => ?_)
  refine v_aload_n 0 68 hF dX5_sheet_67 rfl rfl rfl ?_
  refine v_getR (b := 14) 71 hF dX5_sheet_68 rfl fl_X5_60 hs.1 rfl ?_
  refine v_iload_n 1 72 hF dX5_sheet_71 rfl rfl rfl ?_
  refine v_iload_n 3 73 hF dX5_sheet_72 rfl rfl rfl ?_
  refine v_iast 74 hF dX5_sheet_73 rfl (hs.2.2.2.2.2.2.2.2.2.2.2.2.2.2.1) (fun M5 => ?_)
  refine v_iconst (0) 75 hF dX5_sheet_74 rfl (by decide) ?_
  refine v_istore (lo' := fun y6 => [(4, .int y6), (0, .ref (G.2.2.2.2 0)), (1, .int x1), (2, .int x2), (3, .int x3)]) 77 hF dX5_sheet_75 rfl (by decide) (fun _ => rfl) (fun y6 => ?_)
  refine VR.pick [1, 2, 3, 4, 0] rfl ?_
  exact v_X5_sheet_L77 hF hs FU x1 x2 x3 y6 M5
set_option maxRecDepth 100000 in
set_option maxHeartbeats 4000000 in
theorem v_X5_sheet_J45 {X : Cx} {G : Gx} {sh : List Sh} (hF : FX X G sh 5 cX5_sheet (yX5_sheet).cls (some .int) rmX5_sheet) (hs : ModAt sh) : ∀ (x1 : Int32) (x2 : Int32) (x3 : Int32) (M : Mm), VR X G sh 5 rvI M 45 [(0, .ref (G.2.2.2.2 0)), (1, .int x1), (2, .int x2), (3, .int x3)] [] (m_X5_sheet_J45  x1 x2 x3 M) := by
  intro x1 x2 x3 M
  unfold m_X5_sheet_J45
  refine v_aload_n 0 46 hF dX5_sheet_45 rfl rfl rfl ?_
  refine v_getR (b := 12) 49 hF dX5_sheet_46 rfl fl_X5_53 hs.1 rfl ?_
  refine v_iload_n 1 50 hF dX5_sheet_49 rfl rfl rfl ?_
  refine v_iload_n 2 51 hF dX5_sheet_50 rfl rfl rfl ?_
  refine v_if_lt 54 58 hF dX5_sheet_51 rfl (by decide) (fun _ => ?_) (fun _ => ?_)
  · refine v_iconst (0) 59 hF dX5_sheet_58 rfl (by decide) ?_
    refine VR.pick [0, 1, 2, 3] rfl ?_
    exact v_X5_sheet_J59 hF hs x1 x2 x3 ((0 : Int32)) x1 M
  · refine v_iconst (1) 55 hF dX5_sheet_54 rfl (by decide) ?_
    refine v_goto 59 hF dX5_sheet_55 (by decide) ?_
    refine VR.pick [0, 1, 2, 3] rfl ?_
    exact v_X5_sheet_J59 hF hs x1 x2 x3 ((1 : Int32)) x1 M
set_option maxRecDepth 100000 in
set_option maxHeartbeats 4000000 in
theorem v_X5_sheet_J34 {X : Cx} {G : Gx} {sh : List Sh} (hF : FX X G sh 5 cX5_sheet (yX5_sheet).cls (some .int) rmX5_sheet) (hs : ModAt sh) : ∀ (x1 : Int32) (x2 : Int32) (x3 : Int32) (M : Mm), VR X G sh 5 rvI M 34 [(0, .ref (G.2.2.2.2 0)), (1, .int x1), (2, .int x2), (3, .int x3)] [] (m_X5_sheet_J34  x1 x2 x3 M) := by
  intro x1 x2 x3 M
  unfold m_X5_sheet_J34
  refine v_iload_n 2 35 hF dX5_sheet_34 rfl rfl rfl ?_
  refine v_if_lt 38 45 hF dX5_sheet_35 rfl (by decide) (fun _ => ?_) (fun _ => ?_)
  · refine VR.pick [0, 1, 2, 3] rfl ?_
    exact v_X5_sheet_J45 hF hs x1 x2 x3 M
  · refine v_iload_n 3 39 hF dX5_sheet_38 rfl rfl rfl ?_
    refine v_if_ge 42 45 hF dX5_sheet_39 rfl (by decide) (fun _ => ?_) (fun _ => ?_)
    · refine VR.pick [0, 1, 2, 3] rfl ?_
      exact v_X5_sheet_J45 hF hs x1 x2 x3 M
    · refine v_bipush (-14) 44 hF dX5_sheet_42 rfl (by decide) ?_
      exact v_iret hF dX5_sheet_44
set_option maxRecDepth 100000 in
set_option maxHeartbeats 4000000 in
theorem c_X5_sheet {G : Gx} {sh : List Sh} (hs : ModAt sh) (M : Mm) (x1 : Int32) (x2 : Int32) (x3 : Int32) : CT yX5_sheet cX5_sheet 5 (some .int) rmX5_sheet G sh [.ref (G.2.2.2.2 0), .int x1, .int x2, .int x3] rvI M (m_X5_sheet  x1 x2 x3 M) := by
  refine CT.of (by decide +kernel) (Nat.le_of_ble_eq_true rfl) (fun X hF => ?_)
  show VR X G sh 5 rvI M 0 [(0, .ref (G.2.2.2.2 0)), (1, .int x1), (2, .int x2), (3, .int x3)] [] _
  unfold m_X5_sheet
  refine v_iload_n 1 1 hF dX5_sheet_0 rfl rfl rfl ?_
  refine v_staI ([.int x1]) ([]) 4 hF dX5_sheet_1 rfl cw_X5_319 (c_X5_isSheet (G := G) (sh := sh) M x1) ⟨rfl, rfl, Nat.le_of_ble_eq_true rfl, Nat.le_of_ble_eq_true rfl⟩ rfl rfl (Nat.le_of_ble_eq_true rfl) (fun r8 M7 => ?_)
  refine v_if_eq 7 31 hF dX5_sheet_4 rfl (by decide) (fun _ => ?_) (fun _ => ?_)
  · refine v_bipush (-2) 33 hF dX5_sheet_31 rfl (by decide) ?_
    exact v_iret hF dX5_sheet_33
  · refine v_iload_n 2 8 hF dX5_sheet_7 rfl rfl rfl ?_
    refine v_i2l 9 hF dX5_sheet_8 rfl ?_
    refine v_ldc2 (-1) 12 hF dX5_sheet_9 rfl cc_X5_348 ?_
    refine v_ldc2 (2) 15 hF dX5_sheet_12 rfl cc_X5_350 ?_
    refine v_staI ([.long (((x2).toInt64)), .long ((-1 : Int64)), .long ((2 : Int64))]) ([]) 18 hF dX5_sheet_15 rfl cw_X5_76 (c_X5_in (G := G) (sh := sh) M7 (((x2).toInt64)) ((-1 : Int64)) ((2 : Int64))) ⟨rfl, rfl, Nat.le_of_ble_eq_true rfl, Nat.le_of_ble_eq_true rfl⟩ rfl rfl (Nat.le_of_ble_eq_true rfl) (fun r10 M9 => ?_)
    refine v_if_eq 21 31 hF dX5_sheet_18 rfl (by decide) (fun _ => ?_) (fun _ => ?_)
    · refine v_bipush (-2) 33 hF dX5_sheet_31 rfl (by decide) ?_
      exact v_iret hF dX5_sheet_33
    · refine v_iload_n 2 22 hF dX5_sheet_21 rfl rfl rfl ?_
      refine v_if_lt 25 34 hF dX5_sheet_22 rfl (by decide) (fun _ => ?_) (fun _ => ?_)
      · refine VR.pick [0, 1, 2, 3] rfl ?_
        exact v_X5_sheet_J34 hF hs x1 x2 x3 M9
      · refine v_iload_n 3 26 hF dX5_sheet_25 rfl rfl rfl ?_
        refine v_bipush (40) 28 hF dX5_sheet_26 rfl (by decide) ?_
        refine v_icmp_le 31 34 hF dX5_sheet_28 rfl (by decide) (fun _ => ?_) (fun _ => ?_)
        · refine VR.pick [0, 1, 2, 3] rfl ?_
          exact v_X5_sheet_J34 hF hs x1 x2 x3 M9
        · refine v_bipush (-2) 33 hF dX5_sheet_31 rfl (by decide) ?_
          exact v_iret hF dX5_sheet_33
abbrev rmX5_film : Room := { frames := 70, cells := 0, slots := 0, locals := 3114 }
def m_X5_film_B45 (n45 : Int32 → Int32 → Int32 → Int32 → Mm → Option (Int32 × Mm)) (x1 : Int32) (x2 : Int32) (x3 : Int32) (x4 : Int32) (M : Mm) : Option (Int32 × Mm) := if x3 ≤ x4 then (bd (m_X5_laysBack M) fun _ M1 => some (x3, M1)) else (bd (m_X5_passes M) fun _ M2 => gd (inr ((((5 : Int32) * x2) + (3 : Int32))) 40) (gd (inr ((((40 : Int32) * x1) + x4)) 160) (lt1 (up M2 15 ((((40 : Int32) * x1) + x4)).toNatClampNeg ((M2 5 ((((5 : Int32) * x2) + (3 : Int32))).toNatClampNeg))) fun M3 => lt1 (x4 + 1) fun y4 => n45 x1 x2 x3 y4 M3)))
def m_X5_film_L45 : Nat → Int32 → Int32 → Int32 → Int32 → Mm → Option (Int32 × Mm)
  | 0 => fun _ _ _ _ _ => none
  | n + 1 => m_X5_film_B45  (m_X5_film_L45  n)
def m_X5_film (x1 : Int32) (x2 : Int32) (x3 : Int32) (M : Mm) : Option (Int32 × Mm) := bd (m_X5_isSheet x1 M) fun r6 M5 => if r6 = 0 then (some ((-2 : Int32), M5)) else (bd (m_X5_isLetter x2 M5) fun r8 M7 => if r8 = 0 then (some ((-2 : Int32), M7)) else (bd (m_X5_in (((x3).toInt64)) ((0 : Int64)) ((20 : Int64)) M7) fun r10 M9 => if r10 = 0 then (some ((-2 : Int32), M9)) else (bd (m_X5_sheet x1 ((0 : Int32)) x3 M9) fun r12 M11 => bd (m_X5_laysAside M11) fun _ M13 => lt1 ((0 : Int32)) fun y14 => m_X5_film_L45 FU x1 x2 x3 y14 M13)))
set_option maxRecDepth 100000 in
set_option maxHeartbeats 4000000 in
theorem v_X5_film_B45 {X : Cx} {G : Gx} {sh : List Sh} (hF : FX X G sh 5 cX5_film (yX5_film).cls (some .int) rmX5_film) (hs : ModAt sh) (n45 : Int32 → Int32 → Int32 → Int32 → Mm → Option (Int32 × Mm)) (h45 : ∀ (x1 : Int32) (x2 : Int32) (x3 : Int32) (x4 : Int32) (M : Mm), VR X G sh 5 rvI M 45 [(0, .ref (G.2.2.2.2 0)), (1, .int x1), (2, .int x2), (3, .int x3), (4, .int x4)] [] (n45 x1 x2 x3 x4 M)) : ∀ (x1 : Int32) (x2 : Int32) (x3 : Int32) (x4 : Int32) (M : Mm), VR X G sh 5 rvI M 45 [(0, .ref (G.2.2.2.2 0)), (1, .int x1), (2, .int x2), (3, .int x3), (4, .int x4)] [] (m_X5_film_B45  n45 x1 x2 x3 x4 M) := by
  intro x1 x2 x3 x4 M
  unfold m_X5_film_B45
  refine v_iload 4 47 hF dX5_film_45 rfl rfl ?_
  refine v_iload_n 3 48 hF dX5_film_47 rfl rfl rfl ?_
  refine v_icmp_ge 51 83 hF dX5_film_48 rfl (by decide) (fun _ => ?_) (fun _ => ?_)
  · refine v_aload_n 0 84 hF dX5_film_83 rfl rfl rfl ?_
    refine v_callV ([]) ([]) 87 hF dX5_film_84 rfl cw_X5_291 rfl (hs.1) (c_X5_laysBack (G := G) hs M) ⟨rfl, rfl, Nat.le_of_ble_eq_true rfl, Nat.le_of_ble_eq_true rfl⟩ rfl rfl (Nat.le_of_ble_eq_true rfl) (fun _ M1 => ?_)
    refine v_iload_n 3 88 hF dX5_film_87 rfl rfl rfl ?_
    exact v_iret hF dX5_film_88
  · refine v_aload_n 0 52 hF dX5_film_51 rfl rfl rfl ?_
    refine v_callV ([]) ([]) 55 hF dX5_film_52 rfl cw_X5_279 rfl (hs.1) (c_X5_passes (G := G) hs M) ⟨rfl, rfl, Nat.le_of_ble_eq_true rfl, Nat.le_of_ble_eq_true rfl⟩ rfl rfl (Nat.le_of_ble_eq_true rfl) (fun _ M2 => ?_)
    refine v_aload_n 0 56 hF dX5_film_55 rfl rfl rfl ?_
    refine v_getR (b := 15) 59 hF dX5_film_56 rfl fl_X5_63 hs.1 rfl ?_
    refine v_bipush (40) 61 hF dX5_film_59 rfl (by decide) ?_
    refine v_iload_n 1 62 hF dX5_film_61 rfl rfl rfl ?_
    refine v_imul 63 hF dX5_film_62 rfl ?_
    refine v_iload 4 65 hF dX5_film_63 rfl rfl ?_
    refine v_iadd 66 hF dX5_film_65 rfl ?_
    refine v_aload_n 0 67 hF dX5_film_66 rfl rfl rfl ?_
    refine v_getR (b := 5) 70 hF dX5_film_67 rfl fl_X5_29 hs.1 rfl ?_
    refine v_iconst (5) 71 hF dX5_film_70 rfl (by decide) ?_
    refine v_iload_n 2 72 hF dX5_film_71 rfl rfl rfl ?_
    refine v_imul 73 hF dX5_film_72 rfl ?_
    refine v_iconst (3) 74 hF dX5_film_73 rfl (by decide) ?_
    refine v_iadd 75 hF dX5_film_74 rfl ?_
    refine v_iald 76 hF dX5_film_75 rfl (hs.2.2.2.2.2.1) ?_
    refine v_iast 77 hF dX5_film_76 rfl (hs.2.2.2.2.2.2.2.2.2.2.2.2.2.2.2) (fun M3 => ?_)
    refine v_iinc (v := (x4 + 1)) (lo' := fun y4 => [(4, .int y4), (0, .ref (G.2.2.2.2 0)), (1, .int x1), (2, .int x2), (3, .int x3)]) 4 80 hF dX5_film_77 rfl rfl rfl (by decide) (fun _ => rfl) (fun y4 => ?_)
    refine v_goto 45 hF dX5_film_80 (by decide) ?_
    refine VR.pick [1, 2, 3, 4, 0] rfl ?_
    exact h45 x1 x2 x3 y4 M3
theorem v_X5_film_L45 {X : Cx} {G : Gx} {sh : List Sh} (hF : FX X G sh 5 cX5_film (yX5_film).cls (some .int) rmX5_film) (hs : ModAt sh) : ∀ (n : Nat), ∀ (x1 : Int32) (x2 : Int32) (x3 : Int32) (x4 : Int32) (M : Mm), VR X G sh 5 rvI M 45 [(0, .ref (G.2.2.2.2 0)), (1, .int x1), (2, .int x2), (3, .int x3), (4, .int x4)] [] (m_X5_film_L45  n x1 x2 x3 x4 M) := by
  intro n
  induction n with
  | zero => intro x1 x2 x3 x4 M; exact VR.none
  | succ n ih => exact v_X5_film_B45 hF hs _ ih
set_option maxRecDepth 100000 in
set_option maxHeartbeats 4000000 in
theorem c_X5_film {G : Gx} {sh : List Sh} (hs : ModAt sh) (M : Mm) (x1 : Int32) (x2 : Int32) (x3 : Int32) : CT yX5_film cX5_film 5 (some .int) rmX5_film G sh [.ref (G.2.2.2.2 0), .int x1, .int x2, .int x3] rvI M (m_X5_film  x1 x2 x3 M) := by
  refine CT.of (by decide +kernel) (Nat.le_of_ble_eq_true rfl) (fun X hF => ?_)
  show VR X G sh 5 rvI M 0 [(0, .ref (G.2.2.2.2 0)), (1, .int x1), (2, .int x2), (3, .int x3)] [] _
  unfold m_X5_film
  refine v_iload_n 1 1 hF dX5_film_0 rfl rfl rfl ?_
  refine v_staI ([.int x1]) ([]) 4 hF dX5_film_1 rfl cw_X5_319 (c_X5_isSheet (G := G) (sh := sh) M x1) ⟨rfl, rfl, Nat.le_of_ble_eq_true rfl, Nat.le_of_ble_eq_true rfl⟩ rfl rfl (Nat.le_of_ble_eq_true rfl) (fun r6 M5 => ?_)
  refine v_if_eq 7 27 hF dX5_film_4 rfl (by decide) (fun _ => ?_) (fun _ => ?_)
  · refine v_bipush (-2) 29 hF dX5_film_27 rfl (by decide) ?_
    exact v_iret hF dX5_film_29
  · refine v_aload_n 0 8 hF dX5_film_7 rfl rfl rfl ?_
    refine v_iload_n 2 9 hF dX5_film_8 rfl rfl rfl ?_
    refine v_callI ([.int x2]) ([]) 12 hF dX5_film_9 rfl cw_X5_87 rfl (hs.1) (c_X5_isLetter (G := G) hs M5 x2) ⟨rfl, rfl, Nat.le_of_ble_eq_true rfl, Nat.le_of_ble_eq_true rfl⟩ rfl rfl (Nat.le_of_ble_eq_true rfl) (fun r8 M7 => ?_)
    refine v_if_eq 15 27 hF dX5_film_12 rfl (by decide) (fun _ => ?_) (fun _ => ?_)
    · refine v_bipush (-2) 29 hF dX5_film_27 rfl (by decide) ?_
      exact v_iret hF dX5_film_29
    · refine v_iload_n 3 16 hF dX5_film_15 rfl rfl rfl ?_
      refine v_i2l 17 hF dX5_film_16 rfl ?_
      refine v_lconst 0 18 hF dX5_film_17 rfl (by decide) ?_
      refine v_ldc2 (20) 21 hF dX5_film_18 rfl cc_X5_299 ?_
      refine v_staI ([.long (((x3).toInt64)), .long ((0 : Int64)), .long ((20 : Int64))]) ([]) 24 hF dX5_film_21 rfl cw_X5_76 (c_X5_in (G := G) (sh := sh) M7 (((x3).toInt64)) ((0 : Int64)) ((20 : Int64))) ⟨rfl, rfl, Nat.le_of_ble_eq_true rfl, Nat.le_of_ble_eq_true rfl⟩ rfl rfl (Nat.le_of_ble_eq_true rfl) (fun r10 M9 => ?_)
      refine v_if_ne 27 30 hF dX5_film_24 rfl (by decide) (fun _ => ?_) (fun _ => ?_)
      · refine v_aload_n 0 31 hF dX5_film_30 rfl rfl rfl ?_
        refine v_iload_n 1 32 hF dX5_film_31 rfl rfl rfl ?_
        refine v_iconst (0) 33 hF dX5_film_32 rfl (by decide) ?_
        refine v_iload_n 3 34 hF dX5_film_33 rfl rfl rfl ?_
        refine v_callI ([.int x1, .int ((0 : Int32)), .int x3]) ([]) 37 hF dX5_film_34 rfl cw_X5_327 rfl (hs.1) (c_X5_sheet (G := G) hs M9 x1 ((0 : Int32)) x3) ⟨rfl, rfl, Nat.le_of_ble_eq_true rfl, Nat.le_of_ble_eq_true rfl⟩ rfl rfl (Nat.le_of_ble_eq_true rfl) (fun r12 M11 => ?_)
        refine v_popI 38 hF dX5_film_37 rfl ?_
        refine v_aload_n 0 39 hF dX5_film_38 rfl rfl rfl ?_
        refine v_callV ([]) ([]) 42 hF dX5_film_39 rfl cw_X5_282 rfl (hs.1) (c_X5_laysAside (G := G) hs M11) ⟨rfl, rfl, Nat.le_of_ble_eq_true rfl, Nat.le_of_ble_eq_true rfl⟩ rfl rfl (Nat.le_of_ble_eq_true rfl) (fun _ M13 => ?_)
        refine v_iconst (0) 43 hF dX5_film_42 rfl (by decide) ?_
        refine v_istore (lo' := fun y14 => [(4, .int y14), (0, .ref (G.2.2.2.2 0)), (1, .int x1), (2, .int x2), (3, .int x3)]) 45 hF dX5_film_43 rfl (by decide) (fun _ => rfl) (fun y14 => ?_)
        refine VR.pick [1, 2, 3, 4, 0] rfl ?_
        exact v_X5_film_L45 hF hs FU x1 x2 x3 y14 M13
      · refine v_bipush (-2) 29 hF dX5_film_27 rfl (by decide) ?_
        exact v_iret hF dX5_film_29
abbrev rmX5_homeDrawn : Room := { frames := 70, cells := 0, slots := 0, locals := 3114 }
def m_X5_homeDrawn_J81 (n9 : Int32 → Int32 → Int32 → Mm → Option (Int32 × Mm)) (x2 : Int32) (x3 : Int32) (x4 : Int32) (M : Mm) : Option (Int32 × Mm) := bd (m_X5_passes M) fun _ M1 => lt1 (x4 + 1) fun y2 => n9 x2 x3 y2 M1
def m_X5_homeDrawn_B9 (n9 : Int32 → Int32 → Int32 → Mm → Option (Int32 × Mm)) (x2 : Int32) (x3 : Int32) (x4 : Int32) (M : Mm) : Option (Int32 × Mm) := if x2 ≤ x4 then (bd (m_X5_homeMany M) fun r4 M3 => lt1 r4 fun y5 => bd (m_X5_laysBack M3) fun _ M6 => some (y5, M6)) else (lt1 (((x3 * (1103515245 : Int32)) + (12345 : Int32))) fun y7 => gd (!(decide ((8 : Int32) = 0))) (lt1 ((irm ((ushr y7 ((9 : Int32)))) ((8 : Int32)))) fun y8 => lt1 (((y7 * (1103515245 : Int32)) + (12345 : Int32))) fun y9 => gd (!(decide ((8 : Int32) = 0))) (lt1 ((irm ((ushr y9 ((9 : Int32)))) ((8 : Int32)))) fun y10 => bd (m_X5_areTwo y8 y10 M) fun r12 M11 => if r12 = 0 then (m_X5_homeDrawn_J81 n9 x2 y9 x4 M11) else (if (8 : Int32) ≤ (M11 0 12) then (m_X5_homeDrawn_J81 n9 x2 y9 x4 M11) else (bd (m_X5_sends y8 y10 M11) fun _ M13 => m_X5_homeDrawn_J81 n9 x2 y9 x4 M13)))))
def m_X5_homeDrawn_L9 : Nat → Int32 → Int32 → Int32 → Mm → Option (Int32 × Mm)
  | 0 => fun _ _ _ _ => none
  | n + 1 => m_X5_homeDrawn_B9  (m_X5_homeDrawn_L9  n)
def m_X5_homeDrawn (x1 : Int32) (x2 : Int32) (M : Mm) : Option (Int32 × Mm) := bd (m_X5_laysAside M) fun _ M14 => lt1 x1 fun y15 => lt1 ((0 : Int32)) fun y16 => m_X5_homeDrawn_L9 FU x2 y15 y16 M14
set_option maxRecDepth 100000 in
set_option maxHeartbeats 4000000 in
theorem v_X5_homeDrawn_J81 {X : Cx} {G : Gx} {sh : List Sh} (hF : FX X G sh 7 cX5_homeDrawn (yX5_homeDrawn).cls (some .int) rmX5_homeDrawn) (hs : ModAt sh) (n9 : Int32 → Int32 → Int32 → Mm → Option (Int32 × Mm)) (h9 : ∀ (x2 : Int32) (x3 : Int32) (x4 : Int32) (M : Mm), VR X G sh 7 rvI M 9 [(0, .ref (G.2.2.2.2 0)), (2, .int x2), (3, .int x3), (4, .int x4)] [] (n9 x2 x3 x4 M)) : ∀ (x2 : Int32) (x3 : Int32) (x4 : Int32) (M : Mm), VR X G sh 7 rvI M 81 [(0, .ref (G.2.2.2.2 0)), (2, .int x2), (3, .int x3), (4, .int x4)] [] (m_X5_homeDrawn_J81  n9 x2 x3 x4 M) := by
  intro x2 x3 x4 M
  unfold m_X5_homeDrawn_J81
  refine v_aload_n 0 82 hF dX5_homeDrawn_81 rfl rfl rfl ?_
  refine v_callV ([]) ([]) 85 hF dX5_homeDrawn_82 rfl cw_X5_279 rfl (hs.1) (c_X5_passes (G := G) hs M) ⟨rfl, rfl, Nat.le_of_ble_eq_true rfl, Nat.le_of_ble_eq_true rfl⟩ rfl rfl (Nat.le_of_ble_eq_true rfl) (fun _ M1 => ?_)
  refine v_iinc (v := (x4 + 1)) (lo' := fun y2 => [(4, .int y2), (0, .ref (G.2.2.2.2 0)), (2, .int x2), (3, .int x3)]) 3 88 hF dX5_homeDrawn_85 rfl rfl rfl (by decide) (fun _ => rfl) (fun y2 => ?_)
  refine v_goto 9 hF dX5_homeDrawn_88 (by decide) ?_
  refine VR.pick [1, 2, 3, 0] rfl ?_
  exact h9 x2 x3 y2 M1
set_option maxRecDepth 100000 in
set_option maxHeartbeats 4000000 in
theorem v_X5_homeDrawn_B9 {X : Cx} {G : Gx} {sh : List Sh} (hF : FX X G sh 7 cX5_homeDrawn (yX5_homeDrawn).cls (some .int) rmX5_homeDrawn) (hs : ModAt sh) (n9 : Int32 → Int32 → Int32 → Mm → Option (Int32 × Mm)) (h9 : ∀ (x2 : Int32) (x3 : Int32) (x4 : Int32) (M : Mm), VR X G sh 7 rvI M 9 [(0, .ref (G.2.2.2.2 0)), (2, .int x2), (3, .int x3), (4, .int x4)] [] (n9 x2 x3 x4 M)) : ∀ (x2 : Int32) (x3 : Int32) (x4 : Int32) (M : Mm), VR X G sh 7 rvI M 9 [(0, .ref (G.2.2.2.2 0)), (2, .int x2), (3, .int x3), (4, .int x4)] [] (m_X5_homeDrawn_B9  n9 x2 x3 x4 M) := by
  intro x2 x3 x4 M
  unfold m_X5_homeDrawn_B9
  refine v_iload 3 11 hF dX5_homeDrawn_9 rfl rfl ?_
  refine v_iload_n 1 12 hF dX5_homeDrawn_11 rfl rfl rfl ?_
  refine v_icmp_ge 15 91 hF dX5_homeDrawn_12 rfl (by decide) (fun _ => ?_) (fun _ => ?_)
  · refine v_aload_n 0 92 hF dX5_homeDrawn_91 rfl rfl rfl ?_
    refine v_callI ([]) ([]) 95 hF dX5_homeDrawn_92 rfl cw_X5_288 rfl (hs.1) (c_X5_homeMany (G := G) hs M) ⟨rfl, rfl, Nat.le_of_ble_eq_true rfl, Nat.le_of_ble_eq_true rfl⟩ rfl rfl (Nat.le_of_ble_eq_true rfl) (fun r4 M3 => ?_)
    refine v_istore (lo' := fun y5 => [(4, .int y5), (0, .ref (G.2.2.2.2 0)), (2, .int x2), (3, .int x3)]) 97 hF dX5_homeDrawn_95 rfl (by decide) (fun _ => rfl) (fun y5 => ?_)
    refine v_aload_n 1 98 hF dX5_homeDrawn_97 rfl rfl rfl ?_
    refine v_callV ([]) ([]) 101 hF dX5_homeDrawn_98 rfl cw_X5_291 rfl (hs.1) (c_X5_laysBack (G := G) hs M3) ⟨rfl, rfl, Nat.le_of_ble_eq_true rfl, Nat.le_of_ble_eq_true rfl⟩ rfl rfl (Nat.le_of_ble_eq_true rfl) (fun _ M6 => ?_)
    refine v_iload 0 103 hF dX5_homeDrawn_101 rfl rfl ?_
    exact v_iret hF dX5_homeDrawn_103
  · refine v_iload_n 2 16 hF dX5_homeDrawn_15 rfl rfl rfl ?_
    refine v_ldcw (1103515245) 19 hF dX5_homeDrawn_16 rfl cc_X5_330 ?_
    refine v_imul 20 hF dX5_homeDrawn_19 rfl ?_
    refine v_sipush (12345) 23 hF dX5_homeDrawn_20 rfl (by decide) ?_
    refine v_iadd 24 hF dX5_homeDrawn_23 rfl ?_
    refine v_istore_n (lo' := fun y7 => [(3, .int y7), (0, .ref (G.2.2.2.2 0)), (2, .int x2), (4, .int x4)]) 25 hF dX5_homeDrawn_24 rfl rfl (by decide) (fun _ => rfl) (fun y7 => ?_)
    refine v_iload_n 0 26 hF dX5_homeDrawn_25 rfl rfl rfl ?_
    refine v_bipush (9) 28 hF dX5_homeDrawn_26 rfl (by decide) ?_
    refine v_iushr 29 hF dX5_homeDrawn_28 rfl ?_
    refine v_bipush (8) 31 hF dX5_homeDrawn_29 rfl (by decide) ?_
    refine v_irem 32 hF dX5_homeDrawn_31 rfl ?_
    refine v_istore (lo' := fun y8 => [(5, .int y8), (3, .int y7), (0, .ref (G.2.2.2.2 0)), (2, .int x2), (4, .int x4)]) 34 hF dX5_homeDrawn_32 rfl (by decide) (fun _ => rfl) (fun y8 => ?_)
    refine v_iload_n 1 35 hF dX5_homeDrawn_34 rfl rfl rfl ?_
    refine v_ldcw (1103515245) 38 hF dX5_homeDrawn_35 rfl cc_X5_330 ?_
    refine v_imul 39 hF dX5_homeDrawn_38 rfl ?_
    refine v_sipush (12345) 42 hF dX5_homeDrawn_39 rfl (by decide) ?_
    refine v_iadd 43 hF dX5_homeDrawn_42 rfl ?_
    refine v_istore_n (lo' := fun y9 => [(3, .int y9), (5, .int y8), (0, .ref (G.2.2.2.2 0)), (2, .int x2), (4, .int x4)]) 44 hF dX5_homeDrawn_43 rfl rfl (by decide) (fun _ => rfl) (fun y9 => ?_)
    refine v_iload_n 0 45 hF dX5_homeDrawn_44 rfl rfl rfl ?_
    refine v_bipush (9) 47 hF dX5_homeDrawn_45 rfl (by decide) ?_
    refine v_iushr 48 hF dX5_homeDrawn_47 rfl ?_
    refine v_bipush (8) 50 hF dX5_homeDrawn_48 rfl (by decide) ?_
    refine v_irem 51 hF dX5_homeDrawn_50 rfl ?_
    refine v_istore (lo' := fun y10 => [(6, .int y10), (3, .int y9), (5, .int y8), (0, .ref (G.2.2.2.2 0)), (2, .int x2), (4, .int x4)]) 53 hF dX5_homeDrawn_51 rfl (by decide) (fun _ => rfl) (fun y10 => ?_)
    refine v_aload_n 3 54 hF dX5_homeDrawn_53 rfl rfl rfl ?_
    refine v_iload 2 56 hF dX5_homeDrawn_54 rfl rfl ?_
    refine v_iload 0 58 hF dX5_homeDrawn_56 rfl rfl ?_
    refine v_callI ([.int y8, .int y10]) ([]) 61 hF dX5_homeDrawn_58 rfl cw_X5_123 rfl (hs.1) (c_X5_areTwo (G := G) hs M y8 y10) ⟨rfl, rfl, Nat.le_of_ble_eq_true rfl, Nat.le_of_ble_eq_true rfl⟩ rfl rfl (Nat.le_of_ble_eq_true rfl) (fun r12 M11 => ?_)
    refine v_if_eq 64 81 hF dX5_homeDrawn_61 rfl (by decide) (fun _ => ?_) (fun _ => ?_)
    · refine VR.pick [3, 4, 1, 5] rfl ?_
      exact v_X5_homeDrawn_J81 hF hs _ h9 x2 y9 x4 M11
    · refine v_aload_n 3 65 hF dX5_homeDrawn_64 rfl rfl rfl ?_
      refine v_getI 68 hF dX5_homeDrawn_65 rfl fl_X5_80 hs.1 rfl ?_
      refine v_bipush (8) 70 hF dX5_homeDrawn_68 rfl (by decide) ?_
      refine v_icmp_ge 73 81 hF dX5_homeDrawn_70 rfl (by decide) (fun _ => ?_) (fun _ => ?_)
      · refine VR.pick [3, 4, 1, 5] rfl ?_
        exact v_X5_homeDrawn_J81 hF hs _ h9 x2 y9 x4 M11
      · refine v_aload_n 3 74 hF dX5_homeDrawn_73 rfl rfl rfl ?_
        refine v_iload 2 76 hF dX5_homeDrawn_74 rfl rfl ?_
        refine v_iload 0 78 hF dX5_homeDrawn_76 rfl rfl ?_
        refine v_callV ([.int y8, .int y10]) ([]) 81 hF dX5_homeDrawn_78 rfl cw_X5_268 rfl (hs.1) (c_X5_sends (G := G) hs M11 y8 y10) ⟨rfl, rfl, Nat.le_of_ble_eq_true rfl, Nat.le_of_ble_eq_true rfl⟩ rfl rfl (Nat.le_of_ble_eq_true rfl) (fun _ M13 => ?_)
        refine VR.pick [3, 4, 1, 5] rfl ?_
        exact v_X5_homeDrawn_J81 hF hs _ h9 x2 y9 x4 M13
theorem v_X5_homeDrawn_L9 {X : Cx} {G : Gx} {sh : List Sh} (hF : FX X G sh 7 cX5_homeDrawn (yX5_homeDrawn).cls (some .int) rmX5_homeDrawn) (hs : ModAt sh) : ∀ (n : Nat), ∀ (x2 : Int32) (x3 : Int32) (x4 : Int32) (M : Mm), VR X G sh 7 rvI M 9 [(0, .ref (G.2.2.2.2 0)), (2, .int x2), (3, .int x3), (4, .int x4)] [] (m_X5_homeDrawn_L9  n x2 x3 x4 M) := by
  intro n
  induction n with
  | zero => intro x2 x3 x4 M; exact VR.none
  | succ n ih => exact v_X5_homeDrawn_B9 hF hs _ ih
set_option maxRecDepth 100000 in
set_option maxHeartbeats 4000000 in
theorem c_X5_homeDrawn {G : Gx} {sh : List Sh} (hs : ModAt sh) (M : Mm) (x1 : Int32) (x2 : Int32) : CT yX5_homeDrawn cX5_homeDrawn 7 (some .int) rmX5_homeDrawn G sh [.ref (G.2.2.2.2 0), .int x1, .int x2] rvI M (m_X5_homeDrawn  x1 x2 M) := by
  refine CT.of (by decide +kernel) (Nat.le_of_ble_eq_true rfl) (fun X hF => ?_)
  show VR X G sh 7 rvI M 0 [(0, .ref (G.2.2.2.2 0)), (1, .int x1), (2, .int x2)] [] _
  unfold m_X5_homeDrawn
  refine v_aload_n 0 1 hF dX5_homeDrawn_0 rfl rfl rfl ?_
  refine v_callV ([]) ([]) 4 hF dX5_homeDrawn_1 rfl cw_X5_282 rfl (hs.1) (c_X5_laysAside (G := G) hs M) ⟨rfl, rfl, Nat.le_of_ble_eq_true rfl, Nat.le_of_ble_eq_true rfl⟩ rfl rfl (Nat.le_of_ble_eq_true rfl) (fun _ M14 => ?_)
  refine v_iload_n 1 5 hF dX5_homeDrawn_4 rfl rfl rfl ?_
  refine v_istore_n (lo' := fun y15 => [(3, .int y15), (0, .ref (G.2.2.2.2 0)), (1, .int x1), (2, .int x2)]) 6 hF dX5_homeDrawn_5 rfl rfl (by decide) (fun _ => rfl) (fun y15 => ?_)
  refine v_iconst (0) 7 hF dX5_homeDrawn_6 rfl (by decide) ?_
  refine v_istore (lo' := fun y16 => [(4, .int y16), (3, .int y15), (0, .ref (G.2.2.2.2 0)), (1, .int x1), (2, .int x2)]) 9 hF dX5_homeDrawn_7 rfl (by decide) (fun _ => rfl) (fun y16 => ?_)
  refine VR.pick [2, 4, 1, 0] rfl ?_
  exact v_X5_homeDrawn_L9 hF hs FU x2 y15 y16 M14
abbrev rmX5_drawn : Room := { frames := 71, cells := 0, slots := 0, locals := 3140 }
def m_X5_drawn (x1 : Int32) (x2 : Int32) (M : Mm) : Option (Int32 × Mm) := bd (m_X5_in (((x2).toInt64)) ((0 : Int64)) ((40 : Int64)) M) fun r2 M1 => if r2 = 0 then (some ((-2 : Int32), M1)) else (bd (m_X5_homeDrawn x1 x2 M1) fun r4 M3 => some (r4, M3))
set_option maxRecDepth 100000 in
set_option maxHeartbeats 4000000 in
theorem c_X5_drawn {G : Gx} {sh : List Sh} (hs : ModAt sh) (M : Mm) (x1 : Int32) (x2 : Int32) : CT yX5_drawn cX5_drawn 3 (some .int) rmX5_drawn G sh [.ref (G.2.2.2.2 0), .int x1, .int x2] rvI M (m_X5_drawn  x1 x2 M) := by
  refine CT.of (by decide +kernel) (Nat.le_of_ble_eq_true rfl) (fun X hF => ?_)
  show VR X G sh 3 rvI M 0 [(0, .ref (G.2.2.2.2 0)), (1, .int x1), (2, .int x2)] [] _
  unfold m_X5_drawn
  refine v_iload_n 2 1 hF dX5_drawn_0 rfl rfl rfl ?_
  refine v_i2l 2 hF dX5_drawn_1 rfl ?_
  refine v_lconst 0 3 hF dX5_drawn_2 rfl (by decide) ?_
  refine v_ldc2 (40) 6 hF dX5_drawn_3 rfl cc_X5_294 ?_
  refine v_staI ([.long (((x2).toInt64)), .long ((0 : Int64)), .long ((40 : Int64))]) ([]) 9 hF dX5_drawn_6 rfl cw_X5_76 (c_X5_in (G := G) (sh := sh) M (((x2).toInt64)) ((0 : Int64)) ((40 : Int64))) ⟨rfl, rfl, Nat.le_of_ble_eq_true rfl, Nat.le_of_ble_eq_true rfl⟩ rfl rfl (Nat.le_of_ble_eq_true rfl) (fun r2 M1 => ?_)
  refine v_if_eq 12 21 hF dX5_drawn_9 rfl (by decide) (fun _ => ?_) (fun _ => ?_)
  · refine v_bipush (-2) 23 hF dX5_drawn_21 rfl (by decide) ?_
    exact v_iret hF dX5_drawn_23
  · refine v_aload_n 0 13 hF dX5_drawn_12 rfl rfl rfl ?_
    refine v_iload_n 1 14 hF dX5_drawn_13 rfl rfl rfl ?_
    refine v_iload_n 2 15 hF dX5_drawn_14 rfl rfl rfl ?_
    refine v_callI ([.int x1, .int x2]) ([]) 18 hF dX5_drawn_15 rfl cw_X5_331 rfl (hs.1) (c_X5_homeDrawn (G := G) hs M1 x1 x2) ⟨rfl, rfl, Nat.le_of_ble_eq_true rfl, Nat.le_of_ble_eq_true rfl⟩ rfl rfl (Nat.le_of_ble_eq_true rfl) (fun r4 M3 => ?_)
    refine v_goto 23 hF dX5_drawn_18 (by decide) ?_
    exact v_iret hF dX5_drawn_23
