abbrev rmX3_changeNumber : Room := { frames := 1, cells := 0, slots := 0, locals := 21 }
def m_X3_changeNumber (v : Nat) (x1 : Int32) (x2 : Int32) (M : Mm) : Option (Unit × Mm) := bd (m_X3_isOne v x1 M) fun r2 M1 => if r2 = 0 then (some ((), M1)) else (gd (inr x1 5) (lt1 (up M1 (v + 2) x1.toNatClampNeg x2) fun M3 => some ((), M3)))
set_option maxRecDepth 100000 in
set_option maxHeartbeats 4000000 in
theorem c_X3_changeNumber {G : Gx} {sh : List Sh} {v : Nat} (hT : TexAt sh) (hv : VilAt sh v) (M : Mm) (x1 : Int32) (x2 : Int32) : CT yX3_changeNumber cX3_changeNumber 3 none rmX3_changeNumber G sh [.ref (G.2.2.2.2 v), .int x1, .int x2] rvV M (m_X3_changeNumber v x1 x2 M) := by
  refine CT.of (by decide +kernel) (Nat.le_of_ble_eq_true rfl) (fun X hF => ?_)
  show VR X G sh 3 rvV M 0 [(0, .ref (G.2.2.2.2 v)), (1, .int x1), (2, .int x2)] [] _
  unfold m_X3_changeNumber
  refine v_aload_n 0 1 hF dX3_changeNumber_0 rfl rfl rfl ?_
  refine v_iload_n 1 2 hF dX3_changeNumber_1 rfl rfl rfl ?_
  refine v_callI ([.int x1]) ([]) 5 hF dX3_changeNumber_2 rfl cw_X3_59 rfl (hv.1) (c_X3_isOne (G := G) hT hv M x1) ⟨rfl, rfl, Nat.le_of_ble_eq_true rfl, Nat.le_of_ble_eq_true rfl⟩ rfl rfl (Nat.le_of_ble_eq_true rfl) (fun r2 M1 => ?_)
  refine v_if_eq 8 15 hF dX3_changeNumber_5 rfl (by decide) (fun _ => ?_) (fun _ => ?_)
  · exact v_vret hF dX3_changeNumber_15
  · refine v_aload_n 0 9 hF dX3_changeNumber_8 rfl rfl rfl ?_
    refine v_getR (b := v + 2) 12 hF dX3_changeNumber_9 rfl fl_X3_19 hv.1 rfl ?_
    refine v_iload_n 1 13 hF dX3_changeNumber_12 rfl rfl rfl ?_
    refine v_iload_n 2 14 hF dX3_changeNumber_13 rfl rfl rfl ?_
    refine v_iast 15 hF dX3_changeNumber_14 rfl (hv.2.2.1) (fun M3 => ?_)
    exact v_vret hF dX3_changeNumber_15
abbrev rmX3_changeTone : Room := { frames := 1, cells := 0, slots := 0, locals := 21 }
def m_X3_changeTone (v : Nat) (x1 : Int32) (x2 : Int32) (M : Mm) : Option (Unit × Mm) := bd (m_X3_isLetter v x1 M) fun r2 M1 => if r2 = 0 then (some ((), M1)) else (gd (inr x1 8) (lt1 (up M1 (v + 7) x1.toNatClampNeg x2) fun M3 => some ((), M3)))
set_option maxRecDepth 100000 in
set_option maxHeartbeats 4000000 in
theorem c_X3_changeTone {G : Gx} {sh : List Sh} {v : Nat} (hT : TexAt sh) (hv : VilAt sh v) (M : Mm) (x1 : Int32) (x2 : Int32) : CT yX3_changeTone cX3_changeTone 3 none rmX3_changeTone G sh [.ref (G.2.2.2.2 v), .int x1, .int x2] rvV M (m_X3_changeTone v x1 x2 M) := by
  refine CT.of (by decide +kernel) (Nat.le_of_ble_eq_true rfl) (fun X hF => ?_)
  show VR X G sh 3 rvV M 0 [(0, .ref (G.2.2.2.2 v)), (1, .int x1), (2, .int x2)] [] _
  unfold m_X3_changeTone
  refine v_aload_n 0 1 hF dX3_changeTone_0 rfl rfl rfl ?_
  refine v_iload_n 1 2 hF dX3_changeTone_1 rfl rfl rfl ?_
  refine v_callI ([.int x1]) ([]) 5 hF dX3_changeTone_2 rfl cw_X3_63 rfl (hv.1) (c_X3_isLetter (G := G) hT hv M x1) ⟨rfl, rfl, Nat.le_of_ble_eq_true rfl, Nat.le_of_ble_eq_true rfl⟩ rfl rfl (Nat.le_of_ble_eq_true rfl) (fun r2 M1 => ?_)
  refine v_if_eq 8 15 hF dX3_changeTone_5 rfl (by decide) (fun _ => ?_) (fun _ => ?_)
  · exact v_vret hF dX3_changeTone_15
  · refine v_aload_n 0 9 hF dX3_changeTone_8 rfl rfl rfl ?_
    refine v_getR (b := v + 7) 12 hF dX3_changeTone_9 rfl fl_X3_34 hv.1 rfl ?_
    refine v_iload_n 1 13 hF dX3_changeTone_12 rfl rfl rfl ?_
    refine v_iload_n 2 14 hF dX3_changeTone_13 rfl rfl rfl ?_
    refine v_iast 15 hF dX3_changeTone_14 rfl (hv.2.2.2.2.2.2.2.1) (fun M3 => ?_)
    exact v_vret hF dX3_changeTone_15
abbrev rmX3_moveTo : Room := { frames := 1, cells := 0, slots := 0, locals := 21 }
def m_X3_moveTo (v : Nat) (x1 : Int32) (x2 : Int32) (M : Mm) : Option (Unit × Mm) := bd (m_X3_isOne v x1 M) fun r2 M1 => if r2 = 0 then (some ((), M1)) else (gd (inr x1 5) (lt1 (up M1 (v + 3) x1.toNatClampNeg x2) fun M3 => some ((), M3)))
set_option maxRecDepth 100000 in
set_option maxHeartbeats 4000000 in
theorem c_X3_moveTo {G : Gx} {sh : List Sh} {v : Nat} (hT : TexAt sh) (hv : VilAt sh v) (M : Mm) (x1 : Int32) (x2 : Int32) : CT yX3_moveTo cX3_moveTo 3 none rmX3_moveTo G sh [.ref (G.2.2.2.2 v), .int x1, .int x2] rvV M (m_X3_moveTo v x1 x2 M) := by
  refine CT.of (by decide +kernel) (Nat.le_of_ble_eq_true rfl) (fun X hF => ?_)
  show VR X G sh 3 rvV M 0 [(0, .ref (G.2.2.2.2 v)), (1, .int x1), (2, .int x2)] [] _
  unfold m_X3_moveTo
  refine v_aload_n 0 1 hF dX3_moveTo_0 rfl rfl rfl ?_
  refine v_iload_n 1 2 hF dX3_moveTo_1 rfl rfl rfl ?_
  refine v_callI ([.int x1]) ([]) 5 hF dX3_moveTo_2 rfl cw_X3_59 rfl (hv.1) (c_X3_isOne (G := G) hT hv M x1) ⟨rfl, rfl, Nat.le_of_ble_eq_true rfl, Nat.le_of_ble_eq_true rfl⟩ rfl rfl (Nat.le_of_ble_eq_true rfl) (fun r2 M1 => ?_)
  refine v_if_eq 8 15 hF dX3_moveTo_5 rfl (by decide) (fun _ => ?_) (fun _ => ?_)
  · exact v_vret hF dX3_moveTo_15
  · refine v_aload_n 0 9 hF dX3_moveTo_8 rfl rfl rfl ?_
    refine v_getR (b := v + 3) 12 hF dX3_moveTo_9 rfl fl_X3_22 hv.1 rfl ?_
    refine v_iload_n 1 13 hF dX3_moveTo_12 rfl rfl rfl ?_
    refine v_iload_n 2 14 hF dX3_moveTo_13 rfl rfl rfl ?_
    refine v_iast 15 hF dX3_moveTo_14 rfl (hv.2.2.2.1) (fun M3 => ?_)
    exact v_vret hF dX3_moveTo_15
abbrev rmX3_livesIn : Room := { frames := 0, cells := 0, slots := 0, locals := 0 }
def m_X3_livesIn_B2 (v : Nat) (n2 : Int32 → Int32 → Mm → Option (Int32 × Mm)) (x1 : Int32) (x2 : Int32) (M : Mm) : Option (Int32 × Mm) := if (M v 4) ≤ x2 then (some ((-1 : Int32), M)) else (if (5 : Int32) ≤ x2 then (some ((-1 : Int32), M)) else (gd (inr x2 5) (if (M (v + 3) x2.toNatClampNeg) = x1 then (some (x2, M)) else (lt1 (x2 + 1) fun y1 => n2 x1 y1 M))))
def m_X3_livesIn_L2 (v : Nat) : Nat → Int32 → Int32 → Mm → Option (Int32 × Mm)
  | 0 => fun _ _ _ => none
  | n + 1 => m_X3_livesIn_B2 v (m_X3_livesIn_L2 v n)
def m_X3_livesIn (v : Nat) (x1 : Int32) (M : Mm) : Option (Int32 × Mm) := lt1 ((0 : Int32)) fun y2 => m_X3_livesIn_L2 v FU x1 y2 M
set_option maxRecDepth 100000 in
set_option maxHeartbeats 4000000 in
theorem v_X3_livesIn_B2 {X : Cx} {G : Gx} {sh : List Sh} (hF : FX X G sh 3 cX3_livesIn (yX3_livesIn).cls (some .int) rmX3_livesIn) {v : Nat} (hT : TexAt sh) (hv : VilAt sh v) (n2 : Int32 → Int32 → Mm → Option (Int32 × Mm)) (h2 : ∀ (x1 : Int32) (x2 : Int32) (M : Mm), VR X G sh 3 rvI M 2 [(0, .ref (G.2.2.2.2 v)), (1, .int x1), (2, .int x2)] [] (n2 x1 x2 M)) : ∀ (x1 : Int32) (x2 : Int32) (M : Mm), VR X G sh 3 rvI M 2 [(0, .ref (G.2.2.2.2 v)), (1, .int x1), (2, .int x2)] [] (m_X3_livesIn_B2 v n2 x1 x2 M) := by
  intro x1 x2 M
  unfold m_X3_livesIn_B2
  refine v_iload_n 2 3 hF dX3_livesIn_2 rfl rfl rfl ?_
  refine v_aload_n 0 4 hF dX3_livesIn_3 rfl rfl rfl ?_
  refine v_getI 7 hF dX3_livesIn_4 rfl fl_X3_50 hv.1 rfl ?_
  refine v_icmp_ge 10 33 hF dX3_livesIn_7 rfl (by decide) (fun _ => ?_) (fun _ => ?_)
  · refine v_iconst (-1) 34 hF dX3_livesIn_33 rfl (by decide) ?_
    exact v_iret hF dX3_livesIn_34
  · refine v_iload_n 2 11 hF dX3_livesIn_10 rfl rfl rfl ?_
    refine v_iconst (5) 12 hF dX3_livesIn_11 rfl (by decide) ?_
    refine v_icmp_ge 15 33 hF dX3_livesIn_12 rfl (by decide) (fun _ => ?_) (fun _ => ?_)
    · refine v_iconst (-1) 34 hF dX3_livesIn_33 rfl (by decide) ?_
      exact v_iret hF dX3_livesIn_34
    · refine v_aload_n 0 16 hF dX3_livesIn_15 rfl rfl rfl ?_
      refine v_getR (b := v + 3) 19 hF dX3_livesIn_16 rfl fl_X3_22 hv.1 rfl ?_
      refine v_iload_n 2 20 hF dX3_livesIn_19 rfl rfl rfl ?_
      refine v_iald 21 hF dX3_livesIn_20 rfl (hv.2.2.2.1) ?_
      refine v_iload_n 1 22 hF dX3_livesIn_21 rfl rfl rfl ?_
      refine v_icmp_ne 25 27 hF dX3_livesIn_22 rfl (by decide) (fun _ => ?_) (fun _ => ?_)
      · refine v_iinc (v := (x2 + 1)) (lo' := fun y1 => [(2, .int y1), (0, .ref (G.2.2.2.2 v)), (1, .int x1)]) 2 30 hF dX3_livesIn_27 rfl rfl rfl (by decide) (fun _ => rfl) (fun y1 => ?_)
        refine v_goto 2 hF dX3_livesIn_30 (by decide) ?_
        refine VR.pick [1, 2, 0] rfl ?_
        exact h2 x1 y1 M
      · refine v_iload_n 2 26 hF dX3_livesIn_25 rfl rfl rfl ?_
        exact v_iret hF dX3_livesIn_26
theorem v_X3_livesIn_L2 {X : Cx} {G : Gx} {sh : List Sh} (hF : FX X G sh 3 cX3_livesIn (yX3_livesIn).cls (some .int) rmX3_livesIn) {v : Nat} (hT : TexAt sh) (hv : VilAt sh v) : ∀ (n : Nat), ∀ (x1 : Int32) (x2 : Int32) (M : Mm), VR X G sh 3 rvI M 2 [(0, .ref (G.2.2.2.2 v)), (1, .int x1), (2, .int x2)] [] (m_X3_livesIn_L2 v n x1 x2 M) := by
  intro n
  induction n with
  | zero => intro x1 x2 M; exact VR.none
  | succ n ih => exact v_X3_livesIn_B2 hF hT hv _ ih
set_option maxRecDepth 100000 in
set_option maxHeartbeats 4000000 in
theorem c_X3_livesIn {G : Gx} {sh : List Sh} {v : Nat} (hT : TexAt sh) (hv : VilAt sh v) (M : Mm) (x1 : Int32) : CT yX3_livesIn cX3_livesIn 3 (some .int) rmX3_livesIn G sh [.ref (G.2.2.2.2 v), .int x1] rvI M (m_X3_livesIn v x1 M) := by
  refine CT.of (by decide +kernel) (Nat.le_of_ble_eq_true rfl) (fun X hF => ?_)
  show VR X G sh 3 rvI M 0 [(0, .ref (G.2.2.2.2 v)), (1, .int x1)] [] _
  unfold m_X3_livesIn
  refine v_iconst (0) 1 hF dX3_livesIn_0 rfl (by decide) ?_
  refine v_istore_n (lo' := fun y2 => [(2, .int y2), (0, .ref (G.2.2.2.2 v)), (1, .int x1)]) 2 hF dX3_livesIn_1 rfl rfl (by decide) (fun _ => rfl) (fun y2 => ?_)
  refine VR.pick [1, 2, 0] rfl ?_
  exact v_X3_livesIn_L2 hF hT hv FU x1 y2 M
abbrev rmX3_known : Room := { frames := 0, cells := 0, slots := 0, locals := 0 }
def m_X3_known_J37 (v : Nat) (n4 : Int32 → Int32 → Int32 → Mm → Option (Int32 × Mm)) (x1 : Int32) (x2 : Int32) (x3 : Int32) (M : Mm) : Option (Int32 × Mm) := lt1 (x3 + 1) fun y1 => n4 x1 x2 y1 M
def m_X3_known_B4 (v : Nat) (n4 : Int32 → Int32 → Int32 → Mm → Option (Int32 × Mm)) (x1 : Int32) (x2 : Int32) (x3 : Int32) (M : Mm) : Option (Int32 × Mm) := if (M v 5) ≤ x3 then (some (x2, M)) else (if (8 : Int32) ≤ x3 then (some (x2, M)) else (gd (inr x3 8) (if ((shr ((M (v + 8) x3.toNatClampNeg)) x1) &&& (1 : Int32)) = 0 then (m_X3_known_J37 v n4 x1 x2 x3 M) else (lt1 ((x2 ||| (shl ((1 : Int32)) x3))) fun y2 => m_X3_known_J37 v n4 x1 y2 x3 M))))
def m_X3_known_L4 (v : Nat) : Nat → Int32 → Int32 → Int32 → Mm → Option (Int32 × Mm)
  | 0 => fun _ _ _ _ => none
  | n + 1 => m_X3_known_B4 v (m_X3_known_L4 v n)
def m_X3_known (v : Nat) (x1 : Int32) (M : Mm) : Option (Int32 × Mm) := lt1 ((0 : Int32)) fun y3 => lt1 ((0 : Int32)) fun y4 => m_X3_known_L4 v FU x1 y3 y4 M
set_option maxRecDepth 100000 in
set_option maxHeartbeats 4000000 in
theorem v_X3_known_J37 {X : Cx} {G : Gx} {sh : List Sh} (hF : FX X G sh 4 cX3_known (yX3_known).cls (some .int) rmX3_known) {v : Nat} (hT : TexAt sh) (hv : VilAt sh v) (n4 : Int32 → Int32 → Int32 → Mm → Option (Int32 × Mm)) (h4 : ∀ (x1 : Int32) (x2 : Int32) (x3 : Int32) (M : Mm), VR X G sh 4 rvI M 4 [(0, .ref (G.2.2.2.2 v)), (1, .int x1), (2, .int x2), (3, .int x3)] [] (n4 x1 x2 x3 M)) : ∀ (x1 : Int32) (x2 : Int32) (x3 : Int32) (M : Mm), VR X G sh 4 rvI M 37 [(0, .ref (G.2.2.2.2 v)), (1, .int x1), (2, .int x2), (3, .int x3)] [] (m_X3_known_J37 v n4 x1 x2 x3 M) := by
  intro x1 x2 x3 M
  unfold m_X3_known_J37
  refine v_iinc (v := (x3 + 1)) (lo' := fun y1 => [(3, .int y1), (0, .ref (G.2.2.2.2 v)), (1, .int x1), (2, .int x2)]) 3 40 hF dX3_known_37 rfl rfl rfl (by decide) (fun _ => rfl) (fun y1 => ?_)
  refine v_goto 4 hF dX3_known_40 (by decide) ?_
  refine VR.pick [1, 2, 3, 0] rfl ?_
  exact h4 x1 x2 y1 M
set_option maxRecDepth 100000 in
set_option maxHeartbeats 4000000 in
theorem v_X3_known_B4 {X : Cx} {G : Gx} {sh : List Sh} (hF : FX X G sh 4 cX3_known (yX3_known).cls (some .int) rmX3_known) {v : Nat} (hT : TexAt sh) (hv : VilAt sh v) (n4 : Int32 → Int32 → Int32 → Mm → Option (Int32 × Mm)) (h4 : ∀ (x1 : Int32) (x2 : Int32) (x3 : Int32) (M : Mm), VR X G sh 4 rvI M 4 [(0, .ref (G.2.2.2.2 v)), (1, .int x1), (2, .int x2), (3, .int x3)] [] (n4 x1 x2 x3 M)) : ∀ (x1 : Int32) (x2 : Int32) (x3 : Int32) (M : Mm), VR X G sh 4 rvI M 4 [(0, .ref (G.2.2.2.2 v)), (1, .int x1), (2, .int x2), (3, .int x3)] [] (m_X3_known_B4 v n4 x1 x2 x3 M) := by
  intro x1 x2 x3 M
  unfold m_X3_known_B4
  refine v_iload_n 3 5 hF dX3_known_4 rfl rfl rfl ?_
  refine v_aload_n 0 6 hF dX3_known_5 rfl rfl rfl ?_
  refine v_getI 9 hF dX3_known_6 rfl fl_X3_53 hv.1 rfl ?_
  refine v_icmp_ge 12 43 hF dX3_known_9 rfl (by decide) (fun _ => ?_) (fun _ => ?_)
  · refine v_iload_n 2 44 hF dX3_known_43 rfl rfl rfl ?_
    exact v_iret hF dX3_known_44
  · refine v_iload_n 3 13 hF dX3_known_12 rfl rfl rfl ?_
    refine v_bipush (8) 15 hF dX3_known_13 rfl (by decide) ?_
    refine v_icmp_ge 18 43 hF dX3_known_15 rfl (by decide) (fun _ => ?_) (fun _ => ?_)
    · refine v_iload_n 2 44 hF dX3_known_43 rfl rfl rfl ?_
      exact v_iret hF dX3_known_44
    · refine v_aload_n 0 19 hF dX3_known_18 rfl rfl rfl ?_
      refine v_getR (b := v + 8) 22 hF dX3_known_19 rfl fl_X3_37 hv.1 rfl ?_
      refine v_iload_n 3 23 hF dX3_known_22 rfl rfl rfl ?_
      refine v_iald 24 hF dX3_known_23 rfl (hv.2.2.2.2.2.2.2.2) ?_
      refine v_iload_n 1 25 hF dX3_known_24 rfl rfl rfl ?_
      refine v_ishr 26 hF dX3_known_25 rfl ?_
      refine v_iconst (1) 27 hF dX3_known_26 rfl (by decide) ?_
      refine v_iand 28 hF dX3_known_27 rfl ?_
      refine v_if_eq 31 37 hF dX3_known_28 rfl (by decide) (fun _ => ?_) (fun _ => ?_)
      · refine VR.pick [0, 1, 2, 3] rfl ?_
        exact v_X3_known_J37 hF hT hv _ h4 x1 x2 x3 M
      · refine v_iload_n 2 32 hF dX3_known_31 rfl rfl rfl ?_
        refine v_iconst (1) 33 hF dX3_known_32 rfl (by decide) ?_
        refine v_iload_n 3 34 hF dX3_known_33 rfl rfl rfl ?_
        refine v_ishl 35 hF dX3_known_34 rfl ?_
        refine v_ior 36 hF dX3_known_35 rfl ?_
        refine v_istore_n (lo' := fun y2 => [(2, .int y2), (0, .ref (G.2.2.2.2 v)), (1, .int x1), (3, .int x3)]) 37 hF dX3_known_36 rfl rfl (by decide) (fun _ => rfl) (fun y2 => ?_)
        refine VR.pick [1, 2, 0, 3] rfl ?_
        exact v_X3_known_J37 hF hT hv _ h4 x1 y2 x3 M
theorem v_X3_known_L4 {X : Cx} {G : Gx} {sh : List Sh} (hF : FX X G sh 4 cX3_known (yX3_known).cls (some .int) rmX3_known) {v : Nat} (hT : TexAt sh) (hv : VilAt sh v) : ∀ (n : Nat), ∀ (x1 : Int32) (x2 : Int32) (x3 : Int32) (M : Mm), VR X G sh 4 rvI M 4 [(0, .ref (G.2.2.2.2 v)), (1, .int x1), (2, .int x2), (3, .int x3)] [] (m_X3_known_L4 v n x1 x2 x3 M) := by
  intro n
  induction n with
  | zero => intro x1 x2 x3 M; exact VR.none
  | succ n ih => exact v_X3_known_B4 hF hT hv _ ih
set_option maxRecDepth 100000 in
set_option maxHeartbeats 4000000 in
theorem c_X3_known {G : Gx} {sh : List Sh} {v : Nat} (hT : TexAt sh) (hv : VilAt sh v) (M : Mm) (x1 : Int32) : CT yX3_known cX3_known 4 (some .int) rmX3_known G sh [.ref (G.2.2.2.2 v), .int x1] rvI M (m_X3_known v x1 M) := by
  refine CT.of (by decide +kernel) (Nat.le_of_ble_eq_true rfl) (fun X hF => ?_)
  show VR X G sh 4 rvI M 0 [(0, .ref (G.2.2.2.2 v)), (1, .int x1)] [] _
  unfold m_X3_known
  refine v_iconst (0) 1 hF dX3_known_0 rfl (by decide) ?_
  refine v_istore_n (lo' := fun y3 => [(2, .int y3), (0, .ref (G.2.2.2.2 v)), (1, .int x1)]) 2 hF dX3_known_1 rfl rfl (by decide) (fun _ => rfl) (fun y3 => ?_)
  refine v_iconst (0) 3 hF dX3_known_2 rfl (by decide) ?_
  refine v_istore_n (lo' := fun y4 => [(3, .int y4), (2, .int y3), (0, .ref (G.2.2.2.2 v)), (1, .int x1)]) 4 hF dX3_known_3 rfl rfl (by decide) (fun _ => rfl) (fun y4 => ?_)
  refine VR.pick [2, 3, 1, 0] rfl ?_
  exact v_X3_known_L4 hF hT hv FU x1 y3 y4 M
abbrev rmX3_homes : Room := { frames := 0, cells := 0, slots := 0, locals := 0 }
def m_X3_homes_J31 (v : Nat) (n4 : Int32 → Int32 → Mm → Option (Int32 × Mm)) (x1 : Int32) (x2 : Int32) (M : Mm) : Option (Int32 × Mm) := lt1 (x2 + 1) fun y1 => n4 x1 y1 M
def m_X3_homes_B4 (v : Nat) (n4 : Int32 → Int32 → Mm → Option (Int32 × Mm)) (x1 : Int32) (x2 : Int32) (M : Mm) : Option (Int32 × Mm) := if (M v 5) ≤ x2 then (some (x1, M)) else (if (8 : Int32) ≤ x2 then (some (x1, M)) else (gd (inr x2 8) (if (M (v + 6) x2.toNatClampNeg) = (-1 : Int32) then (lt1 (x1 + 1) fun y2 => m_X3_homes_J31 v n4 y2 x2 M) else (m_X3_homes_J31 v n4 x1 x2 M))))
def m_X3_homes_L4 (v : Nat) : Nat → Int32 → Int32 → Mm → Option (Int32 × Mm)
  | 0 => fun _ _ _ => none
  | n + 1 => m_X3_homes_B4 v (m_X3_homes_L4 v n)
def m_X3_homes (v : Nat)  (M : Mm) : Option (Int32 × Mm) := lt1 ((0 : Int32)) fun y3 => lt1 ((0 : Int32)) fun y4 => m_X3_homes_L4 v FU y3 y4 M
set_option maxRecDepth 100000 in
set_option maxHeartbeats 4000000 in
theorem v_X3_homes_J31 {X : Cx} {G : Gx} {sh : List Sh} (hF : FX X G sh 3 cX3_homes (yX3_homes).cls (some .int) rmX3_homes) {v : Nat} (hT : TexAt sh) (hv : VilAt sh v) (n4 : Int32 → Int32 → Mm → Option (Int32 × Mm)) (h4 : ∀ (x1 : Int32) (x2 : Int32) (M : Mm), VR X G sh 3 rvI M 4 [(0, .ref (G.2.2.2.2 v)), (1, .int x1), (2, .int x2)] [] (n4 x1 x2 M)) : ∀ (x1 : Int32) (x2 : Int32) (M : Mm), VR X G sh 3 rvI M 31 [(0, .ref (G.2.2.2.2 v)), (1, .int x1), (2, .int x2)] [] (m_X3_homes_J31 v n4 x1 x2 M) := by
  intro x1 x2 M
  unfold m_X3_homes_J31
  refine v_iinc (v := (x2 + 1)) (lo' := fun y1 => [(2, .int y1), (0, .ref (G.2.2.2.2 v)), (1, .int x1)]) 2 34 hF dX3_homes_31 rfl rfl rfl (by decide) (fun _ => rfl) (fun y1 => ?_)
  refine v_goto 4 hF dX3_homes_34 (by decide) ?_
  refine VR.pick [1, 2, 0] rfl ?_
  exact h4 x1 y1 M
set_option maxRecDepth 100000 in
set_option maxHeartbeats 4000000 in
theorem v_X3_homes_B4 {X : Cx} {G : Gx} {sh : List Sh} (hF : FX X G sh 3 cX3_homes (yX3_homes).cls (some .int) rmX3_homes) {v : Nat} (hT : TexAt sh) (hv : VilAt sh v) (n4 : Int32 → Int32 → Mm → Option (Int32 × Mm)) (h4 : ∀ (x1 : Int32) (x2 : Int32) (M : Mm), VR X G sh 3 rvI M 4 [(0, .ref (G.2.2.2.2 v)), (1, .int x1), (2, .int x2)] [] (n4 x1 x2 M)) : ∀ (x1 : Int32) (x2 : Int32) (M : Mm), VR X G sh 3 rvI M 4 [(0, .ref (G.2.2.2.2 v)), (1, .int x1), (2, .int x2)] [] (m_X3_homes_B4 v n4 x1 x2 M) := by
  intro x1 x2 M
  unfold m_X3_homes_B4
  refine v_iload_n 2 5 hF dX3_homes_4 rfl rfl rfl ?_
  refine v_aload_n 0 6 hF dX3_homes_5 rfl rfl rfl ?_
  refine v_getI 9 hF dX3_homes_6 rfl fl_X3_53 hv.1 rfl ?_
  refine v_icmp_ge 12 37 hF dX3_homes_9 rfl (by decide) (fun _ => ?_) (fun _ => ?_)
  · refine v_iload_n 1 38 hF dX3_homes_37 rfl rfl rfl ?_
    exact v_iret hF dX3_homes_38
  · refine v_iload_n 2 13 hF dX3_homes_12 rfl rfl rfl ?_
    refine v_bipush (8) 15 hF dX3_homes_13 rfl (by decide) ?_
    refine v_icmp_ge 18 37 hF dX3_homes_15 rfl (by decide) (fun _ => ?_) (fun _ => ?_)
    · refine v_iload_n 1 38 hF dX3_homes_37 rfl rfl rfl ?_
      exact v_iret hF dX3_homes_38
    · refine v_aload_n 0 19 hF dX3_homes_18 rfl rfl rfl ?_
      refine v_getR (b := v + 6) 22 hF dX3_homes_19 rfl fl_X3_31 hv.1 rfl ?_
      refine v_iload_n 2 23 hF dX3_homes_22 rfl rfl rfl ?_
      refine v_iald 24 hF dX3_homes_23 rfl (hv.2.2.2.2.2.2.1) ?_
      refine v_iconst (-1) 25 hF dX3_homes_24 rfl (by decide) ?_
      refine v_icmp_ne 28 31 hF dX3_homes_25 rfl (by decide) (fun _ => ?_) (fun _ => ?_)
      · refine VR.pick [0, 1, 2] rfl ?_
        exact v_X3_homes_J31 hF hT hv _ h4 x1 x2 M
      · refine v_iinc (v := (x1 + 1)) (lo' := fun y2 => [(1, .int y2), (0, .ref (G.2.2.2.2 v)), (2, .int x2)]) 1 31 hF dX3_homes_28 rfl rfl rfl (by decide) (fun _ => rfl) (fun y2 => ?_)
        refine VR.pick [1, 0, 2] rfl ?_
        exact v_X3_homes_J31 hF hT hv _ h4 y2 x2 M
theorem v_X3_homes_L4 {X : Cx} {G : Gx} {sh : List Sh} (hF : FX X G sh 3 cX3_homes (yX3_homes).cls (some .int) rmX3_homes) {v : Nat} (hT : TexAt sh) (hv : VilAt sh v) : ∀ (n : Nat), ∀ (x1 : Int32) (x2 : Int32) (M : Mm), VR X G sh 3 rvI M 4 [(0, .ref (G.2.2.2.2 v)), (1, .int x1), (2, .int x2)] [] (m_X3_homes_L4 v n x1 x2 M) := by
  intro n
  induction n with
  | zero => intro x1 x2 M; exact VR.none
  | succ n ih => exact v_X3_homes_B4 hF hT hv _ ih
set_option maxRecDepth 100000 in
set_option maxHeartbeats 4000000 in
theorem c_X3_homes {G : Gx} {sh : List Sh} {v : Nat} (hT : TexAt sh) (hv : VilAt sh v) (M : Mm)  : CT yX3_homes cX3_homes 3 (some .int) rmX3_homes G sh [.ref (G.2.2.2.2 v)] rvI M (m_X3_homes v  M) := by
  refine CT.of (by decide +kernel) (Nat.le_of_ble_eq_true rfl) (fun X hF => ?_)
  show VR X G sh 3 rvI M 0 [(0, .ref (G.2.2.2.2 v))] [] _
  unfold m_X3_homes
  refine v_iconst (0) 1 hF dX3_homes_0 rfl (by decide) ?_
  refine v_istore_n (lo' := fun y3 => [(1, .int y3), (0, .ref (G.2.2.2.2 v))]) 2 hF dX3_homes_1 rfl rfl (by decide) (fun _ => rfl) (fun y3 => ?_)
  refine v_iconst (0) 3 hF dX3_homes_2 rfl (by decide) ?_
  refine v_istore_n (lo' := fun y4 => [(2, .int y4), (1, .int y3), (0, .ref (G.2.2.2.2 v))]) 4 hF dX3_homes_3 rfl rfl (by decide) (fun _ => rfl) (fun y4 => ?_)
  refine VR.pick [2, 1, 0] rfl ?_
  exact v_X3_homes_L4 hF hT hv FU y3 y4 M
abbrev rmX3_comesToLive : Room := { frames := 0, cells := 0, slots := 0, locals := 0 }
def m_X3_comesToLive (v : Nat) (x1 : Int32) (x2 : Int32) (x3 : Int32) (M : Mm) : Option (Int32 × Mm) := lt1 ((M v 4)) fun y1 => if y1 < 0 then (some ((-4 : Int32), M)) else (if y1 < (5 : Int32) then (gd (inr y1 5) (lt1 (up M (v + 1) y1.toNatClampNeg x1) fun M2 => gd (inr y1 5) (lt1 (up M2 (v + 2) y1.toNatClampNeg x2) fun M3 => gd (inr y1 5) (lt1 (up M3 (v + 3) y1.toNatClampNeg x3) fun M4 => lt1 (up M4 v 4 (((M4 v 4) + (1 : Int32)))) fun M5 => some (y1, M5))))) else (some ((-4 : Int32), M)))
set_option maxRecDepth 100000 in
set_option maxHeartbeats 4000000 in
theorem c_X3_comesToLive {G : Gx} {sh : List Sh} {v : Nat} (hT : TexAt sh) (hv : VilAt sh v) (M : Mm) (x1 : Int32) (x2 : Int32) (x3 : Int32) : CT yX3_comesToLive cX3_comesToLive 5 (some .int) rmX3_comesToLive G sh [.ref (G.2.2.2.2 v), .int x1, .int x2, .int x3] rvI M (m_X3_comesToLive v x1 x2 x3 M) := by
  refine CT.of (by decide +kernel) (Nat.le_of_ble_eq_true rfl) (fun X hF => ?_)
  show VR X G sh 5 rvI M 0 [(0, .ref (G.2.2.2.2 v)), (1, .int x1), (2, .int x2), (3, .int x3)] [] _
  unfold m_X3_comesToLive
  refine v_aload_n 0 1 hF dX3_comesToLive_0 rfl rfl rfl ?_
  refine v_getI 4 hF dX3_comesToLive_1 rfl fl_X3_50 hv.1 rfl ?_
  refine v_istore (lo' := fun y1 => [(4, .int y1), (0, .ref (G.2.2.2.2 v)), (1, .int x1), (2, .int x2), (3, .int x3)]) 6 hF dX3_comesToLive_4 rfl (by decide) (fun _ => rfl) (fun y1 => ?_)
  refine v_iload 0 8 hF dX3_comesToLive_6 rfl rfl ?_
  refine v_if_lt 11 17 hF dX3_comesToLive_8 rfl (by decide) (fun _ => ?_) (fun _ => ?_)
  · refine v_bipush (-4) 19 hF dX3_comesToLive_17 rfl (by decide) ?_
    exact v_iret hF dX3_comesToLive_19
  · refine v_iload 0 13 hF dX3_comesToLive_11 rfl rfl ?_
    refine v_iconst (5) 14 hF dX3_comesToLive_13 rfl (by decide) ?_
    refine v_icmp_lt 17 20 hF dX3_comesToLive_14 rfl (by decide) (fun _ => ?_) (fun _ => ?_)
    · refine v_aload_n 1 21 hF dX3_comesToLive_20 rfl rfl rfl ?_
      refine v_getR (b := v + 1) 24 hF dX3_comesToLive_21 rfl fl_X3_15 hv.1 rfl ?_
      refine v_iload 0 26 hF dX3_comesToLive_24 rfl rfl ?_
      refine v_iload_n 2 27 hF dX3_comesToLive_26 rfl rfl rfl ?_
      refine v_iast 28 hF dX3_comesToLive_27 rfl (hv.2.1) (fun M2 => ?_)
      refine v_aload_n 1 29 hF dX3_comesToLive_28 rfl rfl rfl ?_
      refine v_getR (b := v + 2) 32 hF dX3_comesToLive_29 rfl fl_X3_19 hv.1 rfl ?_
      refine v_iload 0 34 hF dX3_comesToLive_32 rfl rfl ?_
      refine v_iload_n 3 35 hF dX3_comesToLive_34 rfl rfl rfl ?_
      refine v_iast 36 hF dX3_comesToLive_35 rfl (hv.2.2.1) (fun M3 => ?_)
      refine v_aload_n 1 37 hF dX3_comesToLive_36 rfl rfl rfl ?_
      refine v_getR (b := v + 3) 40 hF dX3_comesToLive_37 rfl fl_X3_22 hv.1 rfl ?_
      refine v_iload 0 42 hF dX3_comesToLive_40 rfl rfl ?_
      refine v_iload_n 4 43 hF dX3_comesToLive_42 rfl rfl rfl ?_
      refine v_iast 44 hF dX3_comesToLive_43 rfl (hv.2.2.2.1) (fun M4 => ?_)
      refine v_aload_n 1 45 hF dX3_comesToLive_44 rfl rfl rfl ?_
      refine v_dupR 46 hF dX3_comesToLive_45 rfl ?_
      refine v_getI 49 hF dX3_comesToLive_46 rfl fl_X3_50 hv.1 rfl ?_
      refine v_iconst (1) 50 hF dX3_comesToLive_49 rfl (by decide) ?_
      refine v_iadd 51 hF dX3_comesToLive_50 rfl ?_
      refine v_putI 54 hF dX3_comesToLive_51 rfl fl_X3_50 fp_X3_4 hv.1 rfl (fun M5 => ?_)
      refine v_iload 0 56 hF dX3_comesToLive_54 rfl rfl ?_
      exact v_iret hF dX3_comesToLive_56
    · refine v_bipush (-4) 19 hF dX3_comesToLive_17 rfl (by decide) ?_
      exact v_iret hF dX3_comesToLive_19
abbrev rmJ6_bitCount_0f7a4 : Room := { frames := 0, cells := 0, slots := 0, locals := 0 }
def m_J6_bitCount_0f7a4 (x0 : Int32) (M : Mm) : Option (Int32 × Mm) := lt1 ((x0 - ((ushr x0 ((1 : Int32))) &&& (1431655765 : Int32)))) fun y1 => lt1 (((y1 &&& (858993459 : Int32)) + ((ushr y1 ((2 : Int32))) &&& (858993459 : Int32)))) fun y2 => lt1 (((y2 + (ushr y2 ((4 : Int32)))) &&& (252645135 : Int32))) fun y3 => lt1 ((y3 + (ushr y3 ((8 : Int32))))) fun y4 => lt1 ((y4 + (ushr y4 ((16 : Int32))))) fun y5 => some ((y5 &&& (63 : Int32)), M)
set_option maxRecDepth 100000 in
set_option maxHeartbeats 4000000 in
theorem c_J6_bitCount_0f7a4 {G : Gx} {sh : List Sh} (M : Mm) (x0 : Int32) : CT yJ6_bitCount_0f7a4 cJ6_bitCount_0f7a4 1 (some .int) rmJ6_bitCount_0f7a4 G sh [.int x0] rvI M (m_J6_bitCount_0f7a4  x0 M) := by
  refine CT.of (by decide +kernel) (Nat.le_of_ble_eq_true rfl) (fun X hF => ?_)
  show VR X G sh 1 rvI M 0 [(0, .int x0)] [] _
  unfold m_J6_bitCount_0f7a4
  refine v_iload_n 0 1 hF dJ6_bitCount_0f7a4_0 rfl rfl rfl ?_
  refine v_iload_n 0 2 hF dJ6_bitCount_0f7a4_1 rfl rfl rfl ?_
  refine v_iconst (1) 3 hF dJ6_bitCount_0f7a4_2 rfl (by decide) ?_
  refine v_iushr 4 hF dJ6_bitCount_0f7a4_3 rfl ?_
  refine v_ldcw (1431655765) 7 hF dJ6_bitCount_0f7a4_4 rfl cc_J6_265 ?_
  refine v_iand 8 hF dJ6_bitCount_0f7a4_7 rfl ?_
  refine v_isub 9 hF dJ6_bitCount_0f7a4_8 rfl ?_
  refine v_istore_n (lo' := fun y1 => [(0, .int y1)]) 10 hF dJ6_bitCount_0f7a4_9 rfl rfl (by decide) (fun _ => rfl) (fun y1 => ?_)
  refine v_iload_n 0 11 hF dJ6_bitCount_0f7a4_10 rfl rfl rfl ?_
  refine v_ldcw (858993459) 14 hF dJ6_bitCount_0f7a4_11 rfl cc_J6_266 ?_
  refine v_iand 15 hF dJ6_bitCount_0f7a4_14 rfl ?_
  refine v_iload_n 0 16 hF dJ6_bitCount_0f7a4_15 rfl rfl rfl ?_
  refine v_iconst (2) 17 hF dJ6_bitCount_0f7a4_16 rfl (by decide) ?_
  refine v_iushr 18 hF dJ6_bitCount_0f7a4_17 rfl ?_
  refine v_ldcw (858993459) 21 hF dJ6_bitCount_0f7a4_18 rfl cc_J6_266 ?_
  refine v_iand 22 hF dJ6_bitCount_0f7a4_21 rfl ?_
  refine v_iadd 23 hF dJ6_bitCount_0f7a4_22 rfl ?_
  refine v_istore_n (lo' := fun y2 => [(0, .int y2)]) 24 hF dJ6_bitCount_0f7a4_23 rfl rfl (by decide) (fun _ => rfl) (fun y2 => ?_)
  refine v_iload_n 0 25 hF dJ6_bitCount_0f7a4_24 rfl rfl rfl ?_
  refine v_iload_n 0 26 hF dJ6_bitCount_0f7a4_25 rfl rfl rfl ?_
  refine v_iconst (4) 27 hF dJ6_bitCount_0f7a4_26 rfl (by decide) ?_
  refine v_iushr 28 hF dJ6_bitCount_0f7a4_27 rfl ?_
  refine v_iadd 29 hF dJ6_bitCount_0f7a4_28 rfl ?_
  refine v_ldcw (252645135) 32 hF dJ6_bitCount_0f7a4_29 rfl cc_J6_267 ?_
  refine v_iand 33 hF dJ6_bitCount_0f7a4_32 rfl ?_
  refine v_istore_n (lo' := fun y3 => [(0, .int y3)]) 34 hF dJ6_bitCount_0f7a4_33 rfl rfl (by decide) (fun _ => rfl) (fun y3 => ?_)
  refine v_iload_n 0 35 hF dJ6_bitCount_0f7a4_34 rfl rfl rfl ?_
  refine v_iload_n 0 36 hF dJ6_bitCount_0f7a4_35 rfl rfl rfl ?_
  refine v_bipush (8) 38 hF dJ6_bitCount_0f7a4_36 rfl (by decide) ?_
  refine v_iushr 39 hF dJ6_bitCount_0f7a4_38 rfl ?_
  refine v_iadd 40 hF dJ6_bitCount_0f7a4_39 rfl ?_
  refine v_istore_n (lo' := fun y4 => [(0, .int y4)]) 41 hF dJ6_bitCount_0f7a4_40 rfl rfl (by decide) (fun _ => rfl) (fun y4 => ?_)
  refine v_iload_n 0 42 hF dJ6_bitCount_0f7a4_41 rfl rfl rfl ?_
  refine v_iload_n 0 43 hF dJ6_bitCount_0f7a4_42 rfl rfl rfl ?_
  refine v_bipush (16) 45 hF dJ6_bitCount_0f7a4_43 rfl (by decide) ?_
  refine v_iushr 46 hF dJ6_bitCount_0f7a4_45 rfl ?_
  refine v_iadd 47 hF dJ6_bitCount_0f7a4_46 rfl ?_
  refine v_istore_n (lo' := fun y5 => [(0, .int y5)]) 48 hF dJ6_bitCount_0f7a4_47 rfl rfl (by decide) (fun _ => rfl) (fun y5 => ?_)
  refine v_iload_n 0 49 hF dJ6_bitCount_0f7a4_48 rfl rfl rfl ?_
  refine v_bipush (63) 51 hF dJ6_bitCount_0f7a4_49 rfl (by decide) ?_
  refine v_iand 52 hF dJ6_bitCount_0f7a4_51 rfl ?_
  exact v_iret hF dJ6_bitCount_0f7a4_52
abbrev rmX3_bounded : Room := { frames := 1, cells := 0, slots := 0, locals := 21 }
def m_X3_bounded (x0 : Int32) (x1 : Int32) (M : Mm) : Option (Int32 × Mm) := some ((mmax x1 ((mmin ((99 : Int32)) x0))), M)
set_option maxRecDepth 100000 in
set_option maxHeartbeats 4000000 in
theorem c_X3_bounded {G : Gx} {sh : List Sh} (M : Mm) (x0 : Int32) (x1 : Int32) : CT yX3_bounded cX3_bounded 2 (some .int) rmX3_bounded G sh [.int x0, .int x1] rvI M (m_X3_bounded  x0 x1 M) := by
  refine CT.of (by decide +kernel) (Nat.le_of_ble_eq_true rfl) (fun X hF => ?_)
  show VR X G sh 2 rvI M 0 [(0, .int x0), (1, .int x1)] [] _
  unfold m_X3_bounded
  refine v_iload_n 1 1 hF dX3_bounded_0 rfl rfl rfl ?_
  refine v_bipush (99) 3 hF dX3_bounded_1 rfl (by decide) ?_
  refine v_iload_n 0 4 hF dX3_bounded_3 rfl rfl rfl ?_
  refine v_mmin 7 hF dX3_bounded_4 rfl cm_X3_144 ⟨Nat.le_of_ble_eq_true rfl, Nat.le_of_ble_eq_true rfl⟩ ?_
  refine v_mmax 10 hF dX3_bounded_7 rfl cm_X3_149 ⟨Nat.le_of_ble_eq_true rfl, Nat.le_of_ble_eq_true rfl⟩ ?_
  exact v_iret hF dX3_bounded_10
abbrev rmX3_ruled : Room := { frames := 2, cells := 0, slots := 0, locals := 51 }
def m_X3_ruled_J115 (v : Nat) (s0 : Int32) (s1 : Int32) (M : Mm) : Option (Int32 × Mm) := bd (m_X3_bounded s1 s0 M) fun r2 M1 => some (r2, M1)
def m_X3_ruled_J89 (v : Nat) (x1 : Int32) (s0 : Int32) (M : Mm) : Option (Int32 × Mm) := lt1 (up M 1 6 s0) fun M3 => bd (m_X2_value ((M3 v 3)) x1 M3) fun r5 M4 => if x1 = (2 : Int32) then (m_X3_ruled_J115 v ((0 : Int32)) r5 M4) else (m_X3_ruled_J115 v ((-99 : Int32)) r5 M4)
def m_X3_ruled_J88 (v : Nat) (x1 : Int32) (M : Mm) : Option (Int32 × Mm) := m_X3_ruled_J89 v x1 ((0 : Int32)) M
def m_X3_ruled (v : Nat) (x1 : Int32) (x2 : Int32) (x3 : Int32) (M : Mm) : Option (Int32 × Mm) := bd (m_X3_toneOf v x3 M) fun r7 M6 => lt1 (up M6 1 1 r7) fun M8 => bd (m_X3_houseOf v x2 M8) fun r10 M9 => lt1 (up M9 1 2 r10) fun M11 => bd (m_X3_numberOf v x2 M11) fun r13 M12 => lt1 (up M12 1 3 r13) fun M14 => lt1 (up M14 1 4 ((M14 v 1))) fun M15 => bd (m_X3_readBy v x3 M15) fun r17 M16 => bd (m_J6_bitCount_0f7a4 r17 M16) fun r19 M18 => lt1 (up M18 1 5 r19) fun M20 => bd (m_X3_isLetter v x3 M20) fun r22 M21 => if r22 = 0 then (m_X3_ruled_J88 v x1 M21) else (gd (inr x3 8) (if (M21 (v + 4) x3.toNatClampNeg) = x2 then (m_X3_ruled_J89 v x1 ((1 : Int32)) M21) else (m_X3_ruled_J88 v x1 M21)))
set_option maxRecDepth 100000 in
set_option maxHeartbeats 4000000 in
theorem v_X3_ruled_J115 {X : Cx} {G : Gx} {sh : List Sh} (hF : FX X G sh 4 cX3_ruled (yX3_ruled).cls (some .int) rmX3_ruled) {v : Nat} (hT : TexAt sh) (hv : VilAt sh v) : ∀ (s0 : Int32) (s1 : Int32) (M : Mm), VR X G sh 4 rvI M 115 [(0, .ref (G.2.2.2.2 v))] [.int s0, .int s1] (m_X3_ruled_J115 v s0 s1 M) := by
  intro s0 s1 M
  unfold m_X3_ruled_J115
  refine v_staI ([.int s1, .int s0]) ([]) 118 hF dX3_ruled_115 rfl cw_X3_109 (c_X3_bounded (G := G) (sh := sh) M s1 s0) ⟨rfl, rfl, Nat.le_of_ble_eq_true rfl, Nat.le_of_ble_eq_true rfl⟩ rfl rfl (Nat.le_of_ble_eq_true rfl) (fun r2 M1 => ?_)
  exact v_iret hF dX3_ruled_118
set_option maxRecDepth 100000 in
set_option maxHeartbeats 4000000 in
theorem v_X3_ruled_J89 {X : Cx} {G : Gx} {sh : List Sh} (hF : FX X G sh 4 cX3_ruled (yX3_ruled).cls (some .int) rmX3_ruled) {v : Nat} (hT : TexAt sh) (hv : VilAt sh v) : ∀ (x1 : Int32) (s0 : Int32) (M : Mm), VR X G sh 4 rvI M 89 [(0, .ref (G.2.2.2.2 v)), (1, .int x1)] [.int s0, .ref (G.2.2.2.2 1)] (m_X3_ruled_J89 v x1 s0 M) := by
  intro x1 s0 M
  unfold m_X3_ruled_J89
  refine v_putI 92 hF dX3_ruled_89 rfl fl_X3_138 fp_X2_6 hT.1 rfl (fun M3 => ?_)
  refine v_aload_n 0 93 hF dX3_ruled_92 rfl rfl rfl ?_
  refine v_getR (b := 1) 96 hF dX3_ruled_93 rfl fl_X3_40 hv.1 rfl ?_
  refine v_aload_n 0 97 hF dX3_ruled_96 rfl rfl rfl ?_
  refine v_getI 100 hF dX3_ruled_97 rfl fl_X3_47 hv.1 rfl ?_
  refine v_iload_n 1 101 hF dX3_ruled_100 rfl rfl rfl ?_
  refine v_callI ([.int ((M3 v 3)), .int x1]) ([]) 104 hF dX3_ruled_101 rfl cw_X3_141 rfl (hT.1) (c_X2_value (G := G) hT M3 ((M3 v 3)) x1) ⟨rfl, rfl, Nat.le_of_ble_eq_true rfl, Nat.le_of_ble_eq_true rfl⟩ rfl rfl (Nat.le_of_ble_eq_true rfl) (fun r5 M4 => ?_)
  refine v_iload_n 1 105 hF dX3_ruled_104 rfl rfl rfl ?_
  refine v_iconst (2) 106 hF dX3_ruled_105 rfl (by decide) ?_
  refine v_icmp_ne 109 113 hF dX3_ruled_106 rfl (by decide) (fun _ => ?_) (fun _ => ?_)
  · refine v_bipush (-99) 115 hF dX3_ruled_113 rfl (by decide) ?_
    refine VR.pick [0] rfl ?_
    exact v_X3_ruled_J115 hF hT hv ((-99 : Int32)) r5 M4
  · refine v_iconst (0) 110 hF dX3_ruled_109 rfl (by decide) ?_
    refine v_goto 115 hF dX3_ruled_110 (by decide) ?_
    refine VR.pick [0] rfl ?_
    exact v_X3_ruled_J115 hF hT hv ((0 : Int32)) r5 M4
set_option maxRecDepth 100000 in
set_option maxHeartbeats 4000000 in
theorem v_X3_ruled_J88 {X : Cx} {G : Gx} {sh : List Sh} (hF : FX X G sh 4 cX3_ruled (yX3_ruled).cls (some .int) rmX3_ruled) {v : Nat} (hT : TexAt sh) (hv : VilAt sh v) : ∀ (x1 : Int32) (M : Mm), VR X G sh 4 rvI M 88 [(0, .ref (G.2.2.2.2 v)), (1, .int x1)] [.ref (G.2.2.2.2 1)] (m_X3_ruled_J88 v x1 M) := by
  intro x1 M
  unfold m_X3_ruled_J88
  refine v_iconst (0) 89 hF dX3_ruled_88 rfl (by decide) ?_
  refine VR.pick [0, 1] rfl ?_
  exact v_X3_ruled_J89 hF hT hv x1 ((0 : Int32)) M
set_option maxRecDepth 100000 in
set_option maxHeartbeats 4000000 in
theorem c_X3_ruled {G : Gx} {sh : List Sh} {v : Nat} (hT : TexAt sh) (hv : VilAt sh v) (M : Mm) (x1 : Int32) (x2 : Int32) (x3 : Int32) : CT yX3_ruled cX3_ruled 4 (some .int) rmX3_ruled G sh [.ref (G.2.2.2.2 v), .int x1, .int x2, .int x3] rvI M (m_X3_ruled v x1 x2 x3 M) := by
  refine CT.of (by decide +kernel) (Nat.le_of_ble_eq_true rfl) (fun X hF => ?_)
  show VR X G sh 4 rvI M 0 [(0, .ref (G.2.2.2.2 v)), (1, .int x1), (2, .int x2), (3, .int x3)] [] _
  unfold m_X3_ruled
  refine v_aload_n 0 1 hF dX3_ruled_0 rfl rfl rfl ?_
  refine v_getR (b := 1) 4 hF dX3_ruled_1 rfl fl_X3_40 hv.1 rfl ?_
  refine v_aload_n 0 5 hF dX3_ruled_4 rfl rfl rfl ?_
  refine v_iload_n 3 6 hF dX3_ruled_5 rfl rfl rfl ?_
  refine v_callI ([.int x3]) ([.ref (G.2.2.2.2 1)]) 9 hF dX3_ruled_6 rfl cw_X3_118 rfl (hv.1) (c_X3_toneOf (G := G) hT hv M x3) ⟨rfl, rfl, Nat.le_of_ble_eq_true rfl, Nat.le_of_ble_eq_true rfl⟩ rfl rfl (Nat.le_of_ble_eq_true rfl) (fun r7 M6 => ?_)
  refine v_putI 12 hF dX3_ruled_9 rfl fl_X3_121 fp_X2_1 hT.1 rfl (fun M8 => ?_)
  refine v_aload_n 0 13 hF dX3_ruled_12 rfl rfl rfl ?_
  refine v_getR (b := 1) 16 hF dX3_ruled_13 rfl fl_X3_40 hv.1 rfl ?_
  refine v_aload_n 0 17 hF dX3_ruled_16 rfl rfl rfl ?_
  refine v_iload_n 2 18 hF dX3_ruled_17 rfl rfl rfl ?_
  refine v_callI ([.int x2]) ([.ref (G.2.2.2.2 1)]) 21 hF dX3_ruled_18 rfl cw_X3_66 rfl (hv.1) (c_X3_houseOf (G := G) hT hv M8 x2) ⟨rfl, rfl, Nat.le_of_ble_eq_true rfl, Nat.le_of_ble_eq_true rfl⟩ rfl rfl (Nat.le_of_ble_eq_true rfl) (fun r10 M9 => ?_)
  refine v_putI 24 hF dX3_ruled_21 rfl fl_X3_123 fp_X2_2 hT.1 rfl (fun M11 => ?_)
  refine v_aload_n 0 25 hF dX3_ruled_24 rfl rfl rfl ?_
  refine v_getR (b := 1) 28 hF dX3_ruled_25 rfl fl_X3_40 hv.1 rfl ?_
  refine v_aload_n 0 29 hF dX3_ruled_28 rfl rfl rfl ?_
  refine v_iload_n 2 30 hF dX3_ruled_29 rfl rfl rfl ?_
  refine v_callI ([.int x2]) ([.ref (G.2.2.2.2 1)]) 33 hF dX3_ruled_30 rfl cw_X3_125 rfl (hv.1) (c_X3_numberOf (G := G) hT hv M11 x2) ⟨rfl, rfl, Nat.le_of_ble_eq_true rfl, Nat.le_of_ble_eq_true rfl⟩ rfl rfl (Nat.le_of_ble_eq_true rfl) (fun r13 M12 => ?_)
  refine v_putI 36 hF dX3_ruled_33 rfl fl_X3_128 fp_X2_3 hT.1 rfl (fun M14 => ?_)
  refine v_aload_n 0 37 hF dX3_ruled_36 rfl rfl rfl ?_
  refine v_getR (b := 1) 40 hF dX3_ruled_37 rfl fl_X3_40 hv.1 rfl ?_
  refine v_aload_n 0 41 hF dX3_ruled_40 rfl rfl rfl ?_
  refine v_getI 44 hF dX3_ruled_41 rfl fl_X3_44 hv.1 rfl ?_
  refine v_putI 47 hF dX3_ruled_44 rfl fl_X3_130 fp_X2_4 hT.1 rfl (fun M15 => ?_)
  refine v_aload_n 0 48 hF dX3_ruled_47 rfl rfl rfl ?_
  refine v_getR (b := 1) 51 hF dX3_ruled_48 rfl fl_X3_40 hv.1 rfl ?_
  refine v_aload_n 0 52 hF dX3_ruled_51 rfl rfl rfl ?_
  refine v_iload_n 3 53 hF dX3_ruled_52 rfl rfl rfl ?_
  refine v_callI ([.int x3]) ([.ref (G.2.2.2.2 1)]) 56 hF dX3_ruled_53 rfl cw_X3_84 rfl (hv.1) (c_X3_readBy (G := G) hT hv M15 x3) ⟨rfl, rfl, Nat.le_of_ble_eq_true rfl, Nat.le_of_ble_eq_true rfl⟩ rfl rfl (Nat.le_of_ble_eq_true rfl) (fun r17 M16 => ?_)
  refine v_staI ([.int r17]) ([.ref (G.2.2.2.2 1)]) 59 hF dX3_ruled_56 rfl cw_X3_131 (c_J6_bitCount_0f7a4 (G := G) (sh := sh) M16 r17) ⟨rfl, rfl, Nat.le_of_ble_eq_true rfl, Nat.le_of_ble_eq_true rfl⟩ rfl rfl (Nat.le_of_ble_eq_true rfl) (fun r19 M18 => ?_)
  refine v_putI 62 hF dX3_ruled_59 rfl fl_X3_136 fp_X2_5 hT.1 rfl (fun M20 => ?_)
  refine v_aload_n 0 63 hF dX3_ruled_62 rfl rfl rfl ?_
  refine v_getR (b := 1) 66 hF dX3_ruled_63 rfl fl_X3_40 hv.1 rfl ?_
  refine v_aload_n 0 67 hF dX3_ruled_66 rfl rfl rfl ?_
  refine v_iload_n 3 68 hF dX3_ruled_67 rfl rfl rfl ?_
  refine v_callI ([.int x3]) ([.ref (G.2.2.2.2 1)]) 71 hF dX3_ruled_68 rfl cw_X3_63 rfl (hv.1) (c_X3_isLetter (G := G) hT hv M20 x3) ⟨rfl, rfl, Nat.le_of_ble_eq_true rfl, Nat.le_of_ble_eq_true rfl⟩ rfl rfl (Nat.le_of_ble_eq_true rfl) (fun r22 M21 => ?_)
  refine v_if_eq 74 88 hF dX3_ruled_71 rfl (by decide) (fun _ => ?_) (fun _ => ?_)
  · refine VR.pick [0, 1] rfl ?_
    exact v_X3_ruled_J88 hF hT hv x1 M21
  · refine v_aload_n 0 75 hF dX3_ruled_74 rfl rfl rfl ?_
    refine v_getR (b := v + 4) 78 hF dX3_ruled_75 rfl fl_X3_25 hv.1 rfl ?_
    refine v_iload_n 3 79 hF dX3_ruled_78 rfl rfl rfl ?_
    refine v_iald 80 hF dX3_ruled_79 rfl (hv.2.2.2.2.1) ?_
    refine v_iload_n 2 81 hF dX3_ruled_80 rfl rfl rfl ?_
    refine v_icmp_ne 84 88 hF dX3_ruled_81 rfl (by decide) (fun _ => ?_) (fun _ => ?_)
    · refine VR.pick [0, 1] rfl ?_
      exact v_X3_ruled_J88 hF hT hv x1 M21
    · refine v_iconst (1) 85 hF dX3_ruled_84 rfl (by decide) ?_
      refine v_goto 89 hF dX3_ruled_85 (by decide) ?_
      refine VR.pick [0, 1] rfl ?_
      exact v_X3_ruled_J89 hF hT hv x1 ((1 : Int32)) M21
abbrev rmX3_toneWritten : Room := { frames := 3, cells := 0, slots := 0, locals := 74 }
def m_X3_toneWritten (v : Nat) (x1 : Int32) (M : Mm) : Option (Int32 × Mm) := bd (m_X3_isOne v x1 M) fun r2 M1 => if r2 = 0 then (some ((0 : Int32), M1)) else (bd (m_X3_ruled v ((2 : Int32)) x1 ((-1 : Int32)) M1) fun r4 M3 => lt1 r4 fun y5 => gd (inr x1 5) (if (M3 (v + 1) x1.toNatClampNeg) = (1) then (gd (!(decide ((2 : Int32) = 0))) (some ((y5 / (2 : Int32)), M3))) else (if (M3 (v + 1) x1.toNatClampNeg) = (2) then (some (((99 : Int32) - y5), M3)) else (if (M3 (v + 1) x1.toNatClampNeg) = (3) then (gd (!(decide ((2 : Int32) = 0))) (some ((y5 / (2 : Int32)), M3))) else (if (M3 (v + 1) x1.toNatClampNeg) = (4) then (some (((99 : Int32) - y5), M3)) else (if (M3 (v + 1) x1.toNatClampNeg) = (5) then (gd (inr x1 5) (some (((10 : Int32) * (M3 (v + 2) x1.toNatClampNeg)), M3))) else (some (y5, M3))))))))
set_option maxRecDepth 100000 in
set_option maxHeartbeats 4000000 in
theorem c_X3_toneWritten {G : Gx} {sh : List Sh} {v : Nat} (hT : TexAt sh) (hv : VilAt sh v) (M : Mm) (x1 : Int32) : CT yX3_toneWritten cX3_toneWritten 3 (some .int) rmX3_toneWritten G sh [.ref (G.2.2.2.2 v), .int x1] rvI M (m_X3_toneWritten v x1 M) := by
  refine CT.of (by decide +kernel) (Nat.le_of_ble_eq_true rfl) (fun X hF => ?_)
  show VR X G sh 3 rvI M 0 [(0, .ref (G.2.2.2.2 v)), (1, .int x1)] [] _
  unfold m_X3_toneWritten
  refine v_aload_n 0 1 hF dX3_toneWritten_0 rfl rfl rfl ?_
  refine v_iload_n 1 2 hF dX3_toneWritten_1 rfl rfl rfl ?_
  refine v_callI ([.int x1]) ([]) 5 hF dX3_toneWritten_2 rfl cw_X3_59 rfl (hv.1) (c_X3_isOne (G := G) hT hv M x1) ⟨rfl, rfl, Nat.le_of_ble_eq_true rfl, Nat.le_of_ble_eq_true rfl⟩ rfl rfl (Nat.le_of_ble_eq_true rfl) (fun r2 M1 => ?_)
  refine v_if_ne 8 10 hF dX3_toneWritten_5 rfl (by decide) (fun _ => ?_) (fun _ => ?_)
  · refine v_aload_n 0 11 hF dX3_toneWritten_10 rfl rfl rfl ?_
    refine v_iconst (2) 12 hF dX3_toneWritten_11 rfl (by decide) ?_
    refine v_iload_n 1 13 hF dX3_toneWritten_12 rfl rfl rfl ?_
    refine v_iconst (-1) 14 hF dX3_toneWritten_13 rfl (by decide) ?_
    refine v_callI ([.int ((2 : Int32)), .int x1, .int ((-1 : Int32))]) ([]) 17 hF dX3_toneWritten_14 rfl cw_X3_114 rfl (hv.1) (c_X3_ruled (G := G) hT hv M1 ((2 : Int32)) x1 ((-1 : Int32))) ⟨rfl, rfl, Nat.le_of_ble_eq_true rfl, Nat.le_of_ble_eq_true rfl⟩ rfl rfl (Nat.le_of_ble_eq_true rfl) (fun r4 M3 => ?_)
    refine v_istore_n (lo' := fun y5 => [(2, .int y5), (0, .ref (G.2.2.2.2 v)), (1, .int x1)]) 18 hF dX3_toneWritten_17 rfl rfl (by decide) (fun _ => rfl) (fun y5 => ?_)
    refine v_aload_n 1 19 hF dX3_toneWritten_18 rfl rfl rfl ?_
    refine v_getR (b := v + 1) 22 hF dX3_toneWritten_19 rfl fl_X3_15 hv.1 rfl ?_
    refine v_iload_n 2 23 hF dX3_toneWritten_22 rfl rfl rfl ?_
    refine v_iald 24 hF dX3_toneWritten_23 rfl (hv.2.1) ?_
    refine v_ite (fun e1 => ?_) (fun n0 => ?_)
    · refine v_tsIn (1) (36) 60 hF dX3_toneWritten_24 e1 (by decide) rfl (by decide) ?_
      refine v_iload_n 0 61 hF dX3_toneWritten_60 rfl rfl rfl ?_
      refine v_iconst (2) 62 hF dX3_toneWritten_61 rfl (by decide) ?_
      refine v_idiv 63 hF dX3_toneWritten_62 rfl ?_
      exact v_iret hF dX3_toneWritten_63
    · refine v_ite (fun e1 => ?_) (fun n1 => ?_)
      · refine v_tsIn (2) (40) 64 hF dX3_toneWritten_24 e1 (by decide) rfl (by decide) ?_
        refine v_bipush (99) 66 hF dX3_toneWritten_64 rfl (by decide) ?_
        refine v_iload_n 0 67 hF dX3_toneWritten_66 rfl rfl rfl ?_
        refine v_isub 68 hF dX3_toneWritten_67 rfl ?_
        exact v_iret hF dX3_toneWritten_68
      · refine v_ite (fun e1 => ?_) (fun n2 => ?_)
        · refine v_tsIn (3) (36) 60 hF dX3_toneWritten_24 e1 (by decide) rfl (by decide) ?_
          refine v_iload_n 0 61 hF dX3_toneWritten_60 rfl rfl rfl ?_
          refine v_iconst (2) 62 hF dX3_toneWritten_61 rfl (by decide) ?_
          refine v_idiv 63 hF dX3_toneWritten_62 rfl ?_
          exact v_iret hF dX3_toneWritten_63
        · refine v_ite (fun e1 => ?_) (fun n3 => ?_)
          · refine v_tsIn (4) (40) 64 hF dX3_toneWritten_24 e1 (by decide) rfl (by decide) ?_
            refine v_bipush (99) 66 hF dX3_toneWritten_64 rfl (by decide) ?_
            refine v_iload_n 0 67 hF dX3_toneWritten_66 rfl rfl rfl ?_
            refine v_isub 68 hF dX3_toneWritten_67 rfl ?_
            exact v_iret hF dX3_toneWritten_68
          · refine v_ite (fun e1 => ?_) (fun n4 => ?_)
            · refine v_tsIn (5) (45) 69 hF dX3_toneWritten_24 e1 (by decide) rfl (by decide) ?_
              refine v_bipush (10) 71 hF dX3_toneWritten_69 rfl (by decide) ?_
              refine v_aload_n 1 72 hF dX3_toneWritten_71 rfl rfl rfl ?_
              refine v_getR (b := v + 2) 75 hF dX3_toneWritten_72 rfl fl_X3_19 hv.1 rfl ?_
              refine v_iload_n 2 76 hF dX3_toneWritten_75 rfl rfl rfl ?_
              refine v_iald 77 hF dX3_toneWritten_76 rfl (hv.2.2.1) ?_
              refine v_imul 78 hF dX3_toneWritten_77 rfl ?_
              exact v_iret hF dX3_toneWritten_78
            · refine v_tsOut 79 hF dX3_toneWritten_24 (by have a0 := lv_neT n0 (a := (1)) (by decide); have a1 := lv_neT n1 (a := (2)) (by decide); have a2 := lv_neT n2 (a := (3)) (by decide); have a3 := lv_neT n3 (a := (4)) (by decide); have a4 := lv_neT n4 (a := (5)) (by decide); omega) (by decide) ?_
              refine v_iload_n 0 80 hF dX3_toneWritten_79 rfl rfl rfl ?_
              exact v_iret hF dX3_toneWritten_80
  · refine v_iconst (0) 9 hF dX3_toneWritten_8 rfl (by decide) ?_
    exact v_iret hF dX3_toneWritten_9
abbrev rmX3_post : Room := { frames := 4, cells := 0, slots := 0, locals := 96 }
def m_X3_post (v : Nat) (x1 : Int32) (x2 : Int32) (M : Mm) : Option (Int32 × Mm) := lt1 ((M v 5)) fun y1 => if y1 < 0 then (some ((-4 : Int32), M)) else (if y1 < (8 : Int32) then (gd (inr y1 8) (lt1 (up M (v + 4) y1.toNatClampNeg x1) fun M2 => gd (inr y1 8) (lt1 (up M2 (v + 5) y1.toNatClampNeg x2) fun M3 => bd (m_X3_houseOf v x2 M3) fun r5 M4 => gd (!(decide ((8 : Int32) = 0))) (gd (inr y1 8) (lt1 (up M4 (v + 6) y1.toNatClampNeg ((irm ((r5 + (M4 v 2))) ((8 : Int32))))) fun M6 => bd (m_X3_toneWritten v x1 M6) fun r8 M7 => gd (inr y1 8) (lt1 (up M7 (v + 7) y1.toNatClampNeg r8) fun M9 => gd (inr y1 8) (lt1 (up M9 (v + 8) y1.toNatClampNeg ((shl ((1 : Int32)) x1))) fun M10 => lt1 (up M10 v 5 (((M10 v 5) + (1 : Int32)))) fun M11 => some (y1, M11)))))))) else (some ((-4 : Int32), M)))
set_option maxRecDepth 100000 in
set_option maxHeartbeats 4000000 in
theorem c_X3_post {G : Gx} {sh : List Sh} {v : Nat} (hT : TexAt sh) (hv : VilAt sh v) (M : Mm) (x1 : Int32) (x2 : Int32) : CT yX3_post cX3_post 4 (some .int) rmX3_post G sh [.ref (G.2.2.2.2 v), .int x1, .int x2] rvI M (m_X3_post v x1 x2 M) := by
  refine CT.of (by decide +kernel) (Nat.le_of_ble_eq_true rfl) (fun X hF => ?_)
  show VR X G sh 4 rvI M 0 [(0, .ref (G.2.2.2.2 v)), (1, .int x1), (2, .int x2)] [] _
  unfold m_X3_post
  refine v_aload_n 0 1 hF dX3_post_0 rfl rfl rfl ?_
  refine v_getI 4 hF dX3_post_1 rfl fl_X3_53 hv.1 rfl ?_
  refine v_istore_n (lo' := fun y1 => [(3, .int y1), (0, .ref (G.2.2.2.2 v)), (1, .int x1), (2, .int x2)]) 5 hF dX3_post_4 rfl rfl (by decide) (fun _ => rfl) (fun y1 => ?_)
  refine v_iload_n 0 6 hF dX3_post_5 rfl rfl rfl ?_
  refine v_if_lt 9 15 hF dX3_post_6 rfl (by decide) (fun _ => ?_) (fun _ => ?_)
  · refine v_bipush (-4) 17 hF dX3_post_15 rfl (by decide) ?_
    exact v_iret hF dX3_post_17
  · refine v_iload_n 0 10 hF dX3_post_9 rfl rfl rfl ?_
    refine v_bipush (8) 12 hF dX3_post_10 rfl (by decide) ?_
    refine v_icmp_lt 15 18 hF dX3_post_12 rfl (by decide) (fun _ => ?_) (fun _ => ?_)
    · refine v_aload_n 1 19 hF dX3_post_18 rfl rfl rfl ?_
      refine v_getR (b := v + 4) 22 hF dX3_post_19 rfl fl_X3_25 hv.1 rfl ?_
      refine v_iload_n 0 23 hF dX3_post_22 rfl rfl rfl ?_
      refine v_iload_n 2 24 hF dX3_post_23 rfl rfl rfl ?_
      refine v_iast 25 hF dX3_post_24 rfl (hv.2.2.2.2.1) (fun M2 => ?_)
      refine v_aload_n 1 26 hF dX3_post_25 rfl rfl rfl ?_
      refine v_getR (b := v + 5) 29 hF dX3_post_26 rfl fl_X3_28 hv.1 rfl ?_
      refine v_iload_n 0 30 hF dX3_post_29 rfl rfl rfl ?_
      refine v_iload_n 3 31 hF dX3_post_30 rfl rfl rfl ?_
      refine v_iast 32 hF dX3_post_31 rfl (hv.2.2.2.2.2.1) (fun M3 => ?_)
      refine v_aload_n 1 33 hF dX3_post_32 rfl rfl rfl ?_
      refine v_getR (b := v + 6) 36 hF dX3_post_33 rfl fl_X3_31 hv.1 rfl ?_
      refine v_iload_n 0 37 hF dX3_post_36 rfl rfl rfl ?_
      refine v_aload_n 1 38 hF dX3_post_37 rfl rfl rfl ?_
      refine v_iload_n 3 39 hF dX3_post_38 rfl rfl rfl ?_
      refine v_callI ([.int x2]) ([.int y1, .ref (G.2.2.2.2 (v + 6))]) 42 hF dX3_post_39 rfl cw_X3_66 rfl (hv.1) (c_X3_houseOf (G := G) hT hv M3 x2) ⟨rfl, rfl, Nat.le_of_ble_eq_true rfl, Nat.le_of_ble_eq_true rfl⟩ rfl rfl (Nat.le_of_ble_eq_true rfl) (fun r5 M4 => ?_)
      refine v_aload_n 1 43 hF dX3_post_42 rfl rfl rfl ?_
      refine v_getI 46 hF dX3_post_43 rfl fl_X3_9 hv.1 rfl ?_
      refine v_iadd 47 hF dX3_post_46 rfl ?_
      refine v_bipush (8) 49 hF dX3_post_47 rfl (by decide) ?_
      refine v_irem 50 hF dX3_post_49 rfl ?_
      refine v_iast 51 hF dX3_post_50 rfl (hv.2.2.2.2.2.2.1) (fun M6 => ?_)
      refine v_aload_n 1 52 hF dX3_post_51 rfl rfl rfl ?_
      refine v_getR (b := v + 7) 55 hF dX3_post_52 rfl fl_X3_34 hv.1 rfl ?_
      refine v_iload_n 0 56 hF dX3_post_55 rfl rfl rfl ?_
      refine v_aload_n 1 57 hF dX3_post_56 rfl rfl rfl ?_
      refine v_iload_n 2 58 hF dX3_post_57 rfl rfl rfl ?_
      refine v_callI ([.int x1]) ([.int y1, .ref (G.2.2.2.2 (v + 7))]) 61 hF dX3_post_58 rfl cw_X3_70 rfl (hv.1) (c_X3_toneWritten (G := G) hT hv M6 x1) ⟨rfl, rfl, Nat.le_of_ble_eq_true rfl, Nat.le_of_ble_eq_true rfl⟩ rfl rfl (Nat.le_of_ble_eq_true rfl) (fun r8 M7 => ?_)
      refine v_iast 62 hF dX3_post_61 rfl (hv.2.2.2.2.2.2.2.1) (fun M9 => ?_)
      refine v_aload_n 1 63 hF dX3_post_62 rfl rfl rfl ?_
      refine v_getR (b := v + 8) 66 hF dX3_post_63 rfl fl_X3_37 hv.1 rfl ?_
      refine v_iload_n 0 67 hF dX3_post_66 rfl rfl rfl ?_
      refine v_iconst (1) 68 hF dX3_post_67 rfl (by decide) ?_
      refine v_iload_n 2 69 hF dX3_post_68 rfl rfl rfl ?_
      refine v_ishl 70 hF dX3_post_69 rfl ?_
      refine v_iast 71 hF dX3_post_70 rfl (hv.2.2.2.2.2.2.2.2) (fun M10 => ?_)
      refine v_aload_n 1 72 hF dX3_post_71 rfl rfl rfl ?_
      refine v_dupR 73 hF dX3_post_72 rfl ?_
      refine v_getI 76 hF dX3_post_73 rfl fl_X3_53 hv.1 rfl ?_
      refine v_iconst (1) 77 hF dX3_post_76 rfl (by decide) ?_
      refine v_iadd 78 hF dX3_post_77 rfl ?_
      refine v_putI 81 hF dX3_post_78 rfl fl_X3_53 fp_X3_5 hv.1 rfl (fun M11 => ?_)
      refine v_iload_n 0 82 hF dX3_post_81 rfl rfl rfl ?_
      exact v_iret hF dX3_post_82
    · refine v_bipush (-4) 17 hF dX3_post_15 rfl (by decide) ?_
      exact v_iret hF dX3_post_17
abbrev rmX3_slipAll : Room := { frames := 2, cells := 0, slots := 0, locals := 42 }
def m_X3_slipAll_J47 (v : Nat) (n2 : Int32 → Int32 → Mm → Option (Unit × Mm)) (x1 : Int32) (x2 : Int32) (M : Mm) : Option (Unit × Mm) := lt1 (x2 + 1) fun y1 => n2 x1 y1 M
def m_X3_slipAll_B2 (v : Nat) (n2 : Int32 → Int32 → Mm → Option (Unit × Mm)) (x1 : Int32) (x2 : Int32) (M : Mm) : Option (Unit × Mm) := if (M v 5) ≤ x2 then (some ((), M)) else (if (8 : Int32) ≤ x2 then (some ((), M)) else (gd (inr x2 8) (if (M (v + 6) x2.toNatClampNeg) = (-1 : Int32) then (m_X3_slipAll_J47 v n2 x1 x2 M) else (gd (inr x2 8) (bd (m_X3_houseOf v ((M (v + 5) x2.toNatClampNeg)) M) fun r3 M2 => gd (!(decide ((8 : Int32) = 0))) (gd (inr x2 8) (lt1 (up M2 (v + 6) x2.toNatClampNeg ((irm ((r3 + x1)) ((8 : Int32))))) fun M4 => m_X3_slipAll_J47 v n2 x1 x2 M4)))))))
def m_X3_slipAll_L2 (v : Nat) : Nat → Int32 → Int32 → Mm → Option (Unit × Mm)
  | 0 => fun _ _ _ => none
  | n + 1 => m_X3_slipAll_B2 v (m_X3_slipAll_L2 v n)
def m_X3_slipAll (v : Nat) (x1 : Int32) (M : Mm) : Option (Unit × Mm) := lt1 ((0 : Int32)) fun y5 => m_X3_slipAll_L2 v FU x1 y5 M
set_option maxRecDepth 100000 in
set_option maxHeartbeats 4000000 in
theorem v_X3_slipAll_J47 {X : Cx} {G : Gx} {sh : List Sh} (hF : FX X G sh 3 cX3_slipAll (yX3_slipAll).cls none rmX3_slipAll) {v : Nat} (hT : TexAt sh) (hv : VilAt sh v) (n2 : Int32 → Int32 → Mm → Option (Unit × Mm)) (h2 : ∀ (x1 : Int32) (x2 : Int32) (M : Mm), VR X G sh 3 rvV M 2 [(0, .ref (G.2.2.2.2 v)), (1, .int x1), (2, .int x2)] [] (n2 x1 x2 M)) : ∀ (x1 : Int32) (x2 : Int32) (M : Mm), VR X G sh 3 rvV M 47 [(0, .ref (G.2.2.2.2 v)), (1, .int x1), (2, .int x2)] [] (m_X3_slipAll_J47 v n2 x1 x2 M) := by
  intro x1 x2 M
  unfold m_X3_slipAll_J47
  refine v_iinc (v := (x2 + 1)) (lo' := fun y1 => [(2, .int y1), (0, .ref (G.2.2.2.2 v)), (1, .int x1)]) 2 50 hF dX3_slipAll_47 rfl rfl rfl (by decide) (fun _ => rfl) (fun y1 => ?_)
  refine v_goto 2 hF dX3_slipAll_50 (by decide) ?_
  refine VR.pick [1, 2, 0] rfl ?_
  exact h2 x1 y1 M
set_option maxRecDepth 100000 in
set_option maxHeartbeats 4000000 in
theorem v_X3_slipAll_B2 {X : Cx} {G : Gx} {sh : List Sh} (hF : FX X G sh 3 cX3_slipAll (yX3_slipAll).cls none rmX3_slipAll) {v : Nat} (hT : TexAt sh) (hv : VilAt sh v) (n2 : Int32 → Int32 → Mm → Option (Unit × Mm)) (h2 : ∀ (x1 : Int32) (x2 : Int32) (M : Mm), VR X G sh 3 rvV M 2 [(0, .ref (G.2.2.2.2 v)), (1, .int x1), (2, .int x2)] [] (n2 x1 x2 M)) : ∀ (x1 : Int32) (x2 : Int32) (M : Mm), VR X G sh 3 rvV M 2 [(0, .ref (G.2.2.2.2 v)), (1, .int x1), (2, .int x2)] [] (m_X3_slipAll_B2 v n2 x1 x2 M) := by
  intro x1 x2 M
  unfold m_X3_slipAll_B2
  refine v_iload_n 2 3 hF dX3_slipAll_2 rfl rfl rfl ?_
  refine v_aload_n 0 4 hF dX3_slipAll_3 rfl rfl rfl ?_
  refine v_getI 7 hF dX3_slipAll_4 rfl fl_X3_53 hv.1 rfl ?_
  refine v_icmp_ge 10 53 hF dX3_slipAll_7 rfl (by decide) (fun _ => ?_) (fun _ => ?_)
  · exact v_vret hF dX3_slipAll_53
  · refine v_iload_n 2 11 hF dX3_slipAll_10 rfl rfl rfl ?_
    refine v_bipush (8) 13 hF dX3_slipAll_11 rfl (by decide) ?_
    refine v_icmp_ge 16 53 hF dX3_slipAll_13 rfl (by decide) (fun _ => ?_) (fun _ => ?_)
    · exact v_vret hF dX3_slipAll_53
    · refine v_aload_n 0 17 hF dX3_slipAll_16 rfl rfl rfl ?_
      refine v_getR (b := v + 6) 20 hF dX3_slipAll_17 rfl fl_X3_31 hv.1 rfl ?_
      refine v_iload_n 2 21 hF dX3_slipAll_20 rfl rfl rfl ?_
      refine v_iald 22 hF dX3_slipAll_21 rfl (hv.2.2.2.2.2.2.1) ?_
      refine v_iconst (-1) 23 hF dX3_slipAll_22 rfl (by decide) ?_
      refine v_icmp_eq 26 47 hF dX3_slipAll_23 rfl (by decide) (fun _ => ?_) (fun _ => ?_)
      · refine VR.pick [0, 1, 2] rfl ?_
        exact v_X3_slipAll_J47 hF hT hv _ h2 x1 x2 M
      · refine v_aload_n 0 27 hF dX3_slipAll_26 rfl rfl rfl ?_
        refine v_getR (b := v + 6) 30 hF dX3_slipAll_27 rfl fl_X3_31 hv.1 rfl ?_
        refine v_iload_n 2 31 hF dX3_slipAll_30 rfl rfl rfl ?_
        refine v_aload_n 0 32 hF dX3_slipAll_31 rfl rfl rfl ?_
        refine v_aload_n 0 33 hF dX3_slipAll_32 rfl rfl rfl ?_
        refine v_getR (b := v + 5) 36 hF dX3_slipAll_33 rfl fl_X3_28 hv.1 rfl ?_
        refine v_iload_n 2 37 hF dX3_slipAll_36 rfl rfl rfl ?_
        refine v_iald 38 hF dX3_slipAll_37 rfl (hv.2.2.2.2.2.1) ?_
        refine v_callI ([.int ((M (v + 5) x2.toNatClampNeg))]) ([.int x2, .ref (G.2.2.2.2 (v + 6))]) 41 hF dX3_slipAll_38 rfl cw_X3_66 rfl (hv.1) (c_X3_houseOf (G := G) hT hv M ((M (v + 5) x2.toNatClampNeg))) ⟨rfl, rfl, Nat.le_of_ble_eq_true rfl, Nat.le_of_ble_eq_true rfl⟩ rfl rfl (Nat.le_of_ble_eq_true rfl) (fun r3 M2 => ?_)
        refine v_iload_n 1 42 hF dX3_slipAll_41 rfl rfl rfl ?_
        refine v_iadd 43 hF dX3_slipAll_42 rfl ?_
        refine v_bipush (8) 45 hF dX3_slipAll_43 rfl (by decide) ?_
        refine v_irem 46 hF dX3_slipAll_45 rfl ?_
        refine v_iast 47 hF dX3_slipAll_46 rfl (hv.2.2.2.2.2.2.1) (fun M4 => ?_)
        refine VR.pick [0, 1, 2] rfl ?_
        exact v_X3_slipAll_J47 hF hT hv _ h2 x1 x2 M4
theorem v_X3_slipAll_L2 {X : Cx} {G : Gx} {sh : List Sh} (hF : FX X G sh 3 cX3_slipAll (yX3_slipAll).cls none rmX3_slipAll) {v : Nat} (hT : TexAt sh) (hv : VilAt sh v) : ∀ (n : Nat), ∀ (x1 : Int32) (x2 : Int32) (M : Mm), VR X G sh 3 rvV M 2 [(0, .ref (G.2.2.2.2 v)), (1, .int x1), (2, .int x2)] [] (m_X3_slipAll_L2 v n x1 x2 M) := by
  intro n
  induction n with
  | zero => intro x1 x2 M; exact VR.none
  | succ n ih => exact v_X3_slipAll_B2 hF hT hv _ ih
set_option maxRecDepth 100000 in
set_option maxHeartbeats 4000000 in
theorem c_X3_slipAll {G : Gx} {sh : List Sh} {v : Nat} (hT : TexAt sh) (hv : VilAt sh v) (M : Mm) (x1 : Int32) : CT yX3_slipAll cX3_slipAll 3 none rmX3_slipAll G sh [.ref (G.2.2.2.2 v), .int x1] rvV M (m_X3_slipAll v x1 M) := by
  refine CT.of (by decide +kernel) (Nat.le_of_ble_eq_true rfl) (fun X hF => ?_)
  show VR X G sh 3 rvV M 0 [(0, .ref (G.2.2.2.2 v)), (1, .int x1)] [] _
  unfold m_X3_slipAll
  refine v_iconst (0) 1 hF dX3_slipAll_0 rfl (by decide) ?_
  refine v_istore_n (lo' := fun y5 => [(2, .int y5), (0, .ref (G.2.2.2.2 v)), (1, .int x1)]) 2 hF dX3_slipAll_1 rfl rfl (by decide) (fun _ => rfl) (fun y5 => ?_)
  refine VR.pick [1, 2, 0] rfl ?_
  exact v_X3_slipAll_L2 hF hT hv FU x1 y5 M
abbrev rmX3_carries : Room := { frames := 3, cells := 0, slots := 0, locals := 74 }
def m_X3_carries_J86 (v : Nat) (x1 : Int32) (x3 : Int32) (x4 : Int32) (s0 : Int32) (M : Mm) : Option (Int32 × Mm) := lt1 s0 fun y1 => gd (inr x1 5) (if (M (v + 1) x1.toNatClampNeg) = (1) then (gd (z01 x4) (some (x4, M))) else (if (M (v + 1) x1.toNatClampNeg) = (2) then (gd (z01 y1) (some (y1, M))) else (if (M (v + 1) x1.toNatClampNeg) = (3) then (if x4 = 0 then (some ((0 : Int32), M)) else (gd (!(decide ((7 : Int32) = 0))) (gd (inr x1 5) (if (irm ((M v 1)) ((7 : Int32))) = (M (v + 2) x1.toNatClampNeg) then (some ((0 : Int32), M)) else (some ((1 : Int32), M)))))) else (if (M (v + 1) x1.toNatClampNeg) = (4) then (if y1 = 0 then (some ((0 : Int32), M)) else (gd (inr x1 5) (if (4 : Int32) < (M (v + 2) x1.toNatClampNeg) then (some ((0 : Int32), M)) else (some ((1 : Int32), M))))) else (if (M (v + 1) x1.toNatClampNeg) = (5) then (some ((1 : Int32), M)) else (gd (z01 x3) (some (x3, M))))))))
def m_X3_carries_J85 (v : Nat) (x1 : Int32) (x3 : Int32) (x4 : Int32) (M : Mm) : Option (Int32 × Mm) := m_X3_carries_J86 v x1 x3 x4 ((0 : Int32)) M
def m_X3_carries_J65 (v : Nat) (x1 : Int32) (x2 : Int32) (x3 : Int32) (s0 : Int32) (M : Mm) : Option (Int32 × Mm) := lt1 s0 fun y2 => if x3 = 0 then (m_X3_carries_J85 v x1 x3 y2 M) else (gd (inr x2 8) (if (M (v + 4) x2.toNatClampNeg) = x1 then (m_X3_carries_J85 v x1 x3 y2 M) else (m_X3_carries_J86 v x1 x3 y2 ((1 : Int32)) M)))
def m_X3_carries_J60 (v : Nat) (x1 : Int32) (x2 : Int32) (x3 : Int32) (M : Mm) : Option (Int32 × Mm) := m_X3_carries_J65 v x1 x2 x3 ((1 : Int32)) M
def m_X3_carries_J44 (v : Nat) (x1 : Int32) (x2 : Int32) (s0 : Int32) (M : Mm) : Option (Int32 × Mm) := lt1 s0 fun y3 => if y3 = 0 then (gd (inr x2 8) (if (M (v + 7) x2.toNatClampNeg) < (50 : Int32) then (m_X3_carries_J65 v x1 x2 y3 ((0 : Int32)) M) else (m_X3_carries_J60 v x1 x2 y3 M))) else (m_X3_carries_J60 v x1 x2 y3 M)
def m_X3_carries (v : Nat) (x1 : Int32) (x2 : Int32) (M : Mm) : Option (Int32 × Mm) := bd (m_X3_isOne v x1 M) fun r5 M4 => if r5 = 0 then (some ((0 : Int32), M4)) else (bd (m_X3_isLetter v x2 M4) fun r7 M6 => if r7 = 0 then (some ((0 : Int32), M6)) else (if ((shr ((M6 v 6)) x1) &&& (1 : Int32)) = 0 then (bd (m_X3_ruled v ((0 : Int32)) x1 x2 M6) fun r9 M8 => if r9 = 0 then (m_X3_carries_J44 v x1 x2 ((0 : Int32)) M8) else (m_X3_carries_J44 v x1 x2 ((1 : Int32)) M8)) else (some ((0 : Int32), M6))))
set_option maxRecDepth 100000 in
set_option maxHeartbeats 4000000 in
theorem v_X3_carries_J86 {X : Cx} {G : Gx} {sh : List Sh} (hF : FX X G sh 6 cX3_carries (yX3_carries).cls (some .boolean) rmX3_carries) {v : Nat} (hT : TexAt sh) (hv : VilAt sh v) : ∀ (x1 : Int32) (x3 : Int32) (x4 : Int32) (s0 : Int32) (M : Mm), VR X G sh 6 rvI M 86 [(0, .ref (G.2.2.2.2 v)), (1, .int x1), (3, .int x3), (4, .int x4)] [.int s0] (m_X3_carries_J86 v x1 x3 x4 s0 M) := by
  intro x1 x3 x4 s0 M
  unfold m_X3_carries_J86
  refine v_istore (lo' := fun y1 => [(5, .int y1), (0, .ref (G.2.2.2.2 v)), (1, .int x1), (3, .int x3), (4, .int x4)]) 88 hF dX3_carries_86 rfl (by decide) (fun _ => rfl) (fun y1 => ?_)
  refine v_aload_n 1 89 hF dX3_carries_88 rfl rfl rfl ?_
  refine v_getR (b := v + 1) 92 hF dX3_carries_89 rfl fl_X3_15 hv.1 rfl ?_
  refine v_iload_n 2 93 hF dX3_carries_92 rfl rfl rfl ?_
  refine v_iald 94 hF dX3_carries_93 rfl (hv.2.1) ?_
  refine v_ite (fun e1 => ?_) (fun n0 => ?_)
  · refine v_tsIn (1) (34) 128 hF dX3_carries_94 e1 (by decide) rfl (by decide) ?_
    refine v_iload 4 130 hF dX3_carries_128 rfl rfl ?_
    exact v_zret hF dX3_carries_130
  · refine v_ite (fun e1 => ?_) (fun n1 => ?_)
    · refine v_tsIn (2) (37) 131 hF dX3_carries_94 e1 (by decide) rfl (by decide) ?_
      refine v_iload 0 133 hF dX3_carries_131 rfl rfl ?_
      exact v_zret hF dX3_carries_133
    · refine v_ite (fun e1 => ?_) (fun n2 => ?_)
      · refine v_tsIn (3) (40) 134 hF dX3_carries_94 e1 (by decide) rfl (by decide) ?_
        refine v_iload 4 136 hF dX3_carries_134 rfl rfl ?_
        refine v_if_eq 139 159 hF dX3_carries_136 rfl (by decide) (fun _ => ?_) (fun _ => ?_)
        · refine v_iconst (0) 160 hF dX3_carries_159 rfl (by decide) ?_
          exact v_zret0 hF dX3_carries_160 rfl
        · refine v_aload_n 1 140 hF dX3_carries_139 rfl rfl rfl ?_
          refine v_getI 143 hF dX3_carries_140 rfl fl_X3_44 hv.1 rfl ?_
          refine v_bipush (7) 145 hF dX3_carries_143 rfl (by decide) ?_
          refine v_irem 146 hF dX3_carries_145 rfl ?_
          refine v_aload_n 1 147 hF dX3_carries_146 rfl rfl rfl ?_
          refine v_getR (b := v + 2) 150 hF dX3_carries_147 rfl fl_X3_19 hv.1 rfl ?_
          refine v_iload_n 2 151 hF dX3_carries_150 rfl rfl rfl ?_
          refine v_iald 152 hF dX3_carries_151 rfl (hv.2.2.1) ?_
          refine v_icmp_eq 155 159 hF dX3_carries_152 rfl (by decide) (fun _ => ?_) (fun _ => ?_)
          · refine v_iconst (0) 160 hF dX3_carries_159 rfl (by decide) ?_
            exact v_zret0 hF dX3_carries_160 rfl
          · refine v_iconst (1) 156 hF dX3_carries_155 rfl (by decide) ?_
            refine v_goto 160 hF dX3_carries_156 (by decide) ?_
            exact v_zret0 hF dX3_carries_160 rfl
      · refine v_ite (fun e1 => ?_) (fun n3 => ?_)
        · refine v_tsIn (4) (67) 161 hF dX3_carries_94 e1 (by decide) rfl (by decide) ?_
          refine v_iload 0 163 hF dX3_carries_161 rfl rfl ?_
          refine v_if_eq 166 180 hF dX3_carries_163 rfl (by decide) (fun _ => ?_) (fun _ => ?_)
          · refine v_iconst (0) 181 hF dX3_carries_180 rfl (by decide) ?_
            exact v_zret0 hF dX3_carries_181 rfl
          · refine v_aload_n 1 167 hF dX3_carries_166 rfl rfl rfl ?_
            refine v_getR (b := v + 2) 170 hF dX3_carries_167 rfl fl_X3_19 hv.1 rfl ?_
            refine v_iload_n 2 171 hF dX3_carries_170 rfl rfl rfl ?_
            refine v_iald 172 hF dX3_carries_171 rfl (hv.2.2.1) ?_
            refine v_iconst (4) 173 hF dX3_carries_172 rfl (by decide) ?_
            refine v_icmp_gt 176 180 hF dX3_carries_173 rfl (by decide) (fun _ => ?_) (fun _ => ?_)
            · refine v_iconst (0) 181 hF dX3_carries_180 rfl (by decide) ?_
              exact v_zret0 hF dX3_carries_181 rfl
            · refine v_iconst (1) 177 hF dX3_carries_176 rfl (by decide) ?_
              refine v_goto 181 hF dX3_carries_177 (by decide) ?_
              exact v_zret0 hF dX3_carries_181 rfl
        · refine v_ite (fun e1 => ?_) (fun n4 => ?_)
          · refine v_tsIn (5) (88) 182 hF dX3_carries_94 e1 (by decide) rfl (by decide) ?_
            refine v_iconst (1) 183 hF dX3_carries_182 rfl (by decide) ?_
            exact v_zret0 hF dX3_carries_183 rfl
          · refine v_tsOut 184 hF dX3_carries_94 (by have a0 := lv_neT n0 (a := (1)) (by decide); have a1 := lv_neT n1 (a := (2)) (by decide); have a2 := lv_neT n2 (a := (3)) (by decide); have a3 := lv_neT n3 (a := (4)) (by decide); have a4 := lv_neT n4 (a := (5)) (by decide); omega) (by decide) ?_
            refine v_iload_n 3 185 hF dX3_carries_184 rfl rfl rfl ?_
            exact v_zret hF dX3_carries_185
set_option maxRecDepth 100000 in
set_option maxHeartbeats 4000000 in
theorem v_X3_carries_J85 {X : Cx} {G : Gx} {sh : List Sh} (hF : FX X G sh 6 cX3_carries (yX3_carries).cls (some .boolean) rmX3_carries) {v : Nat} (hT : TexAt sh) (hv : VilAt sh v) : ∀ (x1 : Int32) (x3 : Int32) (x4 : Int32) (M : Mm), VR X G sh 6 rvI M 85 [(0, .ref (G.2.2.2.2 v)), (1, .int x1), (3, .int x3), (4, .int x4)] [] (m_X3_carries_J85 v x1 x3 x4 M) := by
  intro x1 x3 x4 M
  unfold m_X3_carries_J85
  refine v_iconst (0) 86 hF dX3_carries_85 rfl (by decide) ?_
  refine VR.pick [0, 1, 2, 3] rfl ?_
  exact v_X3_carries_J86 hF hT hv x1 x3 x4 ((0 : Int32)) M
set_option maxRecDepth 100000 in
set_option maxHeartbeats 4000000 in
theorem v_X3_carries_J65 {X : Cx} {G : Gx} {sh : List Sh} (hF : FX X G sh 6 cX3_carries (yX3_carries).cls (some .boolean) rmX3_carries) {v : Nat} (hT : TexAt sh) (hv : VilAt sh v) : ∀ (x1 : Int32) (x2 : Int32) (x3 : Int32) (s0 : Int32) (M : Mm), VR X G sh 6 rvI M 65 [(0, .ref (G.2.2.2.2 v)), (1, .int x1), (2, .int x2), (3, .int x3)] [.int s0] (m_X3_carries_J65 v x1 x2 x3 s0 M) := by
  intro x1 x2 x3 s0 M
  unfold m_X3_carries_J65
  refine v_istore (lo' := fun y2 => [(4, .int y2), (0, .ref (G.2.2.2.2 v)), (1, .int x1), (2, .int x2), (3, .int x3)]) 67 hF dX3_carries_65 rfl (by decide) (fun _ => rfl) (fun y2 => ?_)
  refine v_iload_n 4 68 hF dX3_carries_67 rfl rfl rfl ?_
  refine v_if_eq 71 85 hF dX3_carries_68 rfl (by decide) (fun _ => ?_) (fun _ => ?_)
  · refine VR.pick [1, 2, 4, 0] rfl ?_
    exact v_X3_carries_J85 hF hT hv x1 x3 y2 M
  · refine v_aload_n 1 72 hF dX3_carries_71 rfl rfl rfl ?_
    refine v_getR (b := v + 4) 75 hF dX3_carries_72 rfl fl_X3_25 hv.1 rfl ?_
    refine v_iload_n 3 76 hF dX3_carries_75 rfl rfl rfl ?_
    refine v_iald 77 hF dX3_carries_76 rfl (hv.2.2.2.2.1) ?_
    refine v_iload_n 2 78 hF dX3_carries_77 rfl rfl rfl ?_
    refine v_icmp_eq 81 85 hF dX3_carries_78 rfl (by decide) (fun _ => ?_) (fun _ => ?_)
    · refine VR.pick [1, 2, 4, 0] rfl ?_
      exact v_X3_carries_J85 hF hT hv x1 x3 y2 M
    · refine v_iconst (1) 82 hF dX3_carries_81 rfl (by decide) ?_
      refine v_goto 86 hF dX3_carries_82 (by decide) ?_
      refine VR.pick [1, 2, 4, 0] rfl ?_
      exact v_X3_carries_J86 hF hT hv x1 x3 y2 ((1 : Int32)) M
set_option maxRecDepth 100000 in
set_option maxHeartbeats 4000000 in
theorem v_X3_carries_J60 {X : Cx} {G : Gx} {sh : List Sh} (hF : FX X G sh 6 cX3_carries (yX3_carries).cls (some .boolean) rmX3_carries) {v : Nat} (hT : TexAt sh) (hv : VilAt sh v) : ∀ (x1 : Int32) (x2 : Int32) (x3 : Int32) (M : Mm), VR X G sh 6 rvI M 60 [(0, .ref (G.2.2.2.2 v)), (1, .int x1), (2, .int x2), (3, .int x3)] [] (m_X3_carries_J60 v x1 x2 x3 M) := by
  intro x1 x2 x3 M
  unfold m_X3_carries_J60
  refine v_iconst (1) 61 hF dX3_carries_60 rfl (by decide) ?_
  refine v_goto 65 hF dX3_carries_61 (by decide) ?_
  refine VR.pick [0, 1, 2, 3] rfl ?_
  exact v_X3_carries_J65 hF hT hv x1 x2 x3 ((1 : Int32)) M
set_option maxRecDepth 100000 in
set_option maxHeartbeats 4000000 in
theorem v_X3_carries_J44 {X : Cx} {G : Gx} {sh : List Sh} (hF : FX X G sh 6 cX3_carries (yX3_carries).cls (some .boolean) rmX3_carries) {v : Nat} (hT : TexAt sh) (hv : VilAt sh v) : ∀ (x1 : Int32) (x2 : Int32) (s0 : Int32) (M : Mm), VR X G sh 6 rvI M 44 [(0, .ref (G.2.2.2.2 v)), (1, .int x1), (2, .int x2)] [.int s0] (m_X3_carries_J44 v x1 x2 s0 M) := by
  intro x1 x2 s0 M
  unfold m_X3_carries_J44
  refine v_istore_n (lo' := fun y3 => [(3, .int y3), (0, .ref (G.2.2.2.2 v)), (1, .int x1), (2, .int x2)]) 45 hF dX3_carries_44 rfl rfl (by decide) (fun _ => rfl) (fun y3 => ?_)
  refine v_iload_n 0 46 hF dX3_carries_45 rfl rfl rfl ?_
  refine v_if_ne 49 60 hF dX3_carries_46 rfl (by decide) (fun _ => ?_) (fun _ => ?_)
  · refine VR.pick [1, 2, 3, 0] rfl ?_
    exact v_X3_carries_J60 hF hT hv x1 x2 y3 M
  · refine v_aload_n 1 50 hF dX3_carries_49 rfl rfl rfl ?_
    refine v_getR (b := v + 7) 53 hF dX3_carries_50 rfl fl_X3_34 hv.1 rfl ?_
    refine v_iload_n 3 54 hF dX3_carries_53 rfl rfl rfl ?_
    refine v_iald 55 hF dX3_carries_54 rfl (hv.2.2.2.2.2.2.2.1) ?_
    refine v_bipush (50) 57 hF dX3_carries_55 rfl (by decide) ?_
    refine v_icmp_lt 60 64 hF dX3_carries_57 rfl (by decide) (fun _ => ?_) (fun _ => ?_)
    · refine v_iconst (0) 65 hF dX3_carries_64 rfl (by decide) ?_
      refine VR.pick [1, 2, 3, 0] rfl ?_
      exact v_X3_carries_J65 hF hT hv x1 x2 y3 ((0 : Int32)) M
    · refine VR.pick [1, 2, 3, 0] rfl ?_
      exact v_X3_carries_J60 hF hT hv x1 x2 y3 M
set_option maxRecDepth 100000 in
set_option maxHeartbeats 4000000 in
theorem c_X3_carries {G : Gx} {sh : List Sh} {v : Nat} (hT : TexAt sh) (hv : VilAt sh v) (M : Mm) (x1 : Int32) (x2 : Int32) : CT yX3_carries cX3_carries 6 (some .boolean) rmX3_carries G sh [.ref (G.2.2.2.2 v), .int x1, .int x2] rvI M (m_X3_carries v x1 x2 M) := by
  refine CT.of (by decide +kernel) (Nat.le_of_ble_eq_true rfl) (fun X hF => ?_)
  show VR X G sh 6 rvI M 0 [(0, .ref (G.2.2.2.2 v)), (1, .int x1), (2, .int x2)] [] _
  unfold m_X3_carries
  refine v_aload_n 0 1 hF dX3_carries_0 rfl rfl rfl ?_
  refine v_iload_n 1 2 hF dX3_carries_1 rfl rfl rfl ?_
  refine v_callI ([.int x1]) ([]) 5 hF dX3_carries_2 rfl cw_X3_59 rfl (hv.1) (c_X3_isOne (G := G) hT hv M x1) ⟨rfl, rfl, Nat.le_of_ble_eq_true rfl, Nat.le_of_ble_eq_true rfl⟩ rfl rfl (Nat.le_of_ble_eq_true rfl) (fun r5 M4 => ?_)
  refine v_if_eq 8 27 hF dX3_carries_5 rfl (by decide) (fun _ => ?_) (fun _ => ?_)
  · refine v_iconst (0) 28 hF dX3_carries_27 rfl (by decide) ?_
    exact v_zret0 hF dX3_carries_28 rfl
  · refine v_aload_n 0 9 hF dX3_carries_8 rfl rfl rfl ?_
    refine v_iload_n 2 10 hF dX3_carries_9 rfl rfl rfl ?_
    refine v_callI ([.int x2]) ([]) 13 hF dX3_carries_10 rfl cw_X3_63 rfl (hv.1) (c_X3_isLetter (G := G) hT hv M4 x2) ⟨rfl, rfl, Nat.le_of_ble_eq_true rfl, Nat.le_of_ble_eq_true rfl⟩ rfl rfl (Nat.le_of_ble_eq_true rfl) (fun r7 M6 => ?_)
    refine v_if_eq 16 27 hF dX3_carries_13 rfl (by decide) (fun _ => ?_) (fun _ => ?_)
    · refine v_iconst (0) 28 hF dX3_carries_27 rfl (by decide) ?_
      exact v_zret0 hF dX3_carries_28 rfl
    · refine v_aload_n 0 17 hF dX3_carries_16 rfl rfl rfl ?_
      refine v_getI 20 hF dX3_carries_17 rfl fl_X3_56 hv.1 rfl ?_
      refine v_iload_n 1 21 hF dX3_carries_20 rfl rfl rfl ?_
      refine v_ishr 22 hF dX3_carries_21 rfl ?_
      refine v_iconst (1) 23 hF dX3_carries_22 rfl (by decide) ?_
      refine v_iand 24 hF dX3_carries_23 rfl ?_
      refine v_if_eq 27 29 hF dX3_carries_24 rfl (by decide) (fun _ => ?_) (fun _ => ?_)
      · refine v_aload_n 0 30 hF dX3_carries_29 rfl rfl rfl ?_
        refine v_iconst (0) 31 hF dX3_carries_30 rfl (by decide) ?_
        refine v_iload_n 1 32 hF dX3_carries_31 rfl rfl rfl ?_
        refine v_iload_n 2 33 hF dX3_carries_32 rfl rfl rfl ?_
        refine v_callI ([.int ((0 : Int32)), .int x1, .int x2]) ([]) 36 hF dX3_carries_33 rfl cw_X3_114 rfl (hv.1) (c_X3_ruled (G := G) hT hv M6 ((0 : Int32)) x1 x2) ⟨rfl, rfl, Nat.le_of_ble_eq_true rfl, Nat.le_of_ble_eq_true rfl⟩ rfl rfl (Nat.le_of_ble_eq_true rfl) (fun r9 M8 => ?_)
        refine v_if_eq 39 43 hF dX3_carries_36 rfl (by decide) (fun _ => ?_) (fun _ => ?_)
        · refine v_iconst (0) 44 hF dX3_carries_43 rfl (by decide) ?_
          refine VR.pick [0, 1, 2] rfl ?_
          exact v_X3_carries_J44 hF hT hv x1 x2 ((0 : Int32)) M8
        · refine v_iconst (1) 40 hF dX3_carries_39 rfl (by decide) ?_
          refine v_goto 44 hF dX3_carries_40 (by decide) ?_
          refine VR.pick [0, 1, 2] rfl ?_
          exact v_X3_carries_J44 hF hT hv x1 x2 ((1 : Int32)) M8
      · refine v_iconst (0) 28 hF dX3_carries_27 rfl (by decide) ?_
        exact v_zret0 hF dX3_carries_28 rfl
abbrev rmX3_softens : Room := { frames := 3, cells := 0, slots := 0, locals := 74 }
def m_X3_softens (v : Nat) (x1 : Int32) (x2 : Int32) (M : Mm) : Option (Int32 × Mm) := bd (m_X3_isOne v x1 M) fun r2 M1 => if r2 = 0 then (some ((0 : Int32), M1)) else (bd (m_X3_isLetter v x2 M1) fun r4 M3 => if r4 = 0 then (some ((0 : Int32), M3)) else (bd (m_X3_ruled v ((1 : Int32)) x1 x2 M3) fun r6 M5 => lt1 r6 fun y7 => gd (inr x1 5) (if (M5 (v + 1) x1.toNatClampNeg) = (1) then (some (((2 : Int32) * y7), M5)) else (if (M5 (v + 1) x1.toNatClampNeg) = (2) then (gd (inr x1 5) (some ((y7 + (M5 (v + 2) x1.toNatClampNeg)), M5))) else (if (M5 (v + 1) x1.toNatClampNeg) = (3) then (gd (inr x2 8) (if (M5 (v + 7) x2.toNatClampNeg) ≤ (20 : Int32) then (some ((0 : Int32), M5)) else (some (((2 : Int32) * y7), M5)))) else (if (M5 (v + 1) x1.toNatClampNeg) = (4) then (gd (inr x1 5) (some ((-((y7 + (M5 (v + 2) x1.toNatClampNeg)))), M5))) else (if (M5 (v + 1) x1.toNatClampNeg) = (5) then (some ((0 : Int32), M5)) else (some (y7, M5)))))))))
set_option maxRecDepth 100000 in
set_option maxHeartbeats 4000000 in
theorem c_X3_softens {G : Gx} {sh : List Sh} {v : Nat} (hT : TexAt sh) (hv : VilAt sh v) (M : Mm) (x1 : Int32) (x2 : Int32) : CT yX3_softens cX3_softens 4 (some .int) rmX3_softens G sh [.ref (G.2.2.2.2 v), .int x1, .int x2] rvI M (m_X3_softens v x1 x2 M) := by
  refine CT.of (by decide +kernel) (Nat.le_of_ble_eq_true rfl) (fun X hF => ?_)
  show VR X G sh 4 rvI M 0 [(0, .ref (G.2.2.2.2 v)), (1, .int x1), (2, .int x2)] [] _
  unfold m_X3_softens
  refine v_aload_n 0 1 hF dX3_softens_0 rfl rfl rfl ?_
  refine v_iload_n 1 2 hF dX3_softens_1 rfl rfl rfl ?_
  refine v_callI ([.int x1]) ([]) 5 hF dX3_softens_2 rfl cw_X3_59 rfl (hv.1) (c_X3_isOne (G := G) hT hv M x1) ⟨rfl, rfl, Nat.le_of_ble_eq_true rfl, Nat.le_of_ble_eq_true rfl⟩ rfl rfl (Nat.le_of_ble_eq_true rfl) (fun r2 M1 => ?_)
  refine v_if_eq 8 16 hF dX3_softens_5 rfl (by decide) (fun _ => ?_) (fun _ => ?_)
  · refine v_iconst (0) 17 hF dX3_softens_16 rfl (by decide) ?_
    exact v_iret hF dX3_softens_17
  · refine v_aload_n 0 9 hF dX3_softens_8 rfl rfl rfl ?_
    refine v_iload_n 2 10 hF dX3_softens_9 rfl rfl rfl ?_
    refine v_callI ([.int x2]) ([]) 13 hF dX3_softens_10 rfl cw_X3_63 rfl (hv.1) (c_X3_isLetter (G := G) hT hv M1 x2) ⟨rfl, rfl, Nat.le_of_ble_eq_true rfl, Nat.le_of_ble_eq_true rfl⟩ rfl rfl (Nat.le_of_ble_eq_true rfl) (fun r4 M3 => ?_)
    refine v_if_ne 16 18 hF dX3_softens_13 rfl (by decide) (fun _ => ?_) (fun _ => ?_)
    · refine v_aload_n 0 19 hF dX3_softens_18 rfl rfl rfl ?_
      refine v_iconst (1) 20 hF dX3_softens_19 rfl (by decide) ?_
      refine v_iload_n 1 21 hF dX3_softens_20 rfl rfl rfl ?_
      refine v_iload_n 2 22 hF dX3_softens_21 rfl rfl rfl ?_
      refine v_callI ([.int ((1 : Int32)), .int x1, .int x2]) ([]) 25 hF dX3_softens_22 rfl cw_X3_114 rfl (hv.1) (c_X3_ruled (G := G) hT hv M3 ((1 : Int32)) x1 x2) ⟨rfl, rfl, Nat.le_of_ble_eq_true rfl, Nat.le_of_ble_eq_true rfl⟩ rfl rfl (Nat.le_of_ble_eq_true rfl) (fun r6 M5 => ?_)
      refine v_istore_n (lo' := fun y7 => [(3, .int y7), (0, .ref (G.2.2.2.2 v)), (1, .int x1), (2, .int x2)]) 26 hF dX3_softens_25 rfl rfl (by decide) (fun _ => rfl) (fun y7 => ?_)
      refine v_aload_n 1 27 hF dX3_softens_26 rfl rfl rfl ?_
      refine v_getR (b := v + 1) 30 hF dX3_softens_27 rfl fl_X3_15 hv.1 rfl ?_
      refine v_iload_n 2 31 hF dX3_softens_30 rfl rfl rfl ?_
      refine v_iald 32 hF dX3_softens_31 rfl (hv.2.1) ?_
      refine v_ite (fun e1 => ?_) (fun n0 => ?_)
      · refine v_tsIn (1) (36) 68 hF dX3_softens_32 e1 (by decide) rfl (by decide) ?_
        refine v_iconst (2) 69 hF dX3_softens_68 rfl (by decide) ?_
        refine v_iload_n 0 70 hF dX3_softens_69 rfl rfl rfl ?_
        refine v_imul 71 hF dX3_softens_70 rfl ?_
        exact v_iret hF dX3_softens_71
      · refine v_ite (fun e1 => ?_) (fun n1 => ?_)
        · refine v_tsIn (2) (40) 72 hF dX3_softens_32 e1 (by decide) rfl (by decide) ?_
          refine v_iload_n 0 73 hF dX3_softens_72 rfl rfl rfl ?_
          refine v_aload_n 1 74 hF dX3_softens_73 rfl rfl rfl ?_
          refine v_getR (b := v + 2) 77 hF dX3_softens_74 rfl fl_X3_19 hv.1 rfl ?_
          refine v_iload_n 2 78 hF dX3_softens_77 rfl rfl rfl ?_
          refine v_iald 79 hF dX3_softens_78 rfl (hv.2.2.1) ?_
          refine v_iadd 80 hF dX3_softens_79 rfl ?_
          exact v_iret hF dX3_softens_80
        · refine v_ite (fun e1 => ?_) (fun n2 => ?_)
          · refine v_tsIn (3) (49) 81 hF dX3_softens_32 e1 (by decide) rfl (by decide) ?_
            refine v_aload_n 1 82 hF dX3_softens_81 rfl rfl rfl ?_
            refine v_getR (b := v + 7) 85 hF dX3_softens_82 rfl fl_X3_34 hv.1 rfl ?_
            refine v_iload_n 3 86 hF dX3_softens_85 rfl rfl rfl ?_
            refine v_iald 87 hF dX3_softens_86 rfl (hv.2.2.2.2.2.2.2.1) ?_
            refine v_bipush (20) 89 hF dX3_softens_87 rfl (by decide) ?_
            refine v_icmp_le 92 98 hF dX3_softens_89 rfl (by decide) (fun _ => ?_) (fun _ => ?_)
            · refine v_iconst (0) 99 hF dX3_softens_98 rfl (by decide) ?_
              exact v_iret hF dX3_softens_99
            · refine v_iconst (2) 93 hF dX3_softens_92 rfl (by decide) ?_
              refine v_iload_n 0 94 hF dX3_softens_93 rfl rfl rfl ?_
              refine v_imul 95 hF dX3_softens_94 rfl ?_
              refine v_goto 99 hF dX3_softens_95 (by decide) ?_
              exact v_iret hF dX3_softens_99
          · refine v_ite (fun e1 => ?_) (fun n3 => ?_)
            · refine v_tsIn (4) (68) 100 hF dX3_softens_32 e1 (by decide) rfl (by decide) ?_
              refine v_iload_n 0 101 hF dX3_softens_100 rfl rfl rfl ?_
              refine v_aload_n 1 102 hF dX3_softens_101 rfl rfl rfl ?_
              refine v_getR (b := v + 2) 105 hF dX3_softens_102 rfl fl_X3_19 hv.1 rfl ?_
              refine v_iload_n 2 106 hF dX3_softens_105 rfl rfl rfl ?_
              refine v_iald 107 hF dX3_softens_106 rfl (hv.2.2.1) ?_
              refine v_iadd 108 hF dX3_softens_107 rfl ?_
              refine v_ineg 109 hF dX3_softens_108 rfl ?_
              exact v_iret hF dX3_softens_109
            · refine v_ite (fun e1 => ?_) (fun n4 => ?_)
              · refine v_tsIn (5) (78) 110 hF dX3_softens_32 e1 (by decide) rfl (by decide) ?_
                refine v_iconst (0) 111 hF dX3_softens_110 rfl (by decide) ?_
                exact v_iret hF dX3_softens_111
              · refine v_tsOut 112 hF dX3_softens_32 (by have a0 := lv_neT n0 (a := (1)) (by decide); have a1 := lv_neT n1 (a := (2)) (by decide); have a2 := lv_neT n2 (a := (3)) (by decide); have a3 := lv_neT n3 (a := (4)) (by decide); have a4 := lv_neT n4 (a := (5)) (by decide); omega) (by decide) ?_
                refine v_iload_n 0 113 hF dX3_softens_112 rfl rfl rfl ?_
                exact v_iret hF dX3_softens_113
    · refine v_iconst (0) 17 hF dX3_softens_16 rfl (by decide) ?_
      exact v_iret hF dX3_softens_17
