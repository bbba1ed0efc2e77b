abbrev rmX0_become : Room := { frames := 1, cells := 0, slots := 0, locals := 21 }
def m_X0_become_B21 (v : Nat) (n21 : Int32 → Mm → Option (Unit × Mm)) (x3 : Int32) (M : Mm) : Option (Unit × Mm) := if (40 : Int32) ≤ x3 then (some ((), M)) else (gd (inr x3 40) (lt1 (up M (v + 1) x3.toNatClampNeg ((0 : Int32))) fun M1 => lt1 (x3 + 1) fun y2 => n21 y2 M1))
def m_X0_become_L21 (v : Nat) : Nat → Int32 → Mm → Option (Unit × Mm)
  | 0 => fun _ _ => none
  | n + 1 => m_X0_become_B21 v (m_X0_become_L21 v n)
def m_X0_become (v : Nat) (x1 : Int32) (x2 : Int32) (M : Mm) : Option (Unit × Mm) := lt1 (up M v 0 x1) fun M3 => lt1 (up M3 v 1 ((mmax ((0 : Int32)) ((mmin ((40 : Int32)) x2))))) fun M4 => lt1 ((0 : Int32)) fun y5 => m_X0_become_L21 v FU y5 M4
set_option maxRecDepth 100000 in
set_option maxHeartbeats 4000000 in
theorem v_X0_become_B21 {X : Cx} {G : Gx} {sh : List Sh} (hF : FX X G sh 4 cX0_become (yX0_become).cls none rmX0_become) {v : Nat} (hv : SheAt sh v) (n21 : Int32 → Mm → Option (Unit × Mm)) (h21 : ∀ (x3 : Int32) (M : Mm), VR X G sh 4 rvV M 21 [(0, .ref (G.2.2.2.2 v)), (3, .int x3)] [] (n21 x3 M)) : ∀ (x3 : Int32) (M : Mm), VR X G sh 4 rvV M 21 [(0, .ref (G.2.2.2.2 v)), (3, .int x3)] [] (m_X0_become_B21 v n21 x3 M) := by
  intro x3 M
  unfold m_X0_become_B21
  refine v_iload_n 1 22 hF dX0_become_21 rfl rfl rfl ?_
  refine v_aload_n 0 23 hF dX0_become_22 rfl rfl rfl ?_
  refine v_getR (b := v + 1) 26 hF dX0_become_23 rfl fl_X0_13 hv.1 rfl ?_
  refine v_alen 40 27 hF dX0_become_26 rfl (hv.2) (Or.inl rfl) (by decide) ?_
  refine v_icmp_ge 30 43 hF dX0_become_27 rfl (by decide) (fun _ => ?_) (fun _ => ?_)
  · exact v_vret hF dX0_become_43
  · refine v_aload_n 0 31 hF dX0_become_30 rfl rfl rfl ?_
    refine v_getR (b := v + 1) 34 hF dX0_become_31 rfl fl_X0_13 hv.1 rfl ?_
    refine v_iload_n 1 35 hF dX0_become_34 rfl rfl rfl ?_
    refine v_iconst (0) 36 hF dX0_become_35 rfl (by decide) ?_
    refine v_iast 37 hF dX0_become_36 rfl (hv.2) (fun M1 => ?_)
    refine v_iinc (v := (x3 + 1)) (lo' := fun y2 => [(3, .int y2), (0, .ref (G.2.2.2.2 v))]) 1 40 hF dX0_become_37 rfl rfl rfl (by decide) (fun _ => rfl) (fun y2 => ?_)
    refine v_goto 21 hF dX0_become_40 (by decide) ?_
    refine VR.pick [1, 0] rfl ?_
    exact h21 y2 M1
theorem v_X0_become_L21 {X : Cx} {G : Gx} {sh : List Sh} (hF : FX X G sh 4 cX0_become (yX0_become).cls none rmX0_become) {v : Nat} (hv : SheAt sh v) : ∀ (n : Nat), ∀ (x3 : Int32) (M : Mm), VR X G sh 4 rvV M 21 [(0, .ref (G.2.2.2.2 v)), (3, .int x3)] [] (m_X0_become_L21 v n x3 M) := by
  intro n
  induction n with
  | zero => intro x3 M; exact VR.none
  | succ n ih => exact v_X0_become_B21 hF hv _ ih
set_option maxRecDepth 100000 in
set_option maxHeartbeats 4000000 in
theorem c_X0_become {G : Gx} {sh : List Sh} {v : Nat} (hv : SheAt sh v) (M : Mm) (x1 : Int32) (x2 : Int32) : CT yX0_become cX0_become 4 none rmX0_become G sh [.ref (G.2.2.2.2 v), .int x1, .int x2] rvV M (m_X0_become v x1 x2 M) := by
  refine CT.of (by decide +kernel) (Nat.le_of_ble_eq_true rfl) (fun X hF => ?_)
  show VR X G sh 4 rvV M 0 [(0, .ref (G.2.2.2.2 v)), (1, .int x1), (2, .int x2)] [] _
  unfold m_X0_become
  refine v_aload_n 0 1 hF dX0_become_0 rfl rfl rfl ?_
  refine v_iload_n 1 2 hF dX0_become_1 rfl rfl rfl ?_
  refine v_putI 5 hF dX0_become_2 rfl fl_X0_9 fp_X0_0 hv.1 rfl (fun M3 => ?_)
  refine v_aload_n 0 6 hF dX0_become_5 rfl rfl rfl ?_
  refine v_iconst (0) 7 hF dX0_become_6 rfl (by decide) ?_
  refine v_bipush (40) 9 hF dX0_become_7 rfl (by decide) ?_
  refine v_iload_n 2 10 hF dX0_become_9 rfl rfl rfl ?_
  refine v_mmin 13 hF dX0_become_10 rfl cm_X0_17 ⟨Nat.le_of_ble_eq_true rfl, Nat.le_of_ble_eq_true rfl⟩ ?_
  refine v_mmax 16 hF dX0_become_13 rfl cm_X0_23 ⟨Nat.le_of_ble_eq_true rfl, Nat.le_of_ble_eq_true rfl⟩ ?_
  refine v_putI 19 hF dX0_become_16 rfl fl_X0_26 fp_X0_1 hv.1 rfl (fun M4 => ?_)
  refine v_iconst (0) 20 hF dX0_become_19 rfl (by decide) ?_
  refine v_istore_n (lo' := fun y5 => [(3, .int y5), (0, .ref (G.2.2.2.2 v)), (1, .int x1), (2, .int x2)]) 21 hF dX0_become_20 rfl rfl (by decide) (fun _ => rfl) (fun y5 => ?_)
  refine VR.pick [1, 0] rfl ?_
  exact v_X0_become_L21 hF hv FU y5 M4
abbrev rmX0_isMissing : Room := { frames := 0, cells := 0, slots := 0, locals := 0 }
def m_X0_isMissing (v : Nat)  (M : Mm) : Option (Int32 × Mm) := if (M v 0) = (-1 : Int32) then (some ((1 : Int32), M)) else (some ((0 : Int32), M))
set_option maxRecDepth 100000 in
set_option maxHeartbeats 4000000 in
theorem c_X0_isMissing {G : Gx} {sh : List Sh} {v : Nat} (hv : SheAt sh v) (M : Mm)  : CT yX0_isMissing cX0_isMissing 1 (some .boolean) rmX0_isMissing G sh [.ref (G.2.2.2.2 v)] rvI M (m_X0_isMissing v  M) := by
  refine CT.of (by decide +kernel) (Nat.le_of_ble_eq_true rfl) (fun X hF => ?_)
  show VR X G sh 1 rvI M 0 [(0, .ref (G.2.2.2.2 v))] [] _
  unfold m_X0_isMissing
  refine v_aload_n 0 1 hF dX0_isMissing_0 rfl rfl rfl ?_
  refine v_getI 4 hF dX0_isMissing_1 rfl fl_X0_9 hv.1 rfl ?_
  refine v_iconst (-1) 5 hF dX0_isMissing_4 rfl (by decide) ?_
  refine v_icmp_ne 8 12 hF dX0_isMissing_5 rfl (by decide) (fun _ => ?_) (fun _ => ?_)
  · refine v_iconst (0) 13 hF dX0_isMissing_12 rfl (by decide) ?_
    exact v_zret0 hF dX0_isMissing_13 rfl
  · refine v_iconst (1) 9 hF dX0_isMissing_8 rfl (by decide) ?_
    refine v_goto 13 hF dX0_isMissing_9 (by decide) ?_
    exact v_zret0 hF dX0_isMissing_13 rfl
abbrev rmX0_has : Room := { frames := 0, cells := 0, slots := 0, locals := 0 }
def m_X0_has (v : Nat) (x1 : Int32) (M : Mm) : Option (Int32 × Mm) := if x1 < 0 then (some ((0 : Int32), M)) else (if (M v 1) ≤ x1 then (some ((0 : Int32), M)) else (if (40 : Int32) ≤ x1 then (some ((0 : Int32), M)) else (some ((1 : Int32), M))))
set_option maxRecDepth 100000 in
set_option maxHeartbeats 4000000 in
theorem c_X0_has {G : Gx} {sh : List Sh} {v : Nat} (hv : SheAt sh v) (M : Mm) (x1 : Int32) : CT yX0_has cX0_has 2 (some .boolean) rmX0_has G sh [.ref (G.2.2.2.2 v), .int x1] rvI M (m_X0_has v x1 M) := by
  refine CT.of (by decide +kernel) (Nat.le_of_ble_eq_true rfl) (fun X hF => ?_)
  show VR X G sh 2 rvI M 0 [(0, .ref (G.2.2.2.2 v)), (1, .int x1)] [] _
  unfold m_X0_has
  refine v_iload_n 1 1 hF dX0_has_0 rfl rfl rfl ?_
  refine v_if_lt 4 22 hF dX0_has_1 rfl (by decide) (fun _ => ?_) (fun _ => ?_)
  · refine v_iconst (0) 23 hF dX0_has_22 rfl (by decide) ?_
    exact v_zret0 hF dX0_has_23 rfl
  · refine v_iload_n 1 5 hF dX0_has_4 rfl rfl rfl ?_
    refine v_aload_n 0 6 hF dX0_has_5 rfl rfl rfl ?_
    refine v_getI 9 hF dX0_has_6 rfl fl_X0_26 hv.1 rfl ?_
    refine v_icmp_ge 12 22 hF dX0_has_9 rfl (by decide) (fun _ => ?_) (fun _ => ?_)
    · refine v_iconst (0) 23 hF dX0_has_22 rfl (by decide) ?_
      exact v_zret0 hF dX0_has_23 rfl
    · refine v_iload_n 1 13 hF dX0_has_12 rfl rfl rfl ?_
      refine v_bipush (40) 15 hF dX0_has_13 rfl (by decide) ?_
      refine v_icmp_ge 18 22 hF dX0_has_15 rfl (by decide) (fun _ => ?_) (fun _ => ?_)
      · refine v_iconst (0) 23 hF dX0_has_22 rfl (by decide) ?_
        exact v_zret0 hF dX0_has_23 rfl
      · refine v_iconst (1) 19 hF dX0_has_18 rfl (by decide) ?_
        refine v_goto 23 hF dX0_has_19 (by decide) ?_
        exact v_zret0 hF dX0_has_23 rfl
abbrev rmX0_hasRun : Room := { frames := 0, cells := 0, slots := 0, locals := 0 }
def m_X0_hasRun (v : Nat) (x1 : Int32) (x2 : Int32) (M : Mm) : Option (Int32 × Mm) := if x1 < 0 then (some ((0 : Int32), M)) else (if x2 < 0 then (some ((0 : Int32), M)) else (if (M v 1) < x1 then (some ((0 : Int32), M)) else (if ((M v 1) - x1) < x2 then (some ((0 : Int32), M)) else (some ((1 : Int32), M)))))
set_option maxRecDepth 100000 in
set_option maxHeartbeats 4000000 in
theorem c_X0_hasRun {G : Gx} {sh : List Sh} {v : Nat} (hv : SheAt sh v) (M : Mm) (x1 : Int32) (x2 : Int32) : CT yX0_hasRun cX0_hasRun 3 (some .boolean) rmX0_hasRun G sh [.ref (G.2.2.2.2 v), .int x1, .int x2] rvI M (m_X0_hasRun v x1 x2 M) := by
  refine CT.of (by decide +kernel) (Nat.le_of_ble_eq_true rfl) (fun X hF => ?_)
  show VR X G sh 3 rvI M 0 [(0, .ref (G.2.2.2.2 v)), (1, .int x1), (2, .int x2)] [] _
  unfold m_X0_hasRun
  refine v_iload_n 1 1 hF dX0_hasRun_0 rfl rfl rfl ?_
  refine v_if_lt 4 30 hF dX0_hasRun_1 rfl (by decide) (fun _ => ?_) (fun _ => ?_)
  · refine v_iconst (0) 31 hF dX0_hasRun_30 rfl (by decide) ?_
    exact v_zret0 hF dX0_hasRun_31 rfl
  · refine v_iload_n 2 5 hF dX0_hasRun_4 rfl rfl rfl ?_
    refine v_if_lt 8 30 hF dX0_hasRun_5 rfl (by decide) (fun _ => ?_) (fun _ => ?_)
    · refine v_iconst (0) 31 hF dX0_hasRun_30 rfl (by decide) ?_
      exact v_zret0 hF dX0_hasRun_31 rfl
    · refine v_iload_n 1 9 hF dX0_hasRun_8 rfl rfl rfl ?_
      refine v_aload_n 0 10 hF dX0_hasRun_9 rfl rfl rfl ?_
      refine v_getI 13 hF dX0_hasRun_10 rfl fl_X0_26 hv.1 rfl ?_
      refine v_icmp_gt 16 30 hF dX0_hasRun_13 rfl (by decide) (fun _ => ?_) (fun _ => ?_)
      · refine v_iconst (0) 31 hF dX0_hasRun_30 rfl (by decide) ?_
        exact v_zret0 hF dX0_hasRun_31 rfl
      · refine v_iload_n 2 17 hF dX0_hasRun_16 rfl rfl rfl ?_
        refine v_aload_n 0 18 hF dX0_hasRun_17 rfl rfl rfl ?_
        refine v_getI 21 hF dX0_hasRun_18 rfl fl_X0_26 hv.1 rfl ?_
        refine v_iload_n 1 22 hF dX0_hasRun_21 rfl rfl rfl ?_
        refine v_isub 23 hF dX0_hasRun_22 rfl ?_
        refine v_icmp_gt 26 30 hF dX0_hasRun_23 rfl (by decide) (fun _ => ?_) (fun _ => ?_)
        · refine v_iconst (0) 31 hF dX0_hasRun_30 rfl (by decide) ?_
          exact v_zret0 hF dX0_hasRun_31 rfl
        · refine v_iconst (1) 27 hF dX0_hasRun_26 rfl (by decide) ?_
          refine v_goto 31 hF dX0_hasRun_27 (by decide) ?_
          exact v_zret0 hF dX0_hasRun_31 rfl
abbrev rmX0_item : Room := { frames := 1, cells := 0, slots := 0, locals := 21 }
def m_X0_item (v : Nat) (x1 : Int32) (M : Mm) : Option (Int32 × Mm) := bd (m_X0_has v x1 M) fun r2 M1 => if r2 = 0 then (some ((0 : Int32), M1)) else (gd (inr x1 40) (some ((M1 (v + 1) x1.toNatClampNeg), M1)))
set_option maxRecDepth 100000 in
set_option maxHeartbeats 4000000 in
theorem c_X0_item {G : Gx} {sh : List Sh} {v : Nat} (hv : SheAt sh v) (M : Mm) (x1 : Int32) : CT yX0_item cX0_item 2 (some .int) rmX0_item G sh [.ref (G.2.2.2.2 v), .int x1] rvI M (m_X0_item v x1 M) := by
  refine CT.of (by decide +kernel) (Nat.le_of_ble_eq_true rfl) (fun X hF => ?_)
  show VR X G sh 2 rvI M 0 [(0, .ref (G.2.2.2.2 v)), (1, .int x1)] [] _
  unfold m_X0_item
  refine v_aload_n 0 1 hF dX0_item_0 rfl rfl rfl ?_
  refine v_iload_n 1 2 hF dX0_item_1 rfl rfl rfl ?_
  refine v_callI ([.int x1]) ([]) 5 hF dX0_item_2 rfl cw_X0_29 rfl (hv.1) (c_X0_has (G := G) hv M x1) ⟨rfl, rfl, Nat.le_of_ble_eq_true rfl, Nat.le_of_ble_eq_true rfl⟩ rfl rfl (Nat.le_of_ble_eq_true rfl) (fun r2 M1 => ?_)
  refine v_if_eq 8 17 hF dX0_item_5 rfl (by decide) (fun _ => ?_) (fun _ => ?_)
  · refine v_iconst (0) 18 hF dX0_item_17 rfl (by decide) ?_
    exact v_iret hF dX0_item_18
  · refine v_aload_n 0 9 hF dX0_item_8 rfl rfl rfl ?_
    refine v_getR (b := v + 1) 12 hF dX0_item_9 rfl fl_X0_13 hv.1 rfl ?_
    refine v_iload_n 1 13 hF dX0_item_12 rfl rfl rfl ?_
    refine v_iald 14 hF dX0_item_13 rfl (hv.2) ?_
    refine v_goto 18 hF dX0_item_14 (by decide) ?_
    exact v_iret hF dX0_item_18
abbrev rmX0_put : Room := { frames := 1, cells := 0, slots := 0, locals := 21 }
def m_X0_put_J39 (v : Nat) (s0 : Int32) (s1 : Int32) (M : Mm) : Option (Unit × Mm) := gd (inr s1 40) (lt1 (up M (v + 1) s1.toNatClampNeg s0) fun M1 => some ((), M1))
def m_X0_put (v : Nat) (x1 : Int32) (x2 : Int32) (M : Mm) : Option (Unit × Mm) := bd (m_X0_has v x1 M) fun r3 M2 => if r3 = 0 then (some ((), M2)) else (if (M2 v 0) = 0 then (m_X0_put_J39 v (((x2).toInt8.toInt32)) x1 M2) else (if (M2 v 0) = (1 : Int32) then (m_X0_put_J39 v (((x2).toInt16.toInt32)) x1 M2) else (m_X0_put_J39 v x2 x1 M2)))
set_option maxRecDepth 100000 in
set_option maxHeartbeats 4000000 in
theorem v_X0_put_J39 {X : Cx} {G : Gx} {sh : List Sh} (hF : FX X G sh 3 cX0_put (yX0_put).cls none rmX0_put) {v : Nat} (hv : SheAt sh v) : ∀ (s0 : Int32) (s1 : Int32) (M : Mm), VR X G sh 3 rvV M 39 [(0, .ref (G.2.2.2.2 v))] [.int s0, .int s1, .ref (G.2.2.2.2 (v + 1))] (m_X0_put_J39 v s0 s1 M) := by
  intro s0 s1 M
  unfold m_X0_put_J39
  refine v_iast 40 hF dX0_put_39 rfl (hv.2) (fun M1 => ?_)
  exact v_vret hF dX0_put_40
set_option maxRecDepth 100000 in
set_option maxHeartbeats 4000000 in
theorem c_X0_put {G : Gx} {sh : List Sh} {v : Nat} (hv : SheAt sh v) (M : Mm) (x1 : Int32) (x2 : Int32) : CT yX0_put cX0_put 3 none rmX0_put G sh [.ref (G.2.2.2.2 v), .int x1, .int x2] rvV M (m_X0_put v x1 x2 M) := by
  refine CT.of (by decide +kernel) (Nat.le_of_ble_eq_true rfl) (fun X hF => ?_)
  show VR X G sh 3 rvV M 0 [(0, .ref (G.2.2.2.2 v)), (1, .int x1), (2, .int x2)] [] _
  unfold m_X0_put
  refine v_aload_n 0 1 hF dX0_put_0 rfl rfl rfl ?_
  refine v_iload_n 1 2 hF dX0_put_1 rfl rfl rfl ?_
  refine v_callI ([.int x1]) ([]) 5 hF dX0_put_2 rfl cw_X0_29 rfl (hv.1) (c_X0_has (G := G) hv M x1) ⟨rfl, rfl, Nat.le_of_ble_eq_true rfl, Nat.le_of_ble_eq_true rfl⟩ rfl rfl (Nat.le_of_ble_eq_true rfl) (fun r3 M2 => ?_)
  refine v_if_eq 8 40 hF dX0_put_5 rfl (by decide) (fun _ => ?_) (fun _ => ?_)
  · exact v_vret hF dX0_put_40
  · refine v_aload_n 0 9 hF dX0_put_8 rfl rfl rfl ?_
    refine v_getR (b := v + 1) 12 hF dX0_put_9 rfl fl_X0_13 hv.1 rfl ?_
    refine v_iload_n 1 13 hF dX0_put_12 rfl rfl rfl ?_
    refine v_aload_n 0 14 hF dX0_put_13 rfl rfl rfl ?_
    refine v_getI 17 hF dX0_put_14 rfl fl_X0_9 hv.1 rfl ?_
    refine v_if_ne 20 25 hF dX0_put_17 rfl (by decide) (fun _ => ?_) (fun _ => ?_)
    · refine v_aload_n 0 26 hF dX0_put_25 rfl rfl rfl ?_
      refine v_getI 29 hF dX0_put_26 rfl fl_X0_9 hv.1 rfl ?_
      refine v_iconst (1) 30 hF dX0_put_29 rfl (by decide) ?_
      refine v_icmp_ne 33 38 hF dX0_put_30 rfl (by decide) (fun _ => ?_) (fun _ => ?_)
      · refine v_iload_n 2 39 hF dX0_put_38 rfl rfl rfl ?_
        refine VR.pick [0] rfl ?_
        exact v_X0_put_J39 hF hv x2 x1 M2
      · refine v_iload_n 2 34 hF dX0_put_33 rfl rfl rfl ?_
        refine v_i2s 35 hF dX0_put_34 rfl ?_
        refine v_goto 39 hF dX0_put_35 (by decide) ?_
        refine VR.pick [0] rfl ?_
        exact v_X0_put_J39 hF hv (((x2).toInt16.toInt32)) x1 M2
    · refine v_iload_n 2 21 hF dX0_put_20 rfl rfl rfl ?_
      refine v_i2b 22 hF dX0_put_21 rfl ?_
      refine v_goto 39 hF dX0_put_22 (by decide) ?_
      refine VR.pick [0] rfl ?_
      exact v_X0_put_J39 hF hv (((x2).toInt8.toInt32)) x1 M2
abbrev rmX1_add : Room := { frames := 0, cells := 0, slots := 0, locals := 0 }
def m_X1_add (x1 : Int32) (M : Mm) : Option (Int32 × Mm) := if (M 5 0) < 0 then (some ((0 : Int32), M)) else (if (M 5 0) < (160 : Int32) then (gd (inr ((M 5 0)) 160) (lt1 (up M 6 ((M 5 0)).toNatClampNeg x1) fun M1 => lt1 (up M1 5 0 (((M1 5 0) + (1 : Int32)))) fun M2 => some ((1 : Int32), M2))) else (some ((0 : Int32), M)))
set_option maxRecDepth 100000 in
set_option maxHeartbeats 4000000 in
theorem c_X1_add {G : Gx} {sh : List Sh} (hT : TexAt sh) (hP : TapAt sh) (M : Mm) (x1 : Int32) : CT yX1_add cX1_add 2 (some .boolean) rmX1_add G sh [.ref (G.2.2.2.2 5), .int x1] rvI M (m_X1_add  x1 M) := by
  refine CT.of (by decide +kernel) (Nat.le_of_ble_eq_true rfl) (fun X hF => ?_)
  show VR X G sh 2 rvI M 0 [(0, .ref (G.2.2.2.2 5)), (1, .int x1)] [] _
  unfold m_X1_add
  refine v_aload_n 0 1 hF dX1_add_0 rfl rfl rfl ?_
  refine v_getI 4 hF dX1_add_1 rfl fl_X1_19 hP.1 rfl ?_
  refine v_if_lt 7 17 hF dX1_add_4 rfl (by decide) (fun _ => ?_) (fun _ => ?_)
  · refine v_iconst (0) 18 hF dX1_add_17 rfl (by decide) ?_
    exact v_zret0 hF dX1_add_18 rfl
  · refine v_aload_n 0 8 hF dX1_add_7 rfl rfl rfl ?_
    refine v_getI 11 hF dX1_add_8 rfl fl_X1_19 hP.1 rfl ?_
    refine v_sipush (160) 14 hF dX1_add_11 rfl (by decide) ?_
    refine v_icmp_lt 17 19 hF dX1_add_14 rfl (by decide) (fun _ => ?_) (fun _ => ?_)
    · refine v_aload_n 0 20 hF dX1_add_19 rfl rfl rfl ?_
      refine v_getR (b := 6) 23 hF dX1_add_20 rfl fl_X1_11 hP.1 rfl ?_
      refine v_aload_n 0 24 hF dX1_add_23 rfl rfl rfl ?_
      refine v_getI 27 hF dX1_add_24 rfl fl_X1_19 hP.1 rfl ?_
      refine v_iload_n 1 28 hF dX1_add_27 rfl rfl rfl ?_
      refine v_iast 29 hF dX1_add_28 rfl (hP.2) (fun M1 => ?_)
      refine v_aload_n 0 30 hF dX1_add_29 rfl rfl rfl ?_
      refine v_dupR 31 hF dX1_add_30 rfl ?_
      refine v_getI 34 hF dX1_add_31 rfl fl_X1_19 hP.1 rfl ?_
      refine v_iconst (1) 35 hF dX1_add_34 rfl (by decide) ?_
      refine v_iadd 36 hF dX1_add_35 rfl ?_
      refine v_putI 39 hF dX1_add_36 rfl fl_X1_19 fp_X1_0 hP.1 rfl (fun M2 => ?_)
      refine v_iconst (1) 40 hF dX1_add_39 rfl (by decide) ?_
      exact v_zret0 hF dX1_add_40 rfl
    · refine v_iconst (0) 18 hF dX1_add_17 rfl (by decide) ?_
      exact v_zret0 hF dX1_add_18 rfl
abbrev rmX1_byteAt : Room := { frames := 0, cells := 0, slots := 0, locals := 0 }
def m_X1_byteAt (x1 : Int32) (M : Mm) : Option (Int32 × Mm) := if x1 < 0 then (some ((-1 : Int32), M)) else (if (M 5 0) ≤ x1 then (some ((-1 : Int32), M)) else (if (160 : Int32) ≤ x1 then (some ((-1 : Int32), M)) else (gd (inr x1 160) (some ((M 6 x1.toNatClampNeg), M)))))
set_option maxRecDepth 100000 in
set_option maxHeartbeats 4000000 in
theorem c_X1_byteAt {G : Gx} {sh : List Sh} (hT : TexAt sh) (hP : TapAt sh) (M : Mm) (x1 : Int32) : CT yX1_byteAt cX1_byteAt 2 (some .int) rmX1_byteAt G sh [.ref (G.2.2.2.2 5), .int x1] rvI M (m_X1_byteAt  x1 M) := by
  refine CT.of (by decide +kernel) (Nat.le_of_ble_eq_true rfl) (fun X hF => ?_)
  show VR X G sh 2 rvI M 0 [(0, .ref (G.2.2.2.2 5)), (1, .int x1)] [] _
  unfold m_X1_byteAt
  refine v_iload_n 1 1 hF dX1_byteAt_0 rfl rfl rfl ?_
  refine v_if_lt 4 28 hF dX1_byteAt_1 rfl (by decide) (fun _ => ?_) (fun _ => ?_)
  · refine v_iconst (-1) 29 hF dX1_byteAt_28 rfl (by decide) ?_
    exact v_iret hF dX1_byteAt_29
  · refine v_iload_n 1 5 hF dX1_byteAt_4 rfl rfl rfl ?_
    refine v_aload_n 0 6 hF dX1_byteAt_5 rfl rfl rfl ?_
    refine v_getI 9 hF dX1_byteAt_6 rfl fl_X1_19 hP.1 rfl ?_
    refine v_icmp_ge 12 28 hF dX1_byteAt_9 rfl (by decide) (fun _ => ?_) (fun _ => ?_)
    · refine v_iconst (-1) 29 hF dX1_byteAt_28 rfl (by decide) ?_
      exact v_iret hF dX1_byteAt_29
    · refine v_iload_n 1 13 hF dX1_byteAt_12 rfl rfl rfl ?_
      refine v_sipush (160) 16 hF dX1_byteAt_13 rfl (by decide) ?_
      refine v_icmp_ge 19 28 hF dX1_byteAt_16 rfl (by decide) (fun _ => ?_) (fun _ => ?_)
      · refine v_iconst (-1) 29 hF dX1_byteAt_28 rfl (by decide) ?_
        exact v_iret hF dX1_byteAt_29
      · refine v_aload_n 0 20 hF dX1_byteAt_19 rfl rfl rfl ?_
        refine v_getR (b := 6) 23 hF dX1_byteAt_20 rfl fl_X1_11 hP.1 rfl ?_
        refine v_iload_n 1 24 hF dX1_byteAt_23 rfl rfl rfl ?_
        refine v_iald 25 hF dX1_byteAt_24 rfl (hP.2) ?_
        refine v_goto 29 hF dX1_byteAt_25 (by decide) ?_
        exact v_iret hF dX1_byteAt_29
abbrev rmX1_isBlank : Room := { frames := 0, cells := 0, slots := 0, locals := 0 }
def m_X1_isBlank_J12  (M : Mm) : Option (Int32 × Mm) := some ((1 : Int32), M)
def m_X1_isBlank (x0 : Int32) (M : Mm) : Option (Int32 × Mm) := if x0 = (32 : Int32) then (m_X1_isBlank_J12 M) else (if x0 = (10 : Int32) then (m_X1_isBlank_J12 M) else (some ((0 : Int32), M)))
set_option maxRecDepth 100000 in
set_option maxHeartbeats 4000000 in
theorem v_X1_isBlank_J12 {X : Cx} {G : Gx} {sh : List Sh} (hF : FX X G sh 1 cX1_isBlank (yX1_isBlank).cls (some .boolean) rmX1_isBlank) : ∀ (M : Mm), VR X G sh 1 rvI M 12 [] [] (m_X1_isBlank_J12   M) := by
  intro  M
  unfold m_X1_isBlank_J12
  refine v_iconst (1) 13 hF dX1_isBlank_12 rfl (by decide) ?_
  refine v_goto 17 hF dX1_isBlank_13 (by decide) ?_
  exact v_zret0 hF dX1_isBlank_17 rfl
set_option maxRecDepth 100000 in
set_option maxHeartbeats 4000000 in
theorem c_X1_isBlank {G : Gx} {sh : List Sh} (M : Mm) (x0 : Int32) : CT yX1_isBlank cX1_isBlank 1 (some .boolean) rmX1_isBlank G sh [.int x0] rvI M (m_X1_isBlank  x0 M) := by
  refine CT.of (by decide +kernel) (Nat.le_of_ble_eq_true rfl) (fun X hF => ?_)
  show VR X G sh 1 rvI M 0 [(0, .int x0)] [] _
  unfold m_X1_isBlank
  refine v_iload_n 0 1 hF dX1_isBlank_0 rfl rfl rfl ?_
  refine v_bipush (32) 3 hF dX1_isBlank_1 rfl (by decide) ?_
  refine v_icmp_eq 6 12 hF dX1_isBlank_3 rfl (by decide) (fun _ => ?_) (fun _ => ?_)
  · refine VR.pick [] rfl ?_
    exact v_X1_isBlank_J12 hF M
  · refine v_iload_n 0 7 hF dX1_isBlank_6 rfl rfl rfl ?_
    refine v_bipush (10) 9 hF dX1_isBlank_7 rfl (by decide) ?_
    refine v_icmp_ne 12 16 hF dX1_isBlank_9 rfl (by decide) (fun _ => ?_) (fun _ => ?_)
    · refine v_iconst (0) 17 hF dX1_isBlank_16 rfl (by decide) ?_
      exact v_zret0 hF dX1_isBlank_17 rfl
    · refine VR.pick [] rfl ?_
      exact v_X1_isBlank_J12 hF M
abbrev rmX1_isDigit : Room := { frames := 0, cells := 0, slots := 0, locals := 0 }
def m_X1_isDigit (x0 : Int32) (M : Mm) : Option (Int32 × Mm) := if x0 < (48 : Int32) then (some ((0 : Int32), M)) else (if (57 : Int32) < x0 then (some ((0 : Int32), M)) else (some ((1 : Int32), M)))
set_option maxRecDepth 100000 in
set_option maxHeartbeats 4000000 in
theorem c_X1_isDigit {G : Gx} {sh : List Sh} (M : Mm) (x0 : Int32) : CT yX1_isDigit cX1_isDigit 1 (some .boolean) rmX1_isDigit G sh [.int x0] rvI M (m_X1_isDigit  x0 M) := by
  refine CT.of (by decide +kernel) (Nat.le_of_ble_eq_true rfl) (fun X hF => ?_)
  show VR X G sh 1 rvI M 0 [(0, .int x0)] [] _
  unfold m_X1_isDigit
  refine v_iload_n 0 1 hF dX1_isDigit_0 rfl rfl rfl ?_
  refine v_bipush (48) 3 hF dX1_isDigit_1 rfl (by decide) ?_
  refine v_icmp_lt 6 16 hF dX1_isDigit_3 rfl (by decide) (fun _ => ?_) (fun _ => ?_)
  · refine v_iconst (0) 17 hF dX1_isDigit_16 rfl (by decide) ?_
    exact v_zret0 hF dX1_isDigit_17 rfl
  · refine v_iload_n 0 7 hF dX1_isDigit_6 rfl rfl rfl ?_
    refine v_bipush (57) 9 hF dX1_isDigit_7 rfl (by decide) ?_
    refine v_icmp_gt 12 16 hF dX1_isDigit_9 rfl (by decide) (fun _ => ?_) (fun _ => ?_)
    · refine v_iconst (0) 17 hF dX1_isDigit_16 rfl (by decide) ?_
      exact v_zret0 hF dX1_isDigit_17 rfl
    · refine v_iconst (1) 13 hF dX1_isDigit_12 rfl (by decide) ?_
      refine v_goto 17 hF dX1_isDigit_13 (by decide) ?_
      exact v_zret0 hF dX1_isDigit_17 rfl
abbrev rmX1_isSign : Room := { frames := 0, cells := 0, slots := 0, locals := 0 }
def m_X1_isSign_J48  (M : Mm) : Option (Int32 × Mm) := some ((1 : Int32), M)
def m_X1_isSign (x0 : Int32) (M : Mm) : Option (Int32 × Mm) := if x0 = (40 : Int32) then (m_X1_isSign_J48 M) else (if x0 = (41 : Int32) then (m_X1_isSign_J48 M) else (if x0 = (59 : Int32) then (m_X1_isSign_J48 M) else (if x0 = (43 : Int32) then (m_X1_isSign_J48 M) else (if x0 = (45 : Int32) then (m_X1_isSign_J48 M) else (if x0 = (42 : Int32) then (m_X1_isSign_J48 M) else (if x0 = (60 : Int32) then (m_X1_isSign_J48 M) else (if x0 = (61 : Int32) then (m_X1_isSign_J48 M) else (some ((0 : Int32), M)))))))))
set_option maxRecDepth 100000 in
set_option maxHeartbeats 4000000 in
theorem v_X1_isSign_J48 {X : Cx} {G : Gx} {sh : List Sh} (hF : FX X G sh 1 cX1_isSign (yX1_isSign).cls (some .boolean) rmX1_isSign) : ∀ (M : Mm), VR X G sh 1 rvI M 48 [] [] (m_X1_isSign_J48   M) := by
  intro  M
  unfold m_X1_isSign_J48
  refine v_iconst (1) 49 hF dX1_isSign_48 rfl (by decide) ?_
  refine v_goto 53 hF dX1_isSign_49 (by decide) ?_
  exact v_zret0 hF dX1_isSign_53 rfl
set_option maxRecDepth 100000 in
set_option maxHeartbeats 4000000 in
theorem c_X1_isSign {G : Gx} {sh : List Sh} (M : Mm) (x0 : Int32) : CT yX1_isSign cX1_isSign 1 (some .boolean) rmX1_isSign G sh [.int x0] rvI M (m_X1_isSign  x0 M) := by
  refine CT.of (by decide +kernel) (Nat.le_of_ble_eq_true rfl) (fun X hF => ?_)
  show VR X G sh 1 rvI M 0 [(0, .int x0)] [] _
  unfold m_X1_isSign
  refine v_iload_n 0 1 hF dX1_isSign_0 rfl rfl rfl ?_
  refine v_bipush (40) 3 hF dX1_isSign_1 rfl (by decide) ?_
  refine v_icmp_eq 6 48 hF dX1_isSign_3 rfl (by decide) (fun _ => ?_) (fun _ => ?_)
  · refine VR.pick [] rfl ?_
    exact v_X1_isSign_J48 hF M
  · refine v_iload_n 0 7 hF dX1_isSign_6 rfl rfl rfl ?_
    refine v_bipush (41) 9 hF dX1_isSign_7 rfl (by decide) ?_
    refine v_icmp_eq 12 48 hF dX1_isSign_9 rfl (by decide) (fun _ => ?_) (fun _ => ?_)
    · refine VR.pick [] rfl ?_
      exact v_X1_isSign_J48 hF M
    · refine v_iload_n 0 13 hF dX1_isSign_12 rfl rfl rfl ?_
      refine v_bipush (59) 15 hF dX1_isSign_13 rfl (by decide) ?_
      refine v_icmp_eq 18 48 hF dX1_isSign_15 rfl (by decide) (fun _ => ?_) (fun _ => ?_)
      · refine VR.pick [] rfl ?_
        exact v_X1_isSign_J48 hF M
      · refine v_iload_n 0 19 hF dX1_isSign_18 rfl rfl rfl ?_
        refine v_bipush (43) 21 hF dX1_isSign_19 rfl (by decide) ?_
        refine v_icmp_eq 24 48 hF dX1_isSign_21 rfl (by decide) (fun _ => ?_) (fun _ => ?_)
        · refine VR.pick [] rfl ?_
          exact v_X1_isSign_J48 hF M
        · refine v_iload_n 0 25 hF dX1_isSign_24 rfl rfl rfl ?_
          refine v_bipush (45) 27 hF dX1_isSign_25 rfl (by decide) ?_
          refine v_icmp_eq 30 48 hF dX1_isSign_27 rfl (by decide) (fun _ => ?_) (fun _ => ?_)
          · refine VR.pick [] rfl ?_
            exact v_X1_isSign_J48 hF M
          · refine v_iload_n 0 31 hF dX1_isSign_30 rfl rfl rfl ?_
            refine v_bipush (42) 33 hF dX1_isSign_31 rfl (by decide) ?_
            refine v_icmp_eq 36 48 hF dX1_isSign_33 rfl (by decide) (fun _ => ?_) (fun _ => ?_)
            · refine VR.pick [] rfl ?_
              exact v_X1_isSign_J48 hF M
            · refine v_iload_n 0 37 hF dX1_isSign_36 rfl rfl rfl ?_
              refine v_bipush (60) 39 hF dX1_isSign_37 rfl (by decide) ?_
              refine v_icmp_eq 42 48 hF dX1_isSign_39 rfl (by decide) (fun _ => ?_) (fun _ => ?_)
              · refine VR.pick [] rfl ?_
                exact v_X1_isSign_J48 hF M
              · refine v_iload_n 0 43 hF dX1_isSign_42 rfl rfl rfl ?_
                refine v_bipush (61) 45 hF dX1_isSign_43 rfl (by decide) ?_
                refine v_icmp_ne 48 52 hF dX1_isSign_45 rfl (by decide) (fun _ => ?_) (fun _ => ?_)
                · refine v_iconst (0) 53 hF dX1_isSign_52 rfl (by decide) ?_
                  exact v_zret0 hF dX1_isSign_53 rfl
                · refine VR.pick [] rfl ?_
                  exact v_X1_isSign_J48 hF M
abbrev rmX1_isWordByte : Room := { frames := 0, cells := 0, slots := 0, locals := 0 }
def m_X1_isWordByte (x0 : Int32) (M : Mm) : Option (Int32 × Mm) := if x0 < (97 : Int32) then (some ((0 : Int32), M)) else (if (122 : Int32) < x0 then (some ((0 : Int32), M)) else (some ((1 : Int32), M)))
set_option maxRecDepth 100000 in
set_option maxHeartbeats 4000000 in
theorem c_X1_isWordByte {G : Gx} {sh : List Sh} (M : Mm) (x0 : Int32) : CT yX1_isWordByte cX1_isWordByte 1 (some .boolean) rmX1_isWordByte G sh [.int x0] rvI M (m_X1_isWordByte  x0 M) := by
  refine CT.of (by decide +kernel) (Nat.le_of_ble_eq_true rfl) (fun X hF => ?_)
  show VR X G sh 1 rvI M 0 [(0, .int x0)] [] _
  unfold m_X1_isWordByte
  refine v_iload_n 0 1 hF dX1_isWordByte_0 rfl rfl rfl ?_
  refine v_bipush (97) 3 hF dX1_isWordByte_1 rfl (by decide) ?_
  refine v_icmp_lt 6 16 hF dX1_isWordByte_3 rfl (by decide) (fun _ => ?_) (fun _ => ?_)
  · refine v_iconst (0) 17 hF dX1_isWordByte_16 rfl (by decide) ?_
    exact v_zret0 hF dX1_isWordByte_17 rfl
  · refine v_iload_n 0 7 hF dX1_isWordByte_6 rfl rfl rfl ?_
    refine v_bipush (122) 9 hF dX1_isWordByte_7 rfl (by decide) ?_
    refine v_icmp_gt 12 16 hF dX1_isWordByte_9 rfl (by decide) (fun _ => ?_) (fun _ => ?_)
    · refine v_iconst (0) 17 hF dX1_isWordByte_16 rfl (by decide) ?_
      exact v_zret0 hF dX1_isWordByte_17 rfl
    · refine v_iconst (1) 13 hF dX1_isWordByte_12 rfl (by decide) ?_
      refine v_goto 17 hF dX1_isWordByte_13 (by decide) ?_
      exact v_zret0 hF dX1_isWordByte_17 rfl
abbrev rmX1_readNumber : Room := { frames := 1, cells := 0, slots := 0, locals := 21 }
def m_X1_readNumber_J86 (s0 : Int32) (M : Mm) : Option (Unit × Mm) := lt1 (up M 5 3 s0) fun M1 => some ((), M1)
def m_X1_readNumber_J67  (M : Mm) : Option (Unit × Mm) := if (4 : Int32) < ((M 5 5) - (M 5 4)) then (m_X1_readNumber_J86 ((2 : Int32)) M) else (m_X1_readNumber_J86 ((1 : Int32)) M)
def m_X1_readNumber_B7 (n7 : Int32 → Mm → Option (Unit × Mm)) (x1 : Int32) (M : Mm) : Option (Unit × Mm) := if (160 : Int32) ≤ x1 then (m_X1_readNumber_J67 M) else (bd (m_X1_byteAt ((M 5 5)) M) fun r3 M2 => bd (m_X1_isDigit r3 M2) fun r5 M4 => if r5 = 0 then (m_X1_readNumber_J67 M4) else (bd (m_X1_byteAt ((M4 5 5)) M4) fun r7 M6 => lt1 (up M6 5 6 (((((M4 5 6) * (10 : Int32)) + r7) - (48 : Int32)))) fun M8 => lt1 (up M8 5 5 (((M8 5 5) + (1 : Int32)))) fun M9 => lt1 (x1 + 1) fun y10 => n7 y10 M9))
def m_X1_readNumber_L7 : Nat → Int32 → Mm → Option (Unit × Mm)
  | 0 => fun _ _ => none
  | n + 1 => m_X1_readNumber_B7  (m_X1_readNumber_L7  n)
def m_X1_readNumber  (M : Mm) : Option (Unit × Mm) := lt1 (up M 5 6 ((0 : Int32))) fun M11 => lt1 ((0 : Int32)) fun y12 => m_X1_readNumber_L7 FU y12 M11
set_option maxRecDepth 100000 in
set_option maxHeartbeats 4000000 in
theorem v_X1_readNumber_J86 {X : Cx} {G : Gx} {sh : List Sh} (hF : FX X G sh 2 cX1_readNumber (yX1_readNumber).cls none rmX1_readNumber) (hT : TexAt sh) (hP : TapAt sh) : ∀ (s0 : Int32) (M : Mm), VR X G sh 2 rvV M 86 [(0, .ref (G.2.2.2.2 5))] [.int s0, .ref (G.2.2.2.2 5)] (m_X1_readNumber_J86  s0 M) := by
  intro s0 M
  unfold m_X1_readNumber_J86
  refine v_putI 89 hF dX1_readNumber_86 rfl fl_X1_67 fp_X1_3 hP.1 rfl (fun M1 => ?_)
  exact v_vret hF dX1_readNumber_89
set_option maxRecDepth 100000 in
set_option maxHeartbeats 4000000 in
theorem v_X1_readNumber_J67 {X : Cx} {G : Gx} {sh : List Sh} (hF : FX X G sh 2 cX1_readNumber (yX1_readNumber).cls none rmX1_readNumber) (hT : TexAt sh) (hP : TapAt sh) : ∀ (M : Mm), VR X G sh 2 rvV M 67 [(0, .ref (G.2.2.2.2 5))] [] (m_X1_readNumber_J67   M) := by
  intro  M
  unfold m_X1_readNumber_J67
  refine v_aload_n 0 68 hF dX1_readNumber_67 rfl rfl rfl ?_
  refine v_aload_n 0 69 hF dX1_readNumber_68 rfl rfl rfl ?_
  refine v_getI 72 hF dX1_readNumber_69 rfl fl_X1_40 hP.1 rfl ?_
  refine v_aload_n 0 73 hF dX1_readNumber_72 rfl rfl rfl ?_
  refine v_getI 76 hF dX1_readNumber_73 rfl fl_X1_93 hP.1 rfl ?_
  refine v_isub 77 hF dX1_readNumber_76 rfl ?_
  refine v_iconst (4) 78 hF dX1_readNumber_77 rfl (by decide) ?_
  refine v_icmp_gt 81 85 hF dX1_readNumber_78 rfl (by decide) (fun _ => ?_) (fun _ => ?_)
  · refine v_iconst (2) 86 hF dX1_readNumber_85 rfl (by decide) ?_
    refine VR.pick [0] rfl ?_
    exact v_X1_readNumber_J86 hF hT hP ((2 : Int32)) M
  · refine v_iconst (1) 82 hF dX1_readNumber_81 rfl (by decide) ?_
    refine v_goto 86 hF dX1_readNumber_82 (by decide) ?_
    refine VR.pick [0] rfl ?_
    exact v_X1_readNumber_J86 hF hT hP ((1 : Int32)) M
set_option maxRecDepth 100000 in
set_option maxHeartbeats 4000000 in
theorem v_X1_readNumber_B7 {X : Cx} {G : Gx} {sh : List Sh} (hF : FX X G sh 2 cX1_readNumber (yX1_readNumber).cls none rmX1_readNumber) (hT : TexAt sh) (hP : TapAt sh) (n7 : Int32 → Mm → Option (Unit × Mm)) (h7 : ∀ (x1 : Int32) (M : Mm), VR X G sh 2 rvV M 7 [(0, .ref (G.2.2.2.2 5)), (1, .int x1)] [] (n7 x1 M)) : ∀ (x1 : Int32) (M : Mm), VR X G sh 2 rvV M 7 [(0, .ref (G.2.2.2.2 5)), (1, .int x1)] [] (m_X1_readNumber_B7  n7 x1 M) := by
  intro x1 M
  unfold m_X1_readNumber_B7
  refine v_iload_n 1 8 hF dX1_readNumber_7 rfl rfl rfl ?_
  refine v_sipush (160) 11 hF dX1_readNumber_8 rfl (by decide) ?_
  refine v_icmp_ge 14 67 hF dX1_readNumber_11 rfl (by decide) (fun _ => ?_) (fun _ => ?_)
  · refine VR.pick [0] rfl ?_
    exact v_X1_readNumber_J67 hF hT hP M
  · refine v_aload_n 0 15 hF dX1_readNumber_14 rfl rfl rfl ?_
    refine v_aload_n 0 16 hF dX1_readNumber_15 rfl rfl rfl ?_
    refine v_getI 19 hF dX1_readNumber_16 rfl fl_X1_40 hP.1 rfl ?_
    refine v_callI ([.int ((M 5 5))]) ([]) 22 hF dX1_readNumber_19 rfl cw_X1_96 rfl (hP.1) (c_X1_byteAt (G := G) hT hP M ((M 5 5))) ⟨rfl, rfl, Nat.le_of_ble_eq_true rfl, Nat.le_of_ble_eq_true rfl⟩ rfl rfl (Nat.le_of_ble_eq_true rfl) (fun r3 M2 => ?_)
    refine v_staI ([.int r3]) ([]) 25 hF dX1_readNumber_22 rfl cw_X1_109 (c_X1_isDigit (G := G) (sh := sh) M2 r3) ⟨rfl, rfl, Nat.le_of_ble_eq_true rfl, Nat.le_of_ble_eq_true rfl⟩ rfl rfl (Nat.le_of_ble_eq_true rfl) (fun r5 M4 => ?_)
    refine v_if_eq 28 67 hF dX1_readNumber_25 rfl (by decide) (fun _ => ?_) (fun _ => ?_)
    · refine VR.pick [0] rfl ?_
      exact v_X1_readNumber_J67 hF hT hP M4
    · refine v_aload_n 0 29 hF dX1_readNumber_28 rfl rfl rfl ?_
      refine v_aload_n 0 30 hF dX1_readNumber_29 rfl rfl rfl ?_
      refine v_getI 33 hF dX1_readNumber_30 rfl fl_X1_87 hP.1 rfl ?_
      refine v_bipush (10) 35 hF dX1_readNumber_33 rfl (by decide) ?_
      refine v_imul 36 hF dX1_readNumber_35 rfl ?_
      refine v_aload_n 0 37 hF dX1_readNumber_36 rfl rfl rfl ?_
      refine v_aload_n 0 38 hF dX1_readNumber_37 rfl rfl rfl ?_
      refine v_getI 41 hF dX1_readNumber_38 rfl fl_X1_40 hP.1 rfl ?_
      refine v_callI ([.int ((M4 5 5))]) ([.int (((M4 5 6) * (10 : Int32))), .ref (G.2.2.2.2 5)]) 44 hF dX1_readNumber_41 rfl cw_X1_96 rfl (hP.1) (c_X1_byteAt (G := G) hT hP M4 ((M4 5 5))) ⟨rfl, rfl, Nat.le_of_ble_eq_true rfl, Nat.le_of_ble_eq_true rfl⟩ rfl rfl (Nat.le_of_ble_eq_true rfl) (fun r7 M6 => ?_)
      refine v_iadd 45 hF dX1_readNumber_44 rfl ?_
      refine v_bipush (48) 47 hF dX1_readNumber_45 rfl (by decide) ?_
      refine v_isub 48 hF dX1_readNumber_47 rfl ?_
      refine v_putI 51 hF dX1_readNumber_48 rfl fl_X1_87 fp_X1_6 hP.1 rfl (fun M8 => ?_)
      refine v_aload_n 0 52 hF dX1_readNumber_51 rfl rfl rfl ?_
      refine v_dupR 53 hF dX1_readNumber_52 rfl ?_
      refine v_getI 56 hF dX1_readNumber_53 rfl fl_X1_40 hP.1 rfl ?_
      refine v_iconst (1) 57 hF dX1_readNumber_56 rfl (by decide) ?_
      refine v_iadd 58 hF dX1_readNumber_57 rfl ?_
      refine v_putI 61 hF dX1_readNumber_58 rfl fl_X1_40 fp_X1_5 hP.1 rfl (fun M9 => ?_)
      refine v_iinc (v := (x1 + 1)) (lo' := fun y10 => [(1, .int y10), (0, .ref (G.2.2.2.2 5))]) 1 64 hF dX1_readNumber_61 rfl rfl rfl (by decide) (fun _ => rfl) (fun y10 => ?_)
      refine v_goto 7 hF dX1_readNumber_64 (by decide) ?_
      refine VR.pick [1, 0] rfl ?_
      exact h7 y10 M9
theorem v_X1_readNumber_L7 {X : Cx} {G : Gx} {sh : List Sh} (hF : FX X G sh 2 cX1_readNumber (yX1_readNumber).cls none rmX1_readNumber) (hT : TexAt sh) (hP : TapAt sh) : ∀ (n : Nat), ∀ (x1 : Int32) (M : Mm), VR X G sh 2 rvV M 7 [(0, .ref (G.2.2.2.2 5)), (1, .int x1)] [] (m_X1_readNumber_L7  n x1 M) := by
  intro n
  induction n with
  | zero => intro x1 M; exact VR.none
  | succ n ih => exact v_X1_readNumber_B7 hF hT hP _ ih
set_option maxRecDepth 100000 in
set_option maxHeartbeats 4000000 in
theorem c_X1_readNumber {G : Gx} {sh : List Sh} (hT : TexAt sh) (hP : TapAt sh) (M : Mm)  : CT yX1_readNumber cX1_readNumber 2 none rmX1_readNumber G sh [.ref (G.2.2.2.2 5)] rvV M (m_X1_readNumber   M) := by
  refine CT.of (by decide +kernel) (Nat.le_of_ble_eq_true rfl) (fun X hF => ?_)
  show VR X G sh 2 rvV M 0 [(0, .ref (G.2.2.2.2 5))] [] _
  unfold m_X1_readNumber
  refine v_aload_n 0 1 hF dX1_readNumber_0 rfl rfl rfl ?_
  refine v_iconst (0) 2 hF dX1_readNumber_1 rfl (by decide) ?_
  refine v_putI 5 hF dX1_readNumber_2 rfl fl_X1_87 fp_X1_6 hP.1 rfl (fun M11 => ?_)
  refine v_iconst (0) 6 hF dX1_readNumber_5 rfl (by decide) ?_
  refine v_istore_n (lo' := fun y12 => [(1, .int y12), (0, .ref (G.2.2.2.2 5))]) 7 hF dX1_readNumber_6 rfl rfl (by decide) (fun _ => rfl) (fun y12 => ?_)
  refine VR.pick [1, 0] rfl ?_
  exact v_X1_readNumber_L7 hF hT hP FU y12 M11
abbrev rmX1_refuse : Room := { frames := 0, cells := 0, slots := 0, locals := 0 }
def m_X1_refuse_J16  (M : Mm) : Option (Unit × Mm) := lt1 (up M 5 3 ((2 : Int32))) fun M1 => some ((), M1)
def m_X1_refuse  (M : Mm) : Option (Unit × Mm) := if (M 5 7) = (-1 : Int32) then (lt1 (up M 5 7 ((M 5 4))) fun M2 => m_X1_refuse_J16 M2) else (m_X1_refuse_J16 M)
set_option maxRecDepth 100000 in
set_option maxHeartbeats 4000000 in
theorem v_X1_refuse_J16 {X : Cx} {G : Gx} {sh : List Sh} (hF : FX X G sh 1 cX1_refuse (yX1_refuse).cls none rmX1_refuse) (hT : TexAt sh) (hP : TapAt sh) : ∀ (M : Mm), VR X G sh 1 rvV M 16 [(0, .ref (G.2.2.2.2 5))] [] (m_X1_refuse_J16   M) := by
  intro  M
  unfold m_X1_refuse_J16
  refine v_aload_n 0 17 hF dX1_refuse_16 rfl rfl rfl ?_
  refine v_iconst (2) 18 hF dX1_refuse_17 rfl (by decide) ?_
  refine v_putI 21 hF dX1_refuse_18 rfl fl_X1_67 fp_X1_3 hP.1 rfl (fun M1 => ?_)
  exact v_vret hF dX1_refuse_21
set_option maxRecDepth 100000 in
set_option maxHeartbeats 4000000 in
theorem c_X1_refuse {G : Gx} {sh : List Sh} (hT : TexAt sh) (hP : TapAt sh) (M : Mm)  : CT yX1_refuse cX1_refuse 1 none rmX1_refuse G sh [.ref (G.2.2.2.2 5)] rvV M (m_X1_refuse   M) := by
  refine CT.of (by decide +kernel) (Nat.le_of_ble_eq_true rfl) (fun X hF => ?_)
  show VR X G sh 1 rvV M 0 [(0, .ref (G.2.2.2.2 5))] [] _
  unfold m_X1_refuse
  refine v_aload_n 0 1 hF dX1_refuse_0 rfl rfl rfl ?_
  refine v_getI 4 hF dX1_refuse_1 rfl fl_X1_37 hP.1 rfl ?_
  refine v_iconst (-1) 5 hF dX1_refuse_4 rfl (by decide) ?_
  refine v_icmp_ne 8 16 hF dX1_refuse_5 rfl (by decide) (fun _ => ?_) (fun _ => ?_)
  · refine VR.pick [0] rfl ?_
    exact v_X1_refuse_J16 hF hT hP M
  · refine v_aload_n 0 9 hF dX1_refuse_8 rfl rfl rfl ?_
    refine v_aload_n 0 10 hF dX1_refuse_9 rfl rfl rfl ?_
    refine v_getI 13 hF dX1_refuse_10 rfl fl_X1_93 hP.1 rfl ?_
    refine v_putI 16 hF dX1_refuse_13 rfl fl_X1_37 fp_X1_7 hP.1 rfl (fun M2 => ?_)
    refine VR.pick [0] rfl ?_
    exact v_X1_refuse_J16 hF hT hP M2
abbrev rmX2_add : Room := { frames := 0, cells := 0, slots := 0, locals := 0 }
def m_X2_add (x1 : Int32) (M : Mm) : Option (Unit × Mm) := if (M 1 9) < 0 then (some ((), M)) else (if (960 : Int32) ≤ (M 1 9) then (some ((), M)) else (gd (inr ((M 1 9)) 960) (lt1 (up M 2 ((M 1 9)).toNatClampNeg x1) fun M1 => lt1 (up M1 1 9 (((M1 1 9) + (1 : Int32)))) fun M2 => some ((), M2))))
set_option maxRecDepth 100000 in
set_option maxHeartbeats 4000000 in
theorem c_X2_add {G : Gx} {sh : List Sh} (hT : TexAt sh) (M : Mm) (x1 : Int32) : CT yX2_add cX2_add 2 none rmX2_add G sh [.ref (G.2.2.2.2 1), .int x1] rvV M (m_X2_add  x1 M) := by
  refine CT.of (by decide +kernel) (Nat.le_of_ble_eq_true rfl) (fun X hF => ?_)
  show VR X G sh 2 rvV M 0 [(0, .ref (G.2.2.2.2 1)), (1, .int x1)] [] _
  unfold m_X2_add
  refine v_aload_n 0 1 hF dX2_add_0 rfl rfl rfl ?_
  refine v_getI 4 hF dX2_add_1 rfl fl_X2_29 hT.1 rfl ?_
  refine v_if_lt 7 39 hF dX2_add_4 rfl (by decide) (fun _ => ?_) (fun _ => ?_)
  · exact v_vret hF dX2_add_39
  · refine v_aload_n 0 8 hF dX2_add_7 rfl rfl rfl ?_
    refine v_getI 11 hF dX2_add_8 rfl fl_X2_29 hT.1 rfl ?_
    refine v_aload_n 0 12 hF dX2_add_11 rfl rfl rfl ?_
    refine v_getR (b := 2) 15 hF dX2_add_12 rfl fl_X2_11 hT.1 rfl ?_
    refine v_alen 960 16 hF dX2_add_15 rfl (hT.2.1) (Or.inl rfl) (by decide) ?_
    refine v_icmp_ge 19 39 hF dX2_add_16 rfl (by decide) (fun _ => ?_) (fun _ => ?_)
    · exact v_vret hF dX2_add_39
    · refine v_aload_n 0 20 hF dX2_add_19 rfl rfl rfl ?_
      refine v_getR (b := 2) 23 hF dX2_add_20 rfl fl_X2_11 hT.1 rfl ?_
      refine v_aload_n 0 24 hF dX2_add_23 rfl rfl rfl ?_
      refine v_getI 27 hF dX2_add_24 rfl fl_X2_29 hT.1 rfl ?_
      refine v_iload_n 1 28 hF dX2_add_27 rfl rfl rfl ?_
      refine v_iast 29 hF dX2_add_28 rfl (hT.2.1) (fun M1 => ?_)
      refine v_aload_n 0 30 hF dX2_add_29 rfl rfl rfl ?_
      refine v_dupR 31 hF dX2_add_30 rfl ?_
      refine v_getI 34 hF dX2_add_31 rfl fl_X2_29 hT.1 rfl ?_
      refine v_iconst (1) 35 hF dX2_add_34 rfl (by decide) ?_
      refine v_iadd 36 hF dX2_add_35 rfl ?_
      refine v_putI 39 hF dX2_add_36 rfl fl_X2_29 fp_X2_9 hT.1 rfl (fun M2 => ?_)
      exact v_vret hF dX2_add_39
abbrev rmX2_hasRoom : Room := { frames := 0, cells := 0, slots := 0, locals := 0 }
def m_X2_hasRoom  (M : Mm) : Option (Int32 × Mm) := if (6 : Int32) ≤ (M 1 0) then (some ((0 : Int32), M)) else (some ((1 : Int32), M))
set_option maxRecDepth 100000 in
set_option maxHeartbeats 4000000 in
theorem c_X2_hasRoom {G : Gx} {sh : List Sh} (hT : TexAt sh) (M : Mm)  : CT yX2_hasRoom cX2_hasRoom 1 (some .boolean) rmX2_hasRoom G sh [.ref (G.2.2.2.2 1)] rvI M (m_X2_hasRoom   M) := by
  refine CT.of (by decide +kernel) (Nat.le_of_ble_eq_true rfl) (fun X hF => ?_)
  show VR X G sh 1 rvI M 0 [(0, .ref (G.2.2.2.2 1))] [] _
  unfold m_X2_hasRoom
  refine v_aload_n 0 1 hF dX2_hasRoom_0 rfl rfl rfl ?_
  refine v_getI 4 hF dX2_hasRoom_1 rfl fl_X2_21 hT.1 rfl ?_
  refine v_bipush (6) 6 hF dX2_hasRoom_4 rfl (by decide) ?_
  refine v_icmp_ge 9 13 hF dX2_hasRoom_6 rfl (by decide) (fun _ => ?_) (fun _ => ?_)
  · refine v_iconst (0) 14 hF dX2_hasRoom_13 rfl (by decide) ?_
    exact v_zret0 hF dX2_hasRoom_14 rfl
  · refine v_iconst (1) 10 hF dX2_hasRoom_9 rfl (by decide) ?_
    refine v_goto 14 hF dX2_hasRoom_10 (by decide) ?_
    exact v_zret0 hF dX2_hasRoom_14 rfl
abbrev rmX2_begin : Room := { frames := 1, cells := 0, slots := 0, locals := 20 }
def m_X2_begin_J27 (s0 : Int32) (M : Mm) : Option (Unit × Mm) := lt1 (up M 1 9 s0) fun M1 => some ((), M1)
def m_X2_begin  (M : Mm) : Option (Unit × Mm) := bd (m_X2_hasRoom M) fun r3 M2 => if r3 = 0 then (m_X2_begin_J27 ((960 : Int32)) M2) else (gd (inr (((M2 1 0) * (3 : Int32))) 19) (m_X2_begin_J27 ((M2 3 (((M2 1 0) * (3 : Int32))).toNatClampNeg)) M2))
set_option maxRecDepth 100000 in
set_option maxHeartbeats 4000000 in
theorem v_X2_begin_J27 {X : Cx} {G : Gx} {sh : List Sh} (hF : FX X G sh 1 cX2_begin (yX2_begin).cls none rmX2_begin) (hT : TexAt sh) : ∀ (s0 : Int32) (M : Mm), VR X G sh 1 rvV M 27 [(0, .ref (G.2.2.2.2 1))] [.int s0, .ref (G.2.2.2.2 1)] (m_X2_begin_J27  s0 M) := by
  intro s0 M
  unfold m_X2_begin_J27
  refine v_putI 30 hF dX2_begin_27 rfl fl_X2_29 fp_X2_9 hT.1 rfl (fun M1 => ?_)
  exact v_vret hF dX2_begin_30
set_option maxRecDepth 100000 in
set_option maxHeartbeats 4000000 in
theorem c_X2_begin {G : Gx} {sh : List Sh} (hT : TexAt sh) (M : Mm)  : CT yX2_begin cX2_begin 1 none rmX2_begin G sh [.ref (G.2.2.2.2 1)] rvV M (m_X2_begin   M) := by
  refine CT.of (by decide +kernel) (Nat.le_of_ble_eq_true rfl) (fun X hF => ?_)
  show VR X G sh 1 rvV M 0 [(0, .ref (G.2.2.2.2 1))] [] _
  unfold m_X2_begin
  refine v_aload_n 0 1 hF dX2_begin_0 rfl rfl rfl ?_
  refine v_aload_n 0 2 hF dX2_begin_1 rfl rfl rfl ?_
  refine v_callI ([]) ([.ref (G.2.2.2.2 1)]) 5 hF dX2_begin_2 rfl cw_X2_25 rfl (hT.1) (c_X2_hasRoom (G := G) hT M) ⟨rfl, rfl, Nat.le_of_ble_eq_true rfl, Nat.le_of_ble_eq_true rfl⟩ rfl rfl (Nat.le_of_ble_eq_true rfl) (fun r3 M2 => ?_)
  refine v_if_eq 8 22 hF dX2_begin_5 rfl (by decide) (fun _ => ?_) (fun _ => ?_)
  · refine v_aload_n 0 23 hF dX2_begin_22 rfl rfl rfl ?_
    refine v_getR (b := 2) 26 hF dX2_begin_23 rfl fl_X2_11 hT.1 rfl ?_
    refine v_alen 960 27 hF dX2_begin_26 rfl (hT.2.1) (Or.inl rfl) (by decide) ?_
    refine VR.pick [0] rfl ?_
    exact v_X2_begin_J27 hF hT ((960 : Int32)) M2
  · refine v_aload_n 0 9 hF dX2_begin_8 rfl rfl rfl ?_
    refine v_getR (b := 3) 12 hF dX2_begin_9 rfl fl_X2_15 hT.1 rfl ?_
    refine v_aload_n 0 13 hF dX2_begin_12 rfl rfl rfl ?_
    refine v_getI 16 hF dX2_begin_13 rfl fl_X2_21 hT.1 rfl ?_
    refine v_iconst (3) 17 hF dX2_begin_16 rfl (by decide) ?_
    refine v_imul 18 hF dX2_begin_17 rfl ?_
    refine v_iald 19 hF dX2_begin_18 rfl (hT.2.2.1) ?_
    refine v_goto 27 hF dX2_begin_19 (by decide) ?_
    refine VR.pick [0] rfl ?_
    exact v_X2_begin_J27 hF hT ((M2 3 (((M2 1 0) * (3 : Int32))).toNatClampNeg)) M2
abbrev rmX2_endPart : Room := { frames := 0, cells := 0, slots := 0, locals := 0 }
def m_X2_endPart (x1 : Int32) (M : Mm) : Option (Unit × Mm) := lt1 (((((M 1 0) * (3 : Int32)) + x1) + (1 : Int32))) fun y1 => if y1 < 0 then (some ((), M)) else (if (19 : Int32) ≤ y1 then (some ((), M)) else (gd (inr y1 19) (lt1 (up M 3 y1.toNatClampNeg ((M 1 9))) fun M2 => some ((), M2))))
set_option maxRecDepth 100000 in
set_option maxHeartbeats 4000000 in
theorem c_X2_endPart {G : Gx} {sh : List Sh} (hT : TexAt sh) (M : Mm) (x1 : Int32) : CT yX2_endPart cX2_endPart 3 none rmX2_endPart G sh [.ref (G.2.2.2.2 1), .int x1] rvV M (m_X2_endPart  x1 M) := by
  refine CT.of (by decide +kernel) (Nat.le_of_ble_eq_true rfl) (fun X hF => ?_)
  show VR X G sh 3 rvV M 0 [(0, .ref (G.2.2.2.2 1)), (1, .int x1)] [] _
  unfold m_X2_endPart
  refine v_aload_n 0 1 hF dX2_endPart_0 rfl rfl rfl ?_
  refine v_getI 4 hF dX2_endPart_1 rfl fl_X2_21 hT.1 rfl ?_
  refine v_iconst (3) 5 hF dX2_endPart_4 rfl (by decide) ?_
  refine v_imul 6 hF dX2_endPart_5 rfl ?_
  refine v_iload_n 1 7 hF dX2_endPart_6 rfl rfl rfl ?_
  refine v_iadd 8 hF dX2_endPart_7 rfl ?_
  refine v_iconst (1) 9 hF dX2_endPart_8 rfl (by decide) ?_
  refine v_iadd 10 hF dX2_endPart_9 rfl ?_
  refine v_istore_n (lo' := fun y1 => [(2, .int y1), (0, .ref (G.2.2.2.2 1)), (1, .int x1)]) 11 hF dX2_endPart_10 rfl rfl (by decide) (fun _ => rfl) (fun y1 => ?_)
  refine v_iload_n 0 12 hF dX2_endPart_11 rfl rfl rfl ?_
  refine v_if_lt 15 34 hF dX2_endPart_12 rfl (by decide) (fun _ => ?_) (fun _ => ?_)
  · exact v_vret hF dX2_endPart_34
  · refine v_iload_n 0 16 hF dX2_endPart_15 rfl rfl rfl ?_
    refine v_aload_n 1 17 hF dX2_endPart_16 rfl rfl rfl ?_
    refine v_getR (b := 3) 20 hF dX2_endPart_17 rfl fl_X2_15 hT.1 rfl ?_
    refine v_alen 19 21 hF dX2_endPart_20 rfl (hT.2.2.1) (Or.inl rfl) (by decide) ?_
    refine v_icmp_ge 24 34 hF dX2_endPart_21 rfl (by decide) (fun _ => ?_) (fun _ => ?_)
    · exact v_vret hF dX2_endPart_34
    · refine v_aload_n 1 25 hF dX2_endPart_24 rfl rfl rfl ?_
      refine v_getR (b := 3) 28 hF dX2_endPart_25 rfl fl_X2_15 hT.1 rfl ?_
      refine v_iload_n 0 29 hF dX2_endPart_28 rfl rfl rfl ?_
      refine v_aload_n 1 30 hF dX2_endPart_29 rfl rfl rfl ?_
      refine v_getI 33 hF dX2_endPart_30 rfl fl_X2_29 hT.1 rfl ?_
      refine v_iast 34 hF dX2_endPart_33 rfl (hT.2.2.1) (fun M2 => ?_)
      exact v_vret hF dX2_endPart_34
abbrev rmX2_keep : Room := { frames := 1, cells := 0, slots := 0, locals := 20 }
def m_X2_keep  (M : Mm) : Option (Unit × Mm) := bd (m_X2_hasRoom M) fun r2 M1 => if r2 = 0 then (some ((), M1)) else (lt1 (up M1 1 0 (((M1 1 0) + (1 : Int32)))) fun M3 => some ((), M3))
set_option maxRecDepth 100000 in
set_option maxHeartbeats 4000000 in
theorem c_X2_keep {G : Gx} {sh : List Sh} (hT : TexAt sh) (M : Mm)  : CT yX2_keep cX2_keep 1 none rmX2_keep G sh [.ref (G.2.2.2.2 1)] rvV M (m_X2_keep   M) := by
  refine CT.of (by decide +kernel) (Nat.le_of_ble_eq_true rfl) (fun X hF => ?_)
  show VR X G sh 1 rvV M 0 [(0, .ref (G.2.2.2.2 1))] [] _
  unfold m_X2_keep
  refine v_aload_n 0 1 hF dX2_keep_0 rfl rfl rfl ?_
  refine v_callI ([]) ([]) 4 hF dX2_keep_1 rfl cw_X2_25 rfl (hT.1) (c_X2_hasRoom (G := G) hT M) ⟨rfl, rfl, Nat.le_of_ble_eq_true rfl, Nat.le_of_ble_eq_true rfl⟩ rfl rfl (Nat.le_of_ble_eq_true rfl) (fun r2 M1 => ?_)
  refine v_if_eq 7 17 hF dX2_keep_4 rfl (by decide) (fun _ => ?_) (fun _ => ?_)
  · exact v_vret hF dX2_keep_17
  · refine v_aload_n 0 8 hF dX2_keep_7 rfl rfl rfl ?_
    refine v_dupR 9 hF dX2_keep_8 rfl ?_
    refine v_getI 12 hF dX2_keep_9 rfl fl_X2_21 hT.1 rfl ?_
    refine v_iconst (1) 13 hF dX2_keep_12 rfl (by decide) ?_
    refine v_iadd 14 hF dX2_keep_13 rfl ?_
    refine v_putI 17 hF dX2_keep_14 rfl fl_X2_21 fp_X2_0 hT.1 rfl (fun M3 => ?_)
    exact v_vret hF dX2_keep_17
abbrev rmX2_isText : Room := { frames := 0, cells := 0, slots := 0, locals := 0 }
def m_X2_isText (x1 : Int32) (M : Mm) : Option (Int32 × Mm) := if x1 < 0 then (some ((0 : Int32), M)) else (if (M 1 0) ≤ x1 then (some ((0 : Int32), M)) else (if (6 : Int32) ≤ x1 then (some ((0 : Int32), M)) else (some ((1 : Int32), M))))
set_option maxRecDepth 100000 in
set_option maxHeartbeats 4000000 in
theorem c_X2_isText {G : Gx} {sh : List Sh} (hT : TexAt sh) (M : Mm) (x1 : Int32) : CT yX2_isText cX2_isText 2 (some .boolean) rmX2_isText G sh [.ref (G.2.2.2.2 1), .int x1] rvI M (m_X2_isText  x1 M) := by
  refine CT.of (by decide +kernel) (Nat.le_of_ble_eq_true rfl) (fun X hF => ?_)
  show VR X G sh 2 rvI M 0 [(0, .ref (G.2.2.2.2 1)), (1, .int x1)] [] _
  unfold m_X2_isText
  refine v_iload_n 1 1 hF dX2_isText_0 rfl rfl rfl ?_
  refine v_if_lt 4 22 hF dX2_isText_1 rfl (by decide) (fun _ => ?_) (fun _ => ?_)
  · refine v_iconst (0) 23 hF dX2_isText_22 rfl (by decide) ?_
    exact v_zret0 hF dX2_isText_23 rfl
  · refine v_iload_n 1 5 hF dX2_isText_4 rfl rfl rfl ?_
    refine v_aload_n 0 6 hF dX2_isText_5 rfl rfl rfl ?_
    refine v_getI 9 hF dX2_isText_6 rfl fl_X2_21 hT.1 rfl ?_
    refine v_icmp_ge 12 22 hF dX2_isText_9 rfl (by decide) (fun _ => ?_) (fun _ => ?_)
    · refine v_iconst (0) 23 hF dX2_isText_22 rfl (by decide) ?_
      exact v_zret0 hF dX2_isText_23 rfl
    · refine v_iload_n 1 13 hF dX2_isText_12 rfl rfl rfl ?_
      refine v_bipush (6) 15 hF dX2_isText_13 rfl (by decide) ?_
      refine v_icmp_ge 18 22 hF dX2_isText_15 rfl (by decide) (fun _ => ?_) (fun _ => ?_)
      · refine v_iconst (0) 23 hF dX2_isText_22 rfl (by decide) ?_
        exact v_zret0 hF dX2_isText_23 rfl
      · refine v_iconst (1) 19 hF dX2_isText_18 rfl (by decide) ?_
        refine v_goto 23 hF dX2_isText_19 (by decide) ?_
        exact v_zret0 hF dX2_isText_23 rfl
abbrev rmX2_joined : Room := { frames := 0, cells := 0, slots := 0, locals := 0 }
def m_X2_joined_J68  (M : Mm) : Option (Int32 × Mm) := some ((1 : Int32), M)
def m_X2_joined (x0 : Int32) (x1 : Int32) (x2 : Int32) (M : Mm) : Option (Int32 × Mm) := if x0 = (-21) then (if x2 = 0 then (some ((1 : Int32), M)) else (some ((0 : Int32), M))) else (if x0 = (-20) then (some ((-x2), M)) else (if x0 = (-19) then (some ((-x2), M)) else (if x0 = (-18) then (some ((-x2), M)) else (if x0 = (-17) then (some ((x1 * x2), M)) else (if x0 = (-16) then (some ((x1 - x2), M)) else (if x0 = (-15) then (some ((x1 + x2), M)) else (if x0 = (-14) then (if x1 = x2 then (some ((1 : Int32), M)) else (some ((0 : Int32), M))) else (if x0 = (-13) then (if x2 ≤ x1 then (some ((0 : Int32), M)) else (some ((1 : Int32), M))) else (if x0 = (-12) then (if x1 = 0 then (some ((0 : Int32), M)) else (if x2 = 0 then (some ((0 : Int32), M)) else (some ((1 : Int32), M)))) else (if x0 = (-11) then (if x1 = 0 then (if x2 = 0 then (some ((0 : Int32), M)) else (m_X2_joined_J68 M)) else (m_X2_joined_J68 M)) else (some ((-x2), M))))))))))))
set_option maxRecDepth 100000 in
set_option maxHeartbeats 4000000 in
theorem v_X2_joined_J68 {X : Cx} {G : Gx} {sh : List Sh} (hF : FX X G sh 3 cX2_joined (yX2_joined).cls (some .int) rmX2_joined) : ∀ (M : Mm), VR X G sh 3 rvI M 68 [] [] (m_X2_joined_J68   M) := by
  intro  M
  unfold m_X2_joined_J68
  refine v_iconst (1) 69 hF dX2_joined_68 rfl (by decide) ?_
  refine v_goto 73 hF dX2_joined_69 (by decide) ?_
  exact v_iret hF dX2_joined_73
set_option maxRecDepth 100000 in
set_option maxHeartbeats 4000000 in
theorem c_X2_joined {G : Gx} {sh : List Sh} (M : Mm) (x0 : Int32) (x1 : Int32) (x2 : Int32) : CT yX2_joined cX2_joined 3 (some .int) rmX2_joined G sh [.int x0, .int x1, .int x2] rvI M (m_X2_joined  x0 x1 x2 M) := by
  refine CT.of (by decide +kernel) (Nat.le_of_ble_eq_true rfl) (fun X hF => ?_)
  show VR X G sh 3 rvI M 0 [(0, .int x0), (1, .int x1), (2, .int x2)] [] _
  unfold m_X2_joined
  refine v_iload_n 0 1 hF dX2_joined_0 rfl rfl rfl ?_
  refine v_ite (fun e1 => ?_) (fun n0 => ?_)
  · refine v_tsIn (-21) (121) 122 hF dX2_joined_1 e1 (by decide) rfl (by decide) ?_
    refine v_iload_n 2 123 hF dX2_joined_122 rfl rfl rfl ?_
    refine v_if_ne 126 130 hF dX2_joined_123 rfl (by decide) (fun _ => ?_) (fun _ => ?_)
    · refine v_iconst (0) 131 hF dX2_joined_130 rfl (by decide) ?_
      exact v_iret hF dX2_joined_131
    · refine v_iconst (1) 127 hF dX2_joined_126 rfl (by decide) ?_
      refine v_goto 131 hF dX2_joined_127 (by decide) ?_
      exact v_iret hF dX2_joined_131
  · refine v_ite (fun e1 => ?_) (fun n1 => ?_)
    · refine v_tsIn (-20) (131) 132 hF dX2_joined_1 e1 (by decide) rfl (by decide) ?_
      refine v_iload_n 2 133 hF dX2_joined_132 rfl rfl rfl ?_
      refine v_ineg 134 hF dX2_joined_133 rfl ?_
      exact v_iret hF dX2_joined_134
    · refine v_ite (fun e1 => ?_) (fun n2 => ?_)
      · refine v_tsIn (-19) (131) 132 hF dX2_joined_1 e1 (by decide) rfl (by decide) ?_
        refine v_iload_n 2 133 hF dX2_joined_132 rfl rfl rfl ?_
        refine v_ineg 134 hF dX2_joined_133 rfl ?_
        exact v_iret hF dX2_joined_134
      · refine v_ite (fun e1 => ?_) (fun n3 => ?_)
        · refine v_tsIn (-18) (131) 132 hF dX2_joined_1 e1 (by decide) rfl (by decide) ?_
          refine v_iload_n 2 133 hF dX2_joined_132 rfl rfl rfl ?_
          refine v_ineg 134 hF dX2_joined_133 rfl ?_
          exact v_iret hF dX2_joined_134
        · refine v_ite (fun e1 => ?_) (fun n4 => ?_)
          · refine v_tsIn (-17) (117) 118 hF dX2_joined_1 e1 (by decide) rfl (by decide) ?_
            refine v_iload_n 1 119 hF dX2_joined_118 rfl rfl rfl ?_
            refine v_iload_n 2 120 hF dX2_joined_119 rfl rfl rfl ?_
            refine v_imul 121 hF dX2_joined_120 rfl ?_
            exact v_iret hF dX2_joined_121
          · refine v_ite (fun e1 => ?_) (fun n5 => ?_)
            · refine v_tsIn (-16) (113) 114 hF dX2_joined_1 e1 (by decide) rfl (by decide) ?_
              refine v_iload_n 1 115 hF dX2_joined_114 rfl rfl rfl ?_
              refine v_iload_n 2 116 hF dX2_joined_115 rfl rfl rfl ?_
              refine v_isub 117 hF dX2_joined_116 rfl ?_
              exact v_iret hF dX2_joined_117
            · refine v_ite (fun e1 => ?_) (fun n6 => ?_)
              · refine v_tsIn (-15) (109) 110 hF dX2_joined_1 e1 (by decide) rfl (by decide) ?_
                refine v_iload_n 1 111 hF dX2_joined_110 rfl rfl rfl ?_
                refine v_iload_n 2 112 hF dX2_joined_111 rfl rfl rfl ?_
                refine v_iadd 113 hF dX2_joined_112 rfl ?_
                exact v_iret hF dX2_joined_113
              · refine v_ite (fun e1 => ?_) (fun n7 => ?_)
                · refine v_tsIn (-14) (98) 99 hF dX2_joined_1 e1 (by decide) rfl (by decide) ?_
                  refine v_iload_n 1 100 hF dX2_joined_99 rfl rfl rfl ?_
                  refine v_iload_n 2 101 hF dX2_joined_100 rfl rfl rfl ?_
                  refine v_icmp_ne 104 108 hF dX2_joined_101 rfl (by decide) (fun _ => ?_) (fun _ => ?_)
                  · refine v_iconst (0) 109 hF dX2_joined_108 rfl (by decide) ?_
                    exact v_iret hF dX2_joined_109
                  · refine v_iconst (1) 105 hF dX2_joined_104 rfl (by decide) ?_
                    refine v_goto 109 hF dX2_joined_105 (by decide) ?_
                    exact v_iret hF dX2_joined_109
                · refine v_ite (fun e1 => ?_) (fun n8 => ?_)
                  · refine v_tsIn (-13) (87) 88 hF dX2_joined_1 e1 (by decide) rfl (by decide) ?_
                    refine v_iload_n 1 89 hF dX2_joined_88 rfl rfl rfl ?_
                    refine v_iload_n 2 90 hF dX2_joined_89 rfl rfl rfl ?_
                    refine v_icmp_ge 93 97 hF dX2_joined_90 rfl (by decide) (fun _ => ?_) (fun _ => ?_)
                    · refine v_iconst (0) 98 hF dX2_joined_97 rfl (by decide) ?_
                      exact v_iret hF dX2_joined_98
                    · refine v_iconst (1) 94 hF dX2_joined_93 rfl (by decide) ?_
                      refine v_goto 98 hF dX2_joined_94 (by decide) ?_
                      exact v_iret hF dX2_joined_98
                  · refine v_ite (fun e1 => ?_) (fun n9 => ?_)
                    · refine v_tsIn (-12) (73) 74 hF dX2_joined_1 e1 (by decide) rfl (by decide) ?_
                      refine v_iload_n 1 75 hF dX2_joined_74 rfl rfl rfl ?_
                      refine v_if_eq 78 86 hF dX2_joined_75 rfl (by decide) (fun _ => ?_) (fun _ => ?_)
                      · refine v_iconst (0) 87 hF dX2_joined_86 rfl (by decide) ?_
                        exact v_iret hF dX2_joined_87
                      · refine v_iload_n 2 79 hF dX2_joined_78 rfl rfl rfl ?_
                        refine v_if_eq 82 86 hF dX2_joined_79 rfl (by decide) (fun _ => ?_) (fun _ => ?_)
                        · refine v_iconst (0) 87 hF dX2_joined_86 rfl (by decide) ?_
                          exact v_iret hF dX2_joined_87
                        · refine v_iconst (1) 83 hF dX2_joined_82 rfl (by decide) ?_
                          refine v_goto 87 hF dX2_joined_83 (by decide) ?_
                          exact v_iret hF dX2_joined_87
                    · refine v_ite (fun e1 => ?_) (fun n10 => ?_)
                      · refine v_tsIn (-11) (59) 60 hF dX2_joined_1 e1 (by decide) rfl (by decide) ?_
                        refine v_iload_n 1 61 hF dX2_joined_60 rfl rfl rfl ?_
                        refine v_if_ne 64 68 hF dX2_joined_61 rfl (by decide) (fun _ => ?_) (fun _ => ?_)
                        · refine VR.pick [] rfl ?_
                          exact v_X2_joined_J68 hF M
                        · refine v_iload_n 2 65 hF dX2_joined_64 rfl rfl rfl ?_
                          refine v_if_eq 68 72 hF dX2_joined_65 rfl (by decide) (fun _ => ?_) (fun _ => ?_)
                          · refine v_iconst (0) 73 hF dX2_joined_72 rfl (by decide) ?_
                            exact v_iret hF dX2_joined_73
                          · refine VR.pick [] rfl ?_
                            exact v_X2_joined_J68 hF M
                      · refine v_tsOut 132 hF dX2_joined_1 (by have a0 := lv_neT n0 (a := (-21)) (by decide); have a1 := lv_neT n1 (a := (-20)) (by decide); have a2 := lv_neT n2 (a := (-19)) (by decide); have a3 := lv_neT n3 (a := (-18)) (by decide); have a4 := lv_neT n4 (a := (-17)) (by decide); have a5 := lv_neT n5 (a := (-16)) (by decide); have a6 := lv_neT n6 (a := (-15)) (by decide); have a7 := lv_neT n7 (a := (-14)) (by decide); have a8 := lv_neT n8 (a := (-13)) (by decide); have a9 := lv_neT n9 (a := (-12)) (by decide); have a10 := lv_neT n10 (a := (-11)) (by decide); omega) (by decide) ?_
                        refine v_iload_n 2 133 hF dX2_joined_132 rfl rfl rfl ?_
                        refine v_ineg 134 hF dX2_joined_133 rfl ?_
                        exact v_iret hF dX2_joined_134
abbrev rmX2_named : Room := { frames := 0, cells := 0, slots := 0, locals := 0 }
def m_X2_named (x1 : Int32) (M : Mm) : Option (Int32 × Mm) := if ((-1 : Int32) - x1) = (0) then (some ((M 1 1), M)) else (if ((-1 : Int32) - x1) = (1) then (some ((M 1 2), M)) else (if ((-1 : Int32) - x1) = (2) then (some ((M 1 3), M)) else (if ((-1 : Int32) - x1) = (3) then (some ((M 1 4), M)) else (if ((-1 : Int32) - x1) = (4) then (some ((M 1 5), M)) else (some ((M 1 6), M))))))
set_option maxRecDepth 100000 in
set_option maxHeartbeats 4000000 in
theorem c_X2_named {G : Gx} {sh : List Sh} (hT : TexAt sh) (M : Mm) (x1 : Int32) : CT yX2_named cX2_named 2 (some .int) rmX2_named G sh [.ref (G.2.2.2.2 1), .int x1] rvI M (m_X2_named  x1 M) := by
  refine CT.of (by decide +kernel) (Nat.le_of_ble_eq_true rfl) (fun X hF => ?_)
  show VR X G sh 2 rvI M 0 [(0, .ref (G.2.2.2.2 1)), (1, .int x1)] [] _
  unfold m_X2_named
  refine v_iconst (-1) 1 hF dX2_named_0 rfl (by decide) ?_
  refine v_iload_n 1 2 hF dX2_named_1 rfl rfl rfl ?_
  refine v_isub 3 hF dX2_named_2 rfl ?_
  refine v_ite (fun e1 => ?_) (fun n0 => ?_)
  · refine v_tsIn (0) (33) 36 hF dX2_named_3 e1 (by decide) rfl (by decide) ?_
    refine v_aload_n 0 37 hF dX2_named_36 rfl rfl rfl ?_
    refine v_getI 40 hF dX2_named_37 rfl fl_X2_50 hT.1 rfl ?_
    exact v_iret hF dX2_named_40
  · refine v_ite (fun e1 => ?_) (fun n1 => ?_)
    · refine v_tsIn (1) (38) 41 hF dX2_named_3 e1 (by decide) rfl (by decide) ?_
      refine v_aload_n 0 42 hF dX2_named_41 rfl rfl rfl ?_
      refine v_getI 45 hF dX2_named_42 rfl fl_X2_53 hT.1 rfl ?_
      exact v_iret hF dX2_named_45
    · refine v_ite (fun e1 => ?_) (fun n2 => ?_)
      · refine v_tsIn (2) (43) 46 hF dX2_named_3 e1 (by decide) rfl (by decide) ?_
        refine v_aload_n 0 47 hF dX2_named_46 rfl rfl rfl ?_
        refine v_getI 50 hF dX2_named_47 rfl fl_X2_56 hT.1 rfl ?_
        exact v_iret hF dX2_named_50
      · refine v_ite (fun e1 => ?_) (fun n3 => ?_)
        · refine v_tsIn (3) (48) 51 hF dX2_named_3 e1 (by decide) rfl (by decide) ?_
          refine v_aload_n 0 52 hF dX2_named_51 rfl rfl rfl ?_
          refine v_getI 55 hF dX2_named_52 rfl fl_X2_59 hT.1 rfl ?_
          exact v_iret hF dX2_named_55
        · refine v_ite (fun e1 => ?_) (fun n4 => ?_)
          · refine v_tsIn (4) (53) 56 hF dX2_named_3 e1 (by decide) rfl (by decide) ?_
            refine v_aload_n 0 57 hF dX2_named_56 rfl rfl rfl ?_
            refine v_getI 60 hF dX2_named_57 rfl fl_X2_62 hT.1 rfl ?_
            exact v_iret hF dX2_named_60
          · refine v_tsOut 61 hF dX2_named_3 (by have a0 := lv_neT n0 (a := (0)) (by decide); have a1 := lv_neT n1 (a := (1)) (by decide); have a2 := lv_neT n2 (a := (2)) (by decide); have a3 := lv_neT n3 (a := (3)) (by decide); have a4 := lv_neT n4 (a := (4)) (by decide); omega) (by decide) ?_
            refine v_aload_n 0 62 hF dX2_named_61 rfl rfl rfl ?_
            refine v_getI 65 hF dX2_named_62 rfl fl_X2_65 hT.1 rfl ?_
            exact v_iret hF dX2_named_65
