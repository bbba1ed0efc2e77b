abbrev rmJ3_checkIndex_8e157 : Room := { frames := 0, cells := 0, slots := 0, locals := 0 }
abbrev rmJ0_checkIndex_df160 : Room := { frames := 1, cells := 0, slots := 0, locals := 22 }
def m_J3_checkIndex_8e157 (x0 x1 : Int32) (M : Mm) : Option (Int32 × Mm) := if x0 < 0 then none else if x0 < x1 then some (x0, M) else none
def m_J0_checkIndex_df160 (x0 x1 : Int32) (M : Mm) : Option (Unit × Mm) := bd (m_J3_checkIndex_8e157 x0 x1 M) fun _ M2 => some ((), M2)
theorem c_J3_checkIndex_8e157 {G : Gx} {sh : List Sh} (M : Mm) (x0 x1 : Int32) (o : Value) (ho : o = .null ∨ ∃ t, o = .ref t) : CT yJ3_checkIndex_8e157 cJ3_checkIndex_8e157 3 (some .int) rmJ3_checkIndex_8e157 G sh [.int x0, .int x1, o] rvI M (m_J3_checkIndex_8e157 x0 x1 M) := by
  rcases ho with rfl | ⟨t, rfl⟩
  · refine CT.of (by decide +kernel) (Nat.le_of_ble_eq_true rfl) (fun X hF => ?_)
    show VR X G sh 3 rvI M 0 [(0, .int x0), (1, .int x1), (2, .null)] [] _
    unfold m_J3_checkIndex_8e157
    refine v_iload_n 0 1 hF dJ3_checkIndex_8e157_0 rfl rfl rfl ?_
    refine v_if_lt 4 9 hF dJ3_checkIndex_8e157_1 rfl (by decide) (fun _ => VR.none) (fun _ => ?_)
    refine v_iload_n 0 5 hF dJ3_checkIndex_8e157_4 rfl rfl rfl ?_
    refine v_iload_n 1 6 hF dJ3_checkIndex_8e157_5 rfl rfl rfl ?_
    refine v_icmp_lt 9 16 hF dJ3_checkIndex_8e157_6 rfl (by decide) (fun _ => ?_) (fun _ => VR.none)
    refine v_iload_n 0 17 hF dJ3_checkIndex_8e157_16 rfl rfl rfl ?_
    exact v_iret hF dJ3_checkIndex_8e157_17
  · refine CT.of (by decide +kernel) (Nat.le_of_ble_eq_true rfl) (fun X hF => ?_)
    show VR X G sh 3 rvI M 0 [(0, .int x0), (1, .int x1), (2, .ref t)] [] _
    unfold m_J3_checkIndex_8e157
    refine v_iload_n 0 1 hF dJ3_checkIndex_8e157_0 rfl rfl rfl ?_
    refine v_if_lt 4 9 hF dJ3_checkIndex_8e157_1 rfl (by decide) (fun _ => VR.none) (fun _ => ?_)
    refine v_iload_n 0 5 hF dJ3_checkIndex_8e157_4 rfl rfl rfl ?_
    refine v_iload_n 1 6 hF dJ3_checkIndex_8e157_5 rfl rfl rfl ?_
    refine v_icmp_lt 9 16 hF dJ3_checkIndex_8e157_6 rfl (by decide) (fun _ => ?_) (fun _ => VR.none)
    refine v_iload_n 0 17 hF dJ3_checkIndex_8e157_16 rfl rfl rfl ?_
    exact v_iret hF dJ3_checkIndex_8e157_17
theorem c_J0_checkIndex_df160 {G : Gx} {sh : List Sh} (M : Mm) (x0 x1 : Int32) : CT yJ0_checkIndex_df160 cJ0_checkIndex_df160 2 none rmJ0_checkIndex_df160 G sh [.int x0, .int x1] rvV M (m_J0_checkIndex_df160 x0 x1 M) := by
  refine CT.of (by decide +kernel) (Nat.le_of_ble_eq_true rfl) (fun X hF => ?_)
  show VR X G sh 2 rvV M 0 [(0, .int x0), (1, .int x1)] [] _
  unfold m_J0_checkIndex_df160
  refine v_iload_n 0 1 hF dJ0_checkIndex_df160_0 rfl rfl rfl ?_
  refine v_iload_n 1 2 hF dJ0_checkIndex_df160_1 rfl rfl rfl ?_
  refine v_fmt 5 hF dJ0_checkIndex_df160_2 rfl ls_J0_1053 (fun t => ?_) ?_
  · refine v_staI [.int x0, .int x1, .ref t] [] 8 hF dJ0_checkIndex_df160_5 rfl cw_J0_1059 (c_J3_checkIndex_8e157 (G := G) (sh := sh) M x0 x1 (.ref t) (Or.inr ⟨t, rfl⟩)) ⟨rfl, rfl, Nat.le_of_ble_eq_true rfl, Nat.le_of_ble_eq_true rfl⟩ rfl rfl (Nat.le_of_ble_eq_true rfl) (fun r M2 => ?_)
    refine v_popI 9 hF dJ0_checkIndex_df160_8 rfl ?_
    exact v_vret hF dJ0_checkIndex_df160_9
  · refine v_staI [.int x0, .int x1, .null] [] 8 hF dJ0_checkIndex_df160_5 rfl cw_J0_1059 (c_J3_checkIndex_8e157 (G := G) (sh := sh) M x0 x1 .null (Or.inl rfl)) ⟨rfl, rfl, Nat.le_of_ble_eq_true rfl, Nat.le_of_ble_eq_true rfl⟩ rfl rfl (Nat.le_of_ble_eq_true rfl) (fun r M2 => ?_)
    refine v_popI 9 hF dJ0_checkIndex_df160_8 rfl ?_
    exact v_vret hF dJ0_checkIndex_df160_9
abbrev rmX0_become : Room := { frames := 1, cells := 0, slots := 0, locals := 21 }
def m_X0_become_B21 (v : Nat) (n21 : Int32 → Mm → Option (Unit × Mm)) (x3 : Int32) (M : Mm) : Option (Unit × Mm) := if (40 : Int32) ≤ x3 then (some ((), M)) else (gd (inr x3 40) (lt1 (up M (v + 1) x3.toNatClampNeg ((0 : Int32))) fun M1 => lt1 (x3 + 1) fun y2 => n21 y2 M1))
def m_X0_become_L21 (v : Nat) : Nat → Int32 → Mm → Option (Unit × Mm)
  | 0 => fun _ _ => none
  | n + 1 => m_X0_become_B21 v (m_X0_become_L21 v n)
def m_X0_become (v : Nat) (x1 : Int32) (x2 : Int32) (M : Mm) : Option (Unit × Mm) := lt1 (up M v 0 x1) fun M3 => lt1 (up M3 v 1 ((mmax ((0 : Int32)) ((mmin ((40 : Int32)) x2))))) fun M4 => lt1 ((0 : Int32)) fun y5 => m_X0_become_L21 v FU y5 M4
set_option maxRecDepth 100000 in
set_option maxHeartbeats 4000000 in
theorem v_X0_become_B21 {X : Cx} {G : Gx} {sh : List Sh} (hF : FX X G sh 4 cX0_become (yX0_become).cls none rmX0_become) {v : Nat} (hv : SheAt sh v) (n21 : Int32 → Mm → Option (Unit × Mm)) (h21 : ∀ (x3 : Int32) (M : Mm), VR X G sh 4 rvV M 21 [(0, .ref (G.2.2.2.2 v)), (3, .int x3)] [] (n21 x3 M)) : ∀ (x3 : Int32) (M : Mm), VR X G sh 4 rvV M 21 [(0, .ref (G.2.2.2.2 v)), (3, .int x3)] [] (m_X0_become_B21 v n21 x3 M) := by
  intro x3 M
  unfold m_X0_become_B21
  refine v_iload_n 1 22 hF dX0_become_21 rfl rfl rfl ?_
  refine v_aload_n 0 23 hF dX0_become_22 rfl rfl rfl ?_
  refine v_getR (b := v + 1) 26 hF dX0_become_23 rfl fl_X0_13 hv.1 rfl ?_
  refine v_alen 40 27 hF dX0_become_26 rfl (hv.2) (Or.inl rfl) (by decide) ?_
  refine v_icmp_ge 30 43 hF dX0_become_27 rfl (by decide) (fun _ => ?_) (fun _ => ?_)
  · exact v_vret hF dX0_become_43
  · refine v_aload_n 0 31 hF dX0_become_30 rfl rfl rfl ?_
    refine v_getR (b := v + 1) 34 hF dX0_become_31 rfl fl_X0_13 hv.1 rfl ?_
    refine v_iload_n 1 35 hF dX0_become_34 rfl rfl rfl ?_
    refine v_iconst (0) 36 hF dX0_become_35 rfl (by decide) ?_
    refine v_iast 37 hF dX0_become_36 rfl (hv.2) (fun M1 => ?_)
    refine v_iinc (v := (x3 + 1)) (lo' := fun y2 => [(3, .int y2), (0, .ref (G.2.2.2.2 v))]) 1 40 hF dX0_become_37 rfl rfl rfl (by decide) (fun _ => rfl) (fun y2 => ?_)
    refine v_goto 21 hF dX0_become_40 (by decide) ?_
    refine VR.pick [1, 0] rfl ?_
    exact h21 y2 M1
theorem v_X0_become_L21 {X : Cx} {G : Gx} {sh : List Sh} (hF : FX X G sh 4 cX0_become (yX0_become).cls none rmX0_become) {v : Nat} (hv : SheAt sh v) : ∀ (n : Nat), ∀ (x3 : Int32) (M : Mm), VR X G sh 4 rvV M 21 [(0, .ref (G.2.2.2.2 v)), (3, .int x3)] [] (m_X0_become_L21 v n x3 M) := by
  intro n
  induction n with
  | zero => intro x3 M; exact VR.none
  | succ n ih => exact v_X0_become_B21 hF hv _ ih
set_option maxRecDepth 100000 in
set_option maxHeartbeats 4000000 in
theorem c_X0_become {G : Gx} {sh : List Sh} {v : Nat} (hv : SheAt sh v) (M : Mm) (x1 : Int32) (x2 : Int32) : CT yX0_become cX0_become 4 none rmX0_become G sh [.ref (G.2.2.2.2 v), .int x1, .int x2] rvV M (m_X0_become v x1 x2 M) := by
  refine CT.of (by decide +kernel) (Nat.le_of_ble_eq_true rfl) (fun X hF => ?_)
  show VR X G sh 4 rvV M 0 [(0, .ref (G.2.2.2.2 v)), (1, .int x1), (2, .int x2)] [] _
  unfold m_X0_become
  refine v_aload_n 0 1 hF dX0_become_0 rfl rfl rfl ?_
  refine v_iload_n 1 2 hF dX0_become_1 rfl rfl rfl ?_
  refine v_putI 5 hF dX0_become_2 rfl fl_X0_9 fp_X0_0 hv.1 rfl (fun M3 => ?_)
  refine v_aload_n 0 6 hF dX0_become_5 rfl rfl rfl ?_
  refine v_iconst (0) 7 hF dX0_become_6 rfl (by decide) ?_
  refine v_bipush (40) 9 hF dX0_become_7 rfl (by decide) ?_
  refine v_iload_n 2 10 hF dX0_become_9 rfl rfl rfl ?_
  refine v_mmin 13 hF dX0_become_10 rfl cm_X0_17 ⟨Nat.le_of_ble_eq_true rfl, Nat.le_of_ble_eq_true rfl⟩ ?_
  refine v_mmax 16 hF dX0_become_13 rfl cm_X0_23 ⟨Nat.le_of_ble_eq_true rfl, Nat.le_of_ble_eq_true rfl⟩ ?_
  refine v_putI 19 hF dX0_become_16 rfl fl_X0_26 fp_X0_1 hv.1 rfl (fun M4 => ?_)
  refine v_iconst (0) 20 hF dX0_become_19 rfl (by decide) ?_
  refine v_istore_n (lo' := fun y5 => [(3, .int y5), (0, .ref (G.2.2.2.2 v)), (1, .int x1), (2, .int x2)]) 21 hF dX0_become_20 rfl rfl (by decide) (fun _ => rfl) (fun y5 => ?_)
  refine VR.pick [1, 0] rfl ?_
  exact v_X0_become_L21 hF hv FU y5 M4
abbrev rmX0_isMissing : Room := { frames := 0, cells := 0, slots := 0, locals := 0 }
def m_X0_isMissing (v : Nat)  (M : Mm) : Option (Int32 × Mm) := if (M v 0) = (-1 : Int32) then (some ((1 : Int32), M)) else (some ((0 : Int32), M))
set_option maxRecDepth 100000 in
set_option maxHeartbeats 4000000 in
theorem c_X0_isMissing {G : Gx} {sh : List Sh} {v : Nat} (hv : SheAt sh v) (M : Mm)  : CT yX0_isMissing cX0_isMissing 1 (some .boolean) rmX0_isMissing G sh [.ref (G.2.2.2.2 v)] rvI M (m_X0_isMissing v  M) := by
  refine CT.of (by decide +kernel) (Nat.le_of_ble_eq_true rfl) (fun X hF => ?_)
  show VR X G sh 1 rvI M 0 [(0, .ref (G.2.2.2.2 v))] [] _
  unfold m_X0_isMissing
  refine v_aload_n 0 1 hF dX0_isMissing_0 rfl rfl rfl ?_
  refine v_getI 4 hF dX0_isMissing_1 rfl fl_X0_9 hv.1 rfl ?_
  refine v_iconst (-1) 5 hF dX0_isMissing_4 rfl (by decide) ?_
  refine v_icmp_ne 8 12 hF dX0_isMissing_5 rfl (by decide) (fun _ => ?_) (fun _ => ?_)
  · refine v_iconst (0) 13 hF dX0_isMissing_12 rfl (by decide) ?_
    exact v_zret0 hF dX0_isMissing_13 rfl
  · refine v_iconst (1) 9 hF dX0_isMissing_8 rfl (by decide) ?_
    refine v_goto 13 hF dX0_isMissing_9 (by decide) ?_
    exact v_zret0 hF dX0_isMissing_13 rfl
abbrev rmX0_has : Room := { frames := 0, cells := 0, slots := 0, locals := 0 }
def m_X0_has (v : Nat) (x1 : Int32) (M : Mm) : Option (Int32 × Mm) := if x1 < 0 then (some ((0 : Int32), M)) else (if (M v 1) ≤ x1 then (some ((0 : Int32), M)) else (if (40 : Int32) ≤ x1 then (some ((0 : Int32), M)) else (some ((1 : Int32), M))))
set_option maxRecDepth 100000 in
set_option maxHeartbeats 4000000 in
theorem c_X0_has {G : Gx} {sh : List Sh} {v : Nat} (hv : SheAt sh v) (M : Mm) (x1 : Int32) : CT yX0_has cX0_has 2 (some .boolean) rmX0_has G sh [.ref (G.2.2.2.2 v), .int x1] rvI M (m_X0_has v x1 M) := by
  refine CT.of (by decide +kernel) (Nat.le_of_ble_eq_true rfl) (fun X hF => ?_)
  show VR X G sh 2 rvI M 0 [(0, .ref (G.2.2.2.2 v)), (1, .int x1)] [] _
  unfold m_X0_has
  refine v_iload_n 1 1 hF dX0_has_0 rfl rfl rfl ?_
  refine v_if_lt 4 22 hF dX0_has_1 rfl (by decide) (fun _ => ?_) (fun _ => ?_)
  · refine v_iconst (0) 23 hF dX0_has_22 rfl (by decide) ?_
    exact v_zret0 hF dX0_has_23 rfl
  · refine v_iload_n 1 5 hF dX0_has_4 rfl rfl rfl ?_
    refine v_aload_n 0 6 hF dX0_has_5 rfl rfl rfl ?_
    refine v_getI 9 hF dX0_has_6 rfl fl_X0_26 hv.1 rfl ?_
    refine v_icmp_ge 12 22 hF dX0_has_9 rfl (by decide) (fun _ => ?_) (fun _ => ?_)
    · refine v_iconst (0) 23 hF dX0_has_22 rfl (by decide) ?_
      exact v_zret0 hF dX0_has_23 rfl
    · refine v_iload_n 1 13 hF dX0_has_12 rfl rfl rfl ?_
      refine v_bipush (40) 15 hF dX0_has_13 rfl (by decide) ?_
      refine v_icmp_ge 18 22 hF dX0_has_15 rfl (by decide) (fun _ => ?_) (fun _ => ?_)
      · refine v_iconst (0) 23 hF dX0_has_22 rfl (by decide) ?_
        exact v_zret0 hF dX0_has_23 rfl
      · refine v_iconst (1) 19 hF dX0_has_18 rfl (by decide) ?_
        refine v_goto 23 hF dX0_has_19 (by decide) ?_
        exact v_zret0 hF dX0_has_23 rfl
abbrev rmX0_hasRun : Room := { frames := 0, cells := 0, slots := 0, locals := 0 }
def m_X0_hasRun (v : Nat) (x1 : Int32) (x2 : Int32) (M : Mm) : Option (Int32 × Mm) := if x1 < 0 then (some ((0 : Int32), M)) else (if x2 < 0 then (some ((0 : Int32), M)) else (if (M v 1) < x1 then (some ((0 : Int32), M)) else (if ((M v 1) - x1) < x2 then (some ((0 : Int32), M)) else (some ((1 : Int32), M)))))
set_option maxRecDepth 100000 in
set_option maxHeartbeats 4000000 in
theorem c_X0_hasRun {G : Gx} {sh : List Sh} {v : Nat} (hv : SheAt sh v) (M : Mm) (x1 : Int32) (x2 : Int32) : CT yX0_hasRun cX0_hasRun 3 (some .boolean) rmX0_hasRun G sh [.ref (G.2.2.2.2 v), .int x1, .int x2] rvI M (m_X0_hasRun v x1 x2 M) := by
  refine CT.of (by decide +kernel) (Nat.le_of_ble_eq_true rfl) (fun X hF => ?_)
  show VR X G sh 3 rvI M 0 [(0, .ref (G.2.2.2.2 v)), (1, .int x1), (2, .int x2)] [] _
  unfold m_X0_hasRun
  refine v_iload_n 1 1 hF dX0_hasRun_0 rfl rfl rfl ?_
  refine v_if_lt 4 30 hF dX0_hasRun_1 rfl (by decide) (fun _ => ?_) (fun _ => ?_)
  · refine v_iconst (0) 31 hF dX0_hasRun_30 rfl (by decide) ?_
    exact v_zret0 hF dX0_hasRun_31 rfl
  · refine v_iload_n 2 5 hF dX0_hasRun_4 rfl rfl rfl ?_
    refine v_if_lt 8 30 hF dX0_hasRun_5 rfl (by decide) (fun _ => ?_) (fun _ => ?_)
    · refine v_iconst (0) 31 hF dX0_hasRun_30 rfl (by decide) ?_
      exact v_zret0 hF dX0_hasRun_31 rfl
    · refine v_iload_n 1 9 hF dX0_hasRun_8 rfl rfl rfl ?_
      refine v_aload_n 0 10 hF dX0_hasRun_9 rfl rfl rfl ?_
      refine v_getI 13 hF dX0_hasRun_10 rfl fl_X0_26 hv.1 rfl ?_
      refine v_icmp_gt 16 30 hF dX0_hasRun_13 rfl (by decide) (fun _ => ?_) (fun _ => ?_)
      · refine v_iconst (0) 31 hF dX0_hasRun_30 rfl (by decide) ?_
        exact v_zret0 hF dX0_hasRun_31 rfl
      · refine v_iload_n 2 17 hF dX0_hasRun_16 rfl rfl rfl ?_
        refine v_aload_n 0 18 hF dX0_hasRun_17 rfl rfl rfl ?_
        refine v_getI 21 hF dX0_hasRun_18 rfl fl_X0_26 hv.1 rfl ?_
        refine v_iload_n 1 22 hF dX0_hasRun_21 rfl rfl rfl ?_
        refine v_isub 23 hF dX0_hasRun_22 rfl ?_
        refine v_icmp_gt 26 30 hF dX0_hasRun_23 rfl (by decide) (fun _ => ?_) (fun _ => ?_)
        · refine v_iconst (0) 31 hF dX0_hasRun_30 rfl (by decide) ?_
          exact v_zret0 hF dX0_hasRun_31 rfl
        · refine v_iconst (1) 27 hF dX0_hasRun_26 rfl (by decide) ?_
          refine v_goto 31 hF dX0_hasRun_27 (by decide) ?_
          exact v_zret0 hF dX0_hasRun_31 rfl
abbrev rmX0_item : Room := { frames := 1, cells := 0, slots := 0, locals := 21 }
def m_X0_item (v : Nat) (x1 : Int32) (M : Mm) : Option (Int32 × Mm) := bd (m_X0_has v x1 M) fun r2 M1 => if r2 = 0 then (some ((0 : Int32), M1)) else (gd (inr x1 40) (some ((M1 (v + 1) x1.toNatClampNeg), M1)))
set_option maxRecDepth 100000 in
set_option maxHeartbeats 4000000 in
theorem c_X0_item {G : Gx} {sh : List Sh} {v : Nat} (hv : SheAt sh v) (M : Mm) (x1 : Int32) : CT yX0_item cX0_item 2 (some .int) rmX0_item G sh [.ref (G.2.2.2.2 v), .int x1] rvI M (m_X0_item v x1 M) := by
  refine CT.of (by decide +kernel) (Nat.le_of_ble_eq_true rfl) (fun X hF => ?_)
  show VR X G sh 2 rvI M 0 [(0, .ref (G.2.2.2.2 v)), (1, .int x1)] [] _
  unfold m_X0_item
  refine v_aload_n 0 1 hF dX0_item_0 rfl rfl rfl ?_
  refine v_iload_n 1 2 hF dX0_item_1 rfl rfl rfl ?_
  refine v_callI ([.int x1]) ([]) 5 hF dX0_item_2 rfl cw_X0_29 rfl (hv.1) (c_X0_has (G := G) hv M x1) ⟨rfl, rfl, Nat.le_of_ble_eq_true rfl, Nat.le_of_ble_eq_true rfl⟩ rfl rfl (Nat.le_of_ble_eq_true rfl) (fun r2 M1 => ?_)
  refine v_if_eq 8 17 hF dX0_item_5 rfl (by decide) (fun _ => ?_) (fun _ => ?_)
  · refine v_iconst (0) 18 hF dX0_item_17 rfl (by decide) ?_
    exact v_iret hF dX0_item_18
  · refine v_aload_n 0 9 hF dX0_item_8 rfl rfl rfl ?_
    refine v_getR (b := v + 1) 12 hF dX0_item_9 rfl fl_X0_13 hv.1 rfl ?_
    refine v_iload_n 1 13 hF dX0_item_12 rfl rfl rfl ?_
    refine v_iald 14 hF dX0_item_13 rfl (hv.2) ?_
    refine v_goto 18 hF dX0_item_14 (by decide) ?_
    exact v_iret hF dX0_item_18
abbrev rmX0_put : Room := { frames := 1, cells := 0, slots := 0, locals := 21 }
def m_X0_put_J39 (v : Nat) (s0 : Int32) (s1 : Int32) (M : Mm) : Option (Unit × Mm) := gd (inr s1 40) (lt1 (up M (v + 1) s1.toNatClampNeg s0) fun M1 => some ((), M1))
def m_X0_put (v : Nat) (x1 : Int32) (x2 : Int32) (M : Mm) : Option (Unit × Mm) := bd (m_X0_has v x1 M) fun r3 M2 => if r3 = 0 then (some ((), M2)) else (if (M2 v 0) = 0 then (m_X0_put_J39 v (((x2).toInt8.toInt32)) x1 M2) else (if (M2 v 0) = (1 : Int32) then (m_X0_put_J39 v (((x2).toInt16.toInt32)) x1 M2) else (m_X0_put_J39 v x2 x1 M2)))
set_option maxRecDepth 100000 in
set_option maxHeartbeats 4000000 in
theorem v_X0_put_J39 {X : Cx} {G : Gx} {sh : List Sh} (hF : FX X G sh 3 cX0_put (yX0_put).cls none rmX0_put) {v : Nat} (hv : SheAt sh v) : ∀ (s0 : Int32) (s1 : Int32) (M : Mm), VR X G sh 3 rvV M 39 [(0, .ref (G.2.2.2.2 v))] [.int s0, .int s1, .ref (G.2.2.2.2 (v + 1))] (m_X0_put_J39 v s0 s1 M) := by
  intro s0 s1 M
  unfold m_X0_put_J39
  refine v_iast 40 hF dX0_put_39 rfl (hv.2) (fun M1 => ?_)
  exact v_vret hF dX0_put_40
set_option maxRecDepth 100000 in
set_option maxHeartbeats 4000000 in
theorem c_X0_put {G : Gx} {sh : List Sh} {v : Nat} (hv : SheAt sh v) (M : Mm) (x1 : Int32) (x2 : Int32) : CT yX0_put cX0_put 3 none rmX0_put G sh [.ref (G.2.2.2.2 v), .int x1, .int x2] rvV M (m_X0_put v x1 x2 M) := by
  refine CT.of (by decide +kernel) (Nat.le_of_ble_eq_true rfl) (fun X hF => ?_)
  show VR X G sh 3 rvV M 0 [(0, .ref (G.2.2.2.2 v)), (1, .int x1), (2, .int x2)] [] _
  unfold m_X0_put
  refine v_aload_n 0 1 hF dX0_put_0 rfl rfl rfl ?_
  refine v_iload_n 1 2 hF dX0_put_1 rfl rfl rfl ?_
  refine v_callI ([.int x1]) ([]) 5 hF dX0_put_2 rfl cw_X0_29 rfl (hv.1) (c_X0_has (G := G) hv M x1) ⟨rfl, rfl, Nat.le_of_ble_eq_true rfl, Nat.le_of_ble_eq_true rfl⟩ rfl rfl (Nat.le_of_ble_eq_true rfl) (fun r3 M2 => ?_)
  refine v_if_eq 8 40 hF dX0_put_5 rfl (by decide) (fun _ => ?_) (fun _ => ?_)
  · exact v_vret hF dX0_put_40
  · refine v_aload_n 0 9 hF dX0_put_8 rfl rfl rfl ?_
    refine v_getR (b := v + 1) 12 hF dX0_put_9 rfl fl_X0_13 hv.1 rfl ?_
    refine v_iload_n 1 13 hF dX0_put_12 rfl rfl rfl ?_
    refine v_aload_n 0 14 hF dX0_put_13 rfl rfl rfl ?_
    refine v_getI 17 hF dX0_put_14 rfl fl_X0_9 hv.1 rfl ?_
    refine v_if_ne 20 25 hF dX0_put_17 rfl (by decide) (fun _ => ?_) (fun _ => ?_)
    · refine v_aload_n 0 26 hF dX0_put_25 rfl rfl rfl ?_
      refine v_getI 29 hF dX0_put_26 rfl fl_X0_9 hv.1 rfl ?_
      refine v_iconst (1) 30 hF dX0_put_29 rfl (by decide) ?_
      refine v_icmp_ne 33 38 hF dX0_put_30 rfl (by decide) (fun _ => ?_) (fun _ => ?_)
      · refine v_iload_n 2 39 hF dX0_put_38 rfl rfl rfl ?_
        refine VR.pick [0] rfl ?_
        exact v_X0_put_J39 hF hv x2 x1 M2
      · refine v_iload_n 2 34 hF dX0_put_33 rfl rfl rfl ?_
        refine v_i2s 35 hF dX0_put_34 rfl ?_
        refine v_goto 39 hF dX0_put_35 (by decide) ?_
        refine VR.pick [0] rfl ?_
        exact v_X0_put_J39 hF hv (((x2).toInt16.toInt32)) x1 M2
    · refine v_iload_n 2 21 hF dX0_put_20 rfl rfl rfl ?_
      refine v_i2b 22 hF dX0_put_21 rfl ?_
      refine v_goto 39 hF dX0_put_22 (by decide) ?_
      refine VR.pick [0] rfl ?_
      exact v_X0_put_J39 hF hv (((x2).toInt8.toInt32)) x1 M2
abbrev rmX1_add : Room := { frames := 0, cells := 0, slots := 0, locals := 0 }
def m_X1_add (x1 : Int32) (M : Mm) : Option (Int32 × Mm) := if (M 5 0) < 0 then (some ((0 : Int32), M)) else (if (M 5 0) < (160 : Int32) then (gd (inr ((M 5 0)) 160) (lt1 (up M 6 ((M 5 0)).toNatClampNeg x1) fun M1 => lt1 (up M1 5 0 (((M1 5 0) + (1 : Int32)))) fun M2 => some ((1 : Int32), M2))) else (some ((0 : Int32), M)))
set_option maxRecDepth 100000 in
set_option maxHeartbeats 4000000 in
theorem c_X1_add {G : Gx} {sh : List Sh} (hT : TexAt sh) (hP : TapAt sh) (M : Mm) (x1 : Int32) : CT yX1_add cX1_add 2 (some .boolean) rmX1_add G sh [.ref (G.2.2.2.2 5), .int x1] rvI M (m_X1_add  x1 M) := by
  refine CT.of (by decide +kernel) (Nat.le_of_ble_eq_true rfl) (fun X hF => ?_)
  show VR X G sh 2 rvI M 0 [(0, .ref (G.2.2.2.2 5)), (1, .int x1)] [] _
  unfold m_X1_add
  refine v_aload_n 0 1 hF dX1_add_0 rfl rfl rfl ?_
  refine v_getI 4 hF dX1_add_1 rfl fl_X1_19 hP.1 rfl ?_
  refine v_if_lt 7 17 hF dX1_add_4 rfl (by decide) (fun _ => ?_) (fun _ => ?_)
  · refine v_iconst (0) 18 hF dX1_add_17 rfl (by decide) ?_
    exact v_zret0 hF dX1_add_18 rfl
  · refine v_aload_n 0 8 hF dX1_add_7 rfl rfl rfl ?_
    refine v_getI 11 hF dX1_add_8 rfl fl_X1_19 hP.1 rfl ?_
    refine v_sipush (160) 14 hF dX1_add_11 rfl (by decide) ?_
    refine v_icmp_lt 17 19 hF dX1_add_14 rfl (by decide) (fun _ => ?_) (fun _ => ?_)
    · refine v_aload_n 0 20 hF dX1_add_19 rfl rfl rfl ?_
      refine v_getR (b := 6) 23 hF dX1_add_20 rfl fl_X1_11 hP.1 rfl ?_
      refine v_aload_n 0 24 hF dX1_add_23 rfl rfl rfl ?_
      refine v_getI 27 hF dX1_add_24 rfl fl_X1_19 hP.1 rfl ?_
      refine v_iload_n 1 28 hF dX1_add_27 rfl rfl rfl ?_
      refine v_iast 29 hF dX1_add_28 rfl (hP.2) (fun M1 => ?_)
      refine v_aload_n 0 30 hF dX1_add_29 rfl rfl rfl ?_
      refine v_dupR 31 hF dX1_add_30 rfl ?_
      refine v_getI 34 hF dX1_add_31 rfl fl_X1_19 hP.1 rfl ?_
      refine v_iconst (1) 35 hF dX1_add_34 rfl (by decide) ?_
      refine v_iadd 36 hF dX1_add_35 rfl ?_
      refine v_putI 39 hF dX1_add_36 rfl fl_X1_19 fp_X1_0 hP.1 rfl (fun M2 => ?_)
      refine v_iconst (1) 40 hF dX1_add_39 rfl (by decide) ?_
      exact v_zret0 hF dX1_add_40 rfl
    · refine v_iconst (0) 18 hF dX1_add_17 rfl (by decide) ?_
      exact v_zret0 hF dX1_add_18 rfl
abbrev rmJ0_isLatin1_aae02 : Room := { frames := 0, cells := 0, slots := 0, locals := 0 }
def m_J0_isLatin1_aae02 (w : Nat)  (M : Mm) : Option (Int32 × Mm) := if (1 : Int32) = 0 then (some ((0 : Int32), M)) else (if (0 : Int32) = 0 then (some ((1 : Int32), M)) else (some ((0 : Int32), M)))
set_option maxRecDepth 100000 in
set_option maxHeartbeats 4000000 in
theorem c_J0_isLatin1_aae02 {G : Gx} {sh : List Sh} {w : Nat} (hw : StOk w) (M : Mm)  : CT yJ0_isLatin1_aae02 cJ0_isLatin1_aae02 1 (some .boolean) rmJ0_isLatin1_aae02 G sh [.ref (G.2.2.2.2 w)] rvI M (m_J0_isLatin1_aae02 w  M) := by
  refine CT.of (by decide +kernel) (Nat.le_of_ble_eq_true rfl) (fun X hF => ?_)
  show VR X G sh 1 rvI M 0 [(0, .ref (G.2.2.2.2 w))] [] _
  unfold m_J0_isLatin1_aae02
  refine v_compact 3 hF dJ0_isLatin1_aae02_0 rfl ls_J0_38 ?_
  refine v_if_eq 6 17 hF dJ0_isLatin1_aae02_3 rfl (by decide) (fun _ => ?_) (fun _ => ?_)
  · refine v_iconst (0) 18 hF dJ0_isLatin1_aae02_17 rfl (by decide) ?_
    exact v_zret0 hF dJ0_isLatin1_aae02_18 rfl
  · refine v_aload_n 0 7 hF dJ0_isLatin1_aae02_6 rfl rfl rfl ?_
    refine v_sgetC 10 hF dJ0_isLatin1_aae02_7 rfl hw ls_J0_15 ?_
    refine v_if_ne 13 17 hF dJ0_isLatin1_aae02_10 rfl (by decide) (fun _ => ?_) (fun _ => ?_)
    · refine v_iconst (0) 18 hF dJ0_isLatin1_aae02_17 rfl (by decide) ?_
      exact v_zret0 hF dJ0_isLatin1_aae02_18 rfl
    · refine v_iconst (1) 14 hF dJ0_isLatin1_aae02_13 rfl (by decide) ?_
      refine v_goto 18 hF dJ0_isLatin1_aae02_14 (by decide) ?_
      exact v_zret0 hF dJ0_isLatin1_aae02_18 rfl
abbrev rmJ1_charAt_3b067 : Room := { frames := 2, cells := 0, slots := 0, locals := 43 }
def m_J1_charAt_3b067 (w : Nat) (x1 : Int32) (M : Mm) : Option (Int32 × Mm) := bd (m_J0_checkIndex_df160 x1 ((Int32.ofNat (slen w))) M) fun _ M1 => gd (inr x1 (slen w)) (gd (decide (((((((sbyt w x1.toNatClampNeg) &&& (255 : Int32))).toUInt32 % 65536).toInt32).toUInt32 % 65536).toInt32 = ((((sbyt w x1.toNatClampNeg) &&& (255 : Int32))).toUInt32 % 65536).toInt32)) (some (((((sbyt w x1.toNatClampNeg) &&& (255 : Int32))).toUInt32 % 65536).toInt32, M1)))
set_option maxRecDepth 100000 in
set_option maxHeartbeats 4000000 in
theorem c_J1_charAt_3b067 {G : Gx} {sh : List Sh} {w : Nat} (hw : StOk w) (M : Mm) (x1 : Int32) : CT yJ1_charAt_3b067 cJ1_charAt_3b067 2 (some .char) rmJ1_charAt_3b067 G sh [.ref (G.2.2.2.2 (w + 1000)), .int x1] rvI M (m_J1_charAt_3b067 w x1 M) := by
  refine CT.of (by decide +kernel) (Nat.le_of_ble_eq_true rfl) (fun X hF => ?_)
  show VR X G sh 2 rvI M 0 [(0, .ref (G.2.2.2.2 (w + 1000))), (1, .int x1)] [] _
  unfold m_J1_charAt_3b067
  refine v_iload_n 1 1 hF dJ1_charAt_3b067_0 rfl rfl rfl ?_
  refine v_aload_n 0 2 hF dJ1_charAt_3b067_1 rfl rfl rfl ?_
  refine v_slen 3 hF dJ1_charAt_3b067_2 rfl hw ?_
  refine v_staV ([.int x1, .int ((Int32.ofNat (slen w)))]) ([]) 6 hF dJ1_charAt_3b067_3 rfl cw_J1_9 (c_J0_checkIndex_df160 (G := G) (sh := sh) M x1 ((Int32.ofNat (slen w)))) ⟨rfl, rfl, Nat.le_of_ble_eq_true rfl, Nat.le_of_ble_eq_true rfl⟩ rfl rfl (Nat.le_of_ble_eq_true rfl) (fun _ M1 => ?_)
  refine v_aload_n 0 7 hF dJ1_charAt_3b067_6 rfl rfl rfl ?_
  refine v_iload_n 1 8 hF dJ1_charAt_3b067_7 rfl rfl rfl ?_
  refine v_sbld 9 hF dJ1_charAt_3b067_8 rfl hw ?_
  refine v_sipush (255) 12 hF dJ1_charAt_3b067_9 rfl (by decide) ?_
  refine v_iand 13 hF dJ1_charAt_3b067_12 rfl ?_
  refine v_i2c 14 hF dJ1_charAt_3b067_13 rfl ?_
  exact v_gd (fun h => v_nret hF dJ1_charAt_3b067_14 (nar_c (of_decide_eq_true h)))
abbrev rmJ0_charAt_5068e : Room := { frames := 3, cells := 0, slots := 0, locals := 64 }
def m_J0_charAt_5068e (w : Nat) (x1 : Int32) (M : Mm) : Option (Int32 × Mm) := bd (m_J0_isLatin1_aae02 w M) fun r2 M1 => if r2 = 0 then (none) else (bd (m_J1_charAt_3b067 w x1 M1) fun r4 M3 => gd (decide (((r4).toUInt32 % 65536).toInt32 = r4)) (some (r4, M3)))
set_option maxRecDepth 100000 in
set_option maxHeartbeats 4000000 in
theorem c_J0_charAt_5068e {G : Gx} {sh : List Sh} {w : Nat} (hw : StOk w) (M : Mm) (x1 : Int32) : CT yJ0_charAt_5068e cJ0_charAt_5068e 2 (some .char) rmJ0_charAt_5068e G sh [.ref (G.2.2.2.2 w), .int x1] rvI M (m_J0_charAt_5068e w x1 M) := by
  refine CT.of (by decide +kernel) (Nat.le_of_ble_eq_true rfl) (fun X hF => ?_)
  show VR X G sh 2 rvI M 0 [(0, .ref (G.2.2.2.2 w)), (1, .int x1)] [] _
  unfold m_J0_charAt_5068e
  refine v_aload_n 0 1 hF dJ0_charAt_5068e_0 rfl rfl rfl ?_
  refine v_callSI ([]) ([]) 4 hF dJ0_charAt_5068e_1 rfl cw_J0_492 hw (c_J0_isLatin1_aae02 (G := G) hw M) ⟨rfl, rfl, Nat.le_of_ble_eq_true rfl, Nat.le_of_ble_eq_true rfl⟩ rfl rfl (Nat.le_of_ble_eq_true rfl) (fun r2 M1 => ?_)
  refine v_if_eq 7 16 hF dJ0_charAt_5068e_4 rfl (by decide) (fun _ => ?_) (fun _ => ?_)
  · refine v_aload_n 0 17 hF dJ0_charAt_5068e_16 rfl rfl rfl ?_
    refine v_sgetV 20 hF dJ0_charAt_5068e_17 rfl hw ls_J0_9 ?_
    refine v_iload_n 1 21 hF dJ0_charAt_5068e_20 rfl rfl rfl ?_
    exact VR.none
  · refine v_aload_n 0 8 hF dJ0_charAt_5068e_7 rfl rfl rfl ?_
    refine v_sgetV 11 hF dJ0_charAt_5068e_8 rfl hw ls_J0_9 ?_
    refine v_iload_n 1 12 hF dJ0_charAt_5068e_11 rfl rfl rfl ?_
    refine v_staI ([.ref (G.2.2.2.2 (w + 1000)), .int x1]) ([]) 15 hF dJ0_charAt_5068e_12 rfl cw_J0_495 (c_J1_charAt_3b067 (G := G) hw M1 x1) ⟨rfl, rfl, Nat.le_of_ble_eq_true rfl, Nat.le_of_ble_eq_true rfl⟩ rfl rfl (Nat.le_of_ble_eq_true rfl) (fun r4 M3 => ?_)
    exact v_gd (fun h => v_nret hF dJ0_charAt_5068e_15 (nar_c (of_decide_eq_true h)))
abbrev rmJ0_coder_7d493 : Room := { frames := 0, cells := 0, slots := 0, locals := 0 }
def m_J0_coder_7d493 (w : Nat)  (M : Mm) : Option (Int32 × Mm) := if (1 : Int32) = 0 then (some ((1 : Int32), M)) else (some ((0 : Int32), M))
set_option maxRecDepth 100000 in
set_option maxHeartbeats 4000000 in
theorem c_J0_coder_7d493 {G : Gx} {sh : List Sh} {w : Nat} (hw : StOk w) (M : Mm)  : CT yJ0_coder_7d493 cJ0_coder_7d493 1 (some .byte) rmJ0_coder_7d493 G sh [.ref (G.2.2.2.2 w)] rvI M (m_J0_coder_7d493 w  M) := by
  refine CT.of (by decide +kernel) (Nat.le_of_ble_eq_true rfl) (fun X hF => ?_)
  show VR X G sh 1 rvI M 0 [(0, .ref (G.2.2.2.2 w))] [] _
  unfold m_J0_coder_7d493
  refine v_compact 3 hF dJ0_coder_7d493_0 rfl ls_J0_38 ?_
  refine v_if_eq 6 13 hF dJ0_coder_7d493_3 rfl (by decide) (fun _ => ?_) (fun _ => ?_)
  · refine v_iconst (1) 14 hF dJ0_coder_7d493_13 rfl (by decide) ?_
    exact v_nret hF dJ0_coder_7d493_14 rfl
  · refine v_aload_n 0 7 hF dJ0_coder_7d493_6 rfl rfl rfl ?_
    refine v_sgetC 10 hF dJ0_coder_7d493_7 rfl hw ls_J0_15 ?_
    refine v_goto 14 hF dJ0_coder_7d493_10 (by decide) ?_
    exact v_nret hF dJ0_coder_7d493_14 rfl
abbrev rmJ0_length_8abf5 : Room := { frames := 1, cells := 0, slots := 0, locals := 20 }
def m_J0_length_8abf5 (w : Nat)  (M : Mm) : Option (Int32 × Mm) := bd (m_J0_coder_7d493 w M) fun r2 M1 => some ((shr ((Int32.ofNat (slen w))) r2), M1)
set_option maxRecDepth 100000 in
set_option maxHeartbeats 4000000 in
theorem c_J0_length_8abf5 {G : Gx} {sh : List Sh} {w : Nat} (hw : StOk w) (M : Mm)  : CT yJ0_length_8abf5 cJ0_length_8abf5 1 (some .int) rmJ0_length_8abf5 G sh [.ref (G.2.2.2.2 w)] rvI M (m_J0_length_8abf5 w  M) := by
  refine CT.of (by decide +kernel) (Nat.le_of_ble_eq_true rfl) (fun X hF => ?_)
  show VR X G sh 1 rvI M 0 [(0, .ref (G.2.2.2.2 w))] [] _
  unfold m_J0_length_8abf5
  refine v_aload_n 0 1 hF dJ0_length_8abf5_0 rfl rfl rfl ?_
  refine v_sgetV 4 hF dJ0_length_8abf5_1 rfl hw ls_J0_9 ?_
  refine v_slen 5 hF dJ0_length_8abf5_4 rfl hw ?_
  refine v_aload_n 0 6 hF dJ0_length_8abf5_5 rfl rfl rfl ?_
  refine v_callSI ([]) ([.int ((Int32.ofNat (slen w)))]) 9 hF dJ0_length_8abf5_6 rfl cw_J0_335 hw (c_J0_coder_7d493 (G := G) hw M) ⟨rfl, rfl, Nat.le_of_ble_eq_true rfl, Nat.le_of_ble_eq_true rfl⟩ rfl rfl (Nat.le_of_ble_eq_true rfl) (fun r2 M1 => ?_)
  refine v_ishr 10 hF dJ0_length_8abf5_9 rfl ?_
  exact v_iret hF dJ0_length_8abf5_10
abbrev rmX1_addAll : Room := { frames := 4, cells := 0, slots := 0, locals := 85 }
def m_X1_addAll_B2 (w : Nat) (n2 : Int32 → Mm → Option (Unit × Mm)) (x2 : Int32) (M : Mm) : Option (Unit × Mm) := bd (m_J0_length_8abf5 w M) fun r2 M1 => if r2 ≤ x2 then (some ((), M1)) else (bd (m_J0_charAt_5068e w x2 M1) fun r4 M3 => bd (m_X1_add r4 M3) fun r6 M5 => lt1 (x2 + 1) fun y7 => n2 y7 M5)
def m_X1_addAll_L2 (w : Nat) : Nat → Int32 → Mm → Option (Unit × Mm)
  | 0 => fun _ _ => none
  | n + 1 => m_X1_addAll_B2 w (m_X1_addAll_L2 w n)
def m_X1_addAll (w : Nat)  (M : Mm) : Option (Unit × Mm) := lt1 ((0 : Int32)) fun y8 => m_X1_addAll_L2 w FU y8 M
set_option maxRecDepth 100000 in
set_option maxHeartbeats 4000000 in
theorem v_X1_addAll_B2 {X : Cx} {G : Gx} {sh : List Sh} (hF : FX X G sh 3 cX1_addAll (yX1_addAll).cls none rmX1_addAll) {w : Nat} (hT : TexAt sh) (hP : TapAt sh) (hw : StOk w) (n2 : Int32 → Mm → Option (Unit × Mm)) (h2 : ∀ (x2 : Int32) (M : Mm), VR X G sh 3 rvV M 2 [(0, .ref (G.2.2.2.2 5)), (1, .ref (G.2.2.2.2 w)), (2, .int x2)] [] (n2 x2 M)) : ∀ (x2 : Int32) (M : Mm), VR X G sh 3 rvV M 2 [(0, .ref (G.2.2.2.2 5)), (1, .ref (G.2.2.2.2 w)), (2, .int x2)] [] (m_X1_addAll_B2 w n2 x2 M) := by
  intro x2 M
  unfold m_X1_addAll_B2
  refine v_iload_n 2 3 hF dX1_addAll_2 rfl rfl rfl ?_
  refine v_aload_n 1 4 hF dX1_addAll_3 rfl rfl rfl ?_
  refine v_callSI ([]) ([.int x2]) 7 hF dX1_addAll_4 rfl cw_X1_23 hw (c_J0_length_8abf5 (G := G) hw M) ⟨rfl, rfl, Nat.le_of_ble_eq_true rfl, Nat.le_of_ble_eq_true rfl⟩ rfl rfl (Nat.le_of_ble_eq_true rfl) (fun r2 M1 => ?_)
  refine v_icmp_ge 10 26 hF dX1_addAll_7 rfl (by decide) (fun _ => ?_) (fun _ => ?_)
  · exact v_vret hF dX1_addAll_26
  · refine v_aload_n 0 11 hF dX1_addAll_10 rfl rfl rfl ?_
    refine v_aload_n 1 12 hF dX1_addAll_11 rfl rfl rfl ?_
    refine v_iload_n 2 13 hF dX1_addAll_12 rfl rfl rfl ?_
    refine v_callSI ([.int x2]) ([.ref (G.2.2.2.2 5)]) 16 hF dX1_addAll_13 rfl cw_X1_29 hw (c_J0_charAt_5068e (G := G) hw M1 x2) ⟨rfl, rfl, Nat.le_of_ble_eq_true rfl, Nat.le_of_ble_eq_true rfl⟩ rfl rfl (Nat.le_of_ble_eq_true rfl) (fun r4 M3 => ?_)
    refine v_callI ([.int r4]) ([]) 19 hF dX1_addAll_16 rfl cw_X1_33 rfl (hP.1) (c_X1_add (G := G) hT hP M3 r4) ⟨rfl, rfl, Nat.le_of_ble_eq_true rfl, Nat.le_of_ble_eq_true rfl⟩ rfl rfl (Nat.le_of_ble_eq_true rfl) (fun r6 M5 => ?_)
    refine v_popI 20 hF dX1_addAll_19 rfl ?_
    refine v_iinc (v := (x2 + 1)) (lo' := fun y7 => [(2, .int y7), (0, .ref (G.2.2.2.2 5)), (1, .ref (G.2.2.2.2 w))]) 2 23 hF dX1_addAll_20 rfl rfl rfl (by decide) (fun _ => rfl) (fun y7 => ?_)
    refine v_goto 2 hF dX1_addAll_23 (by decide) ?_
    refine VR.pick [1, 2, 0] rfl ?_
    exact h2 y7 M5
theorem v_X1_addAll_L2 {X : Cx} {G : Gx} {sh : List Sh} (hF : FX X G sh 3 cX1_addAll (yX1_addAll).cls none rmX1_addAll) {w : Nat} (hT : TexAt sh) (hP : TapAt sh) (hw : StOk w) : ∀ (n : Nat), ∀ (x2 : Int32) (M : Mm), VR X G sh 3 rvV M 2 [(0, .ref (G.2.2.2.2 5)), (1, .ref (G.2.2.2.2 w)), (2, .int x2)] [] (m_X1_addAll_L2 w n x2 M) := by
  intro n
  induction n with
  | zero => intro x2 M; exact VR.none
  | succ n ih => exact v_X1_addAll_B2 hF hT hP hw _ ih
set_option maxRecDepth 100000 in
set_option maxHeartbeats 4000000 in
theorem c_X1_addAll {G : Gx} {sh : List Sh} {w : Nat} (hT : TexAt sh) (hP : TapAt sh) (hw : StOk w) (M : Mm)  : CT yX1_addAll cX1_addAll 3 none rmX1_addAll G sh [.ref (G.2.2.2.2 5), .ref (G.2.2.2.2 w)] rvV M (m_X1_addAll w  M) := by
  refine CT.of (by decide +kernel) (Nat.le_of_ble_eq_true rfl) (fun X hF => ?_)
  show VR X G sh 3 rvV M 0 [(0, .ref (G.2.2.2.2 5)), (1, .ref (G.2.2.2.2 w))] [] _
  unfold m_X1_addAll
  refine v_iconst (0) 1 hF dX1_addAll_0 rfl (by decide) ?_
  refine v_istore_n (lo' := fun y8 => [(2, .int y8), (0, .ref (G.2.2.2.2 5)), (1, .ref (G.2.2.2.2 w))]) 2 hF dX1_addAll_1 rfl rfl (by decide) (fun _ => rfl) (fun y8 => ?_)
  refine VR.pick [1, 2, 0] rfl ?_
  exact v_X1_addAll_L2 hF hT hP hw FU y8 M
abbrev rmX1_byteAt : Room := { frames := 0, cells := 0, slots := 0, locals := 0 }
def m_X1_byteAt (x1 : Int32) (M : Mm) : Option (Int32 × Mm) := if x1 < 0 then (some ((-1 : Int32), M)) else (if (M 5 0) ≤ x1 then (some ((-1 : Int32), M)) else (if (160 : Int32) ≤ x1 then (some ((-1 : Int32), M)) else (gd (inr x1 160) (some ((M 6 x1.toNatClampNeg), M)))))
set_option maxRecDepth 100000 in
set_option maxHeartbeats 4000000 in
theorem c_X1_byteAt {G : Gx} {sh : List Sh} (hT : TexAt sh) (hP : TapAt sh) (M : Mm) (x1 : Int32) : CT yX1_byteAt cX1_byteAt 2 (some .int) rmX1_byteAt G sh [.ref (G.2.2.2.2 5), .int x1] rvI M (m_X1_byteAt  x1 M) := by
  refine CT.of (by decide +kernel) (Nat.le_of_ble_eq_true rfl) (fun X hF => ?_)
  show VR X G sh 2 rvI M 0 [(0, .ref (G.2.2.2.2 5)), (1, .int x1)] [] _
  unfold m_X1_byteAt
  refine v_iload_n 1 1 hF dX1_byteAt_0 rfl rfl rfl ?_
  refine v_if_lt 4 28 hF dX1_byteAt_1 rfl (by decide) (fun _ => ?_) (fun _ => ?_)
  · refine v_iconst (-1) 29 hF dX1_byteAt_28 rfl (by decide) ?_
    exact v_iret hF dX1_byteAt_29
  · refine v_iload_n 1 5 hF dX1_byteAt_4 rfl rfl rfl ?_
    refine v_aload_n 0 6 hF dX1_byteAt_5 rfl rfl rfl ?_
    refine v_getI 9 hF dX1_byteAt_6 rfl fl_X1_19 hP.1 rfl ?_
    refine v_icmp_ge 12 28 hF dX1_byteAt_9 rfl (by decide) (fun _ => ?_) (fun _ => ?_)
    · refine v_iconst (-1) 29 hF dX1_byteAt_28 rfl (by decide) ?_
      exact v_iret hF dX1_byteAt_29
    · refine v_iload_n 1 13 hF dX1_byteAt_12 rfl rfl rfl ?_
      refine v_sipush (160) 16 hF dX1_byteAt_13 rfl (by decide) ?_
      refine v_icmp_ge 19 28 hF dX1_byteAt_16 rfl (by decide) (fun _ => ?_) (fun _ => ?_)
      · refine v_iconst (-1) 29 hF dX1_byteAt_28 rfl (by decide) ?_
        exact v_iret hF dX1_byteAt_29
      · refine v_aload_n 0 20 hF dX1_byteAt_19 rfl rfl rfl ?_
        refine v_getR (b := 6) 23 hF dX1_byteAt_20 rfl fl_X1_11 hP.1 rfl ?_
        refine v_iload_n 1 24 hF dX1_byteAt_23 rfl rfl rfl ?_
        refine v_iald 25 hF dX1_byteAt_24 rfl (hP.2) ?_
        refine v_goto 29 hF dX1_byteAt_25 (by decide) ?_
        exact v_iret hF dX1_byteAt_29
abbrev rmX1_isBlank : Room := { frames := 0, cells := 0, slots := 0, locals := 0 }
def m_X1_isBlank_J12  (M : Mm) : Option (Int32 × Mm) := some ((1 : Int32), M)
def m_X1_isBlank (x0 : Int32) (M : Mm) : Option (Int32 × Mm) := if x0 = (32 : Int32) then (m_X1_isBlank_J12 M) else (if x0 = (10 : Int32) then (m_X1_isBlank_J12 M) else (some ((0 : Int32), M)))
set_option maxRecDepth 100000 in
set_option maxHeartbeats 4000000 in
theorem v_X1_isBlank_J12 {X : Cx} {G : Gx} {sh : List Sh} (hF : FX X G sh 1 cX1_isBlank (yX1_isBlank).cls (some .boolean) rmX1_isBlank) : ∀ (M : Mm), VR X G sh 1 rvI M 12 [] [] (m_X1_isBlank_J12   M) := by
  intro  M
  unfold m_X1_isBlank_J12
  refine v_iconst (1) 13 hF dX1_isBlank_12 rfl (by decide) ?_
  refine v_goto 17 hF dX1_isBlank_13 (by decide) ?_
  exact v_zret0 hF dX1_isBlank_17 rfl
set_option maxRecDepth 100000 in
set_option maxHeartbeats 4000000 in
theorem c_X1_isBlank {G : Gx} {sh : List Sh} (M : Mm) (x0 : Int32) : CT yX1_isBlank cX1_isBlank 1 (some .boolean) rmX1_isBlank G sh [.int x0] rvI M (m_X1_isBlank  x0 M) := by
  refine CT.of (by decide +kernel) (Nat.le_of_ble_eq_true rfl) (fun X hF => ?_)
  show VR X G sh 1 rvI M 0 [(0, .int x0)] [] _
  unfold m_X1_isBlank
  refine v_iload_n 0 1 hF dX1_isBlank_0 rfl rfl rfl ?_
  refine v_bipush (32) 3 hF dX1_isBlank_1 rfl (by decide) ?_
  refine v_icmp_eq 6 12 hF dX1_isBlank_3 rfl (by decide) (fun _ => ?_) (fun _ => ?_)
  · refine VR.pick [] rfl ?_
    exact v_X1_isBlank_J12 hF M
  · refine v_iload_n 0 7 hF dX1_isBlank_6 rfl rfl rfl ?_
    refine v_bipush (10) 9 hF dX1_isBlank_7 rfl (by decide) ?_
    refine v_icmp_ne 12 16 hF dX1_isBlank_9 rfl (by decide) (fun _ => ?_) (fun _ => ?_)
    · refine v_iconst (0) 17 hF dX1_isBlank_16 rfl (by decide) ?_
      exact v_zret0 hF dX1_isBlank_17 rfl
    · refine VR.pick [] rfl ?_
      exact v_X1_isBlank_J12 hF M
abbrev rmX1_isDigit : Room := { frames := 0, cells := 0, slots := 0, locals := 0 }
def m_X1_isDigit (x0 : Int32) (M : Mm) : Option (Int32 × Mm) := if x0 < (48 : Int32) then (some ((0 : Int32), M)) else (if (57 : Int32) < x0 then (some ((0 : Int32), M)) else (some ((1 : Int32), M)))
set_option maxRecDepth 100000 in
set_option maxHeartbeats 4000000 in
theorem c_X1_isDigit {G : Gx} {sh : List Sh} (M : Mm) (x0 : Int32) : CT yX1_isDigit cX1_isDigit 1 (some .boolean) rmX1_isDigit G sh [.int x0] rvI M (m_X1_isDigit  x0 M) := by
  refine CT.of (by decide +kernel) (Nat.le_of_ble_eq_true rfl) (fun X hF => ?_)
  show VR X G sh 1 rvI M 0 [(0, .int x0)] [] _
  unfold m_X1_isDigit
  refine v_iload_n 0 1 hF dX1_isDigit_0 rfl rfl rfl ?_
  refine v_bipush (48) 3 hF dX1_isDigit_1 rfl (by decide) ?_
  refine v_icmp_lt 6 16 hF dX1_isDigit_3 rfl (by decide) (fun _ => ?_) (fun _ => ?_)
  · refine v_iconst (0) 17 hF dX1_isDigit_16 rfl (by decide) ?_
    exact v_zret0 hF dX1_isDigit_17 rfl
  · refine v_iload_n 0 7 hF dX1_isDigit_6 rfl rfl rfl ?_
    refine v_bipush (57) 9 hF dX1_isDigit_7 rfl (by decide) ?_
    refine v_icmp_gt 12 16 hF dX1_isDigit_9 rfl (by decide) (fun _ => ?_) (fun _ => ?_)
    · refine v_iconst (0) 17 hF dX1_isDigit_16 rfl (by decide) ?_
      exact v_zret0 hF dX1_isDigit_17 rfl
    · refine v_iconst (1) 13 hF dX1_isDigit_12 rfl (by decide) ?_
      refine v_goto 17 hF dX1_isDigit_13 (by decide) ?_
      exact v_zret0 hF dX1_isDigit_17 rfl
abbrev rmX1_isSign : Room := { frames := 0, cells := 0, slots := 0, locals := 0 }
def m_X1_isSign_J48  (M : Mm) : Option (Int32 × Mm) := some ((1 : Int32), M)
def m_X1_isSign (x0 : Int32) (M : Mm) : Option (Int32 × Mm) := if x0 = (40 : Int32) then (m_X1_isSign_J48 M) else (if x0 = (41 : Int32) then (m_X1_isSign_J48 M) else (if x0 = (59 : Int32) then (m_X1_isSign_J48 M) else (if x0 = (43 : Int32) then (m_X1_isSign_J48 M) else (if x0 = (45 : Int32) then (m_X1_isSign_J48 M) else (if x0 = (42 : Int32) then (m_X1_isSign_J48 M) else (if x0 = (60 : Int32) then (m_X1_isSign_J48 M) else (if x0 = (61 : Int32) then (m_X1_isSign_J48 M) else (some ((0 : Int32), M)))))))))
set_option maxRecDepth 100000 in
set_option maxHeartbeats 4000000 in
theorem v_X1_isSign_J48 {X : Cx} {G : Gx} {sh : List Sh} (hF : FX X G sh 1 cX1_isSign (yX1_isSign).cls (some .boolean) rmX1_isSign) : ∀ (M : Mm), VR X G sh 1 rvI M 48 [] [] (m_X1_isSign_J48   M) := by
  intro  M
  unfold m_X1_isSign_J48
  refine v_iconst (1) 49 hF dX1_isSign_48 rfl (by decide) ?_
  refine v_goto 53 hF dX1_isSign_49 (by decide) ?_
  exact v_zret0 hF dX1_isSign_53 rfl
set_option maxRecDepth 100000 in
set_option maxHeartbeats 4000000 in
theorem c_X1_isSign {G : Gx} {sh : List Sh} (M : Mm) (x0 : Int32) : CT yX1_isSign cX1_isSign 1 (some .boolean) rmX1_isSign G sh [.int x0] rvI M (m_X1_isSign  x0 M) := by
  refine CT.of (by decide +kernel) (Nat.le_of_ble_eq_true rfl) (fun X hF => ?_)
  show VR X G sh 1 rvI M 0 [(0, .int x0)] [] _
  unfold m_X1_isSign
  refine v_iload_n 0 1 hF dX1_isSign_0 rfl rfl rfl ?_
  refine v_bipush (40) 3 hF dX1_isSign_1 rfl (by decide) ?_
  refine v_icmp_eq 6 48 hF dX1_isSign_3 rfl (by decide) (fun _ => ?_) (fun _ => ?_)
  · refine VR.pick [] rfl ?_
    exact v_X1_isSign_J48 hF M
  · refine v_iload_n 0 7 hF dX1_isSign_6 rfl rfl rfl ?_
    refine v_bipush (41) 9 hF dX1_isSign_7 rfl (by decide) ?_
    refine v_icmp_eq 12 48 hF dX1_isSign_9 rfl (by decide) (fun _ => ?_) (fun _ => ?_)
    · refine VR.pick [] rfl ?_
      exact v_X1_isSign_J48 hF M
    · refine v_iload_n 0 13 hF dX1_isSign_12 rfl rfl rfl ?_
      refine v_bipush (59) 15 hF dX1_isSign_13 rfl (by decide) ?_
      refine v_icmp_eq 18 48 hF dX1_isSign_15 rfl (by decide) (fun _ => ?_) (fun _ => ?_)
      · refine VR.pick [] rfl ?_
        exact v_X1_isSign_J48 hF M
      · refine v_iload_n 0 19 hF dX1_isSign_18 rfl rfl rfl ?_
        refine v_bipush (43) 21 hF dX1_isSign_19 rfl (by decide) ?_
        refine v_icmp_eq 24 48 hF dX1_isSign_21 rfl (by decide) (fun _ => ?_) (fun _ => ?_)
        · refine VR.pick [] rfl ?_
          exact v_X1_isSign_J48 hF M
        · refine v_iload_n 0 25 hF dX1_isSign_24 rfl rfl rfl ?_
          refine v_bipush (45) 27 hF dX1_isSign_25 rfl (by decide) ?_
          refine v_icmp_eq 30 48 hF dX1_isSign_27 rfl (by decide) (fun _ => ?_) (fun _ => ?_)
          · refine VR.pick [] rfl ?_
            exact v_X1_isSign_J48 hF M
          · refine v_iload_n 0 31 hF dX1_isSign_30 rfl rfl rfl ?_
            refine v_bipush (42) 33 hF dX1_isSign_31 rfl (by decide) ?_
            refine v_icmp_eq 36 48 hF dX1_isSign_33 rfl (by decide) (fun _ => ?_) (fun _ => ?_)
            · refine VR.pick [] rfl ?_
              exact v_X1_isSign_J48 hF M
            · refine v_iload_n 0 37 hF dX1_isSign_36 rfl rfl rfl ?_
              refine v_bipush (60) 39 hF dX1_isSign_37 rfl (by decide) ?_
              refine v_icmp_eq 42 48 hF dX1_isSign_39 rfl (by decide) (fun _ => ?_) (fun _ => ?_)
              · refine VR.pick [] rfl ?_
                exact v_X1_isSign_J48 hF M
              · refine v_iload_n 0 43 hF dX1_isSign_42 rfl rfl rfl ?_
                refine v_bipush (61) 45 hF dX1_isSign_43 rfl (by decide) ?_
                refine v_icmp_ne 48 52 hF dX1_isSign_45 rfl (by decide) (fun _ => ?_) (fun _ => ?_)
                · refine v_iconst (0) 53 hF dX1_isSign_52 rfl (by decide) ?_
                  exact v_zret0 hF dX1_isSign_53 rfl
                · refine VR.pick [] rfl ?_
                  exact v_X1_isSign_J48 hF M
abbrev rmX1_isWordByte : Room := { frames := 0, cells := 0, slots := 0, locals := 0 }
def m_X1_isWordByte (x0 : Int32) (M : Mm) : Option (Int32 × Mm) := if x0 < (97 : Int32) then (some ((0 : Int32), M)) else (if (122 : Int32) < x0 then (some ((0 : Int32), M)) else (some ((1 : Int32), M)))
set_option maxRecDepth 100000 in
set_option maxHeartbeats 4000000 in
theorem c_X1_isWordByte {G : Gx} {sh : List Sh} (M : Mm) (x0 : Int32) : CT yX1_isWordByte cX1_isWordByte 1 (some .boolean) rmX1_isWordByte G sh [.int x0] rvI M (m_X1_isWordByte  x0 M) := by
  refine CT.of (by decide +kernel) (Nat.le_of_ble_eq_true rfl) (fun X hF => ?_)
  show VR X G sh 1 rvI M 0 [(0, .int x0)] [] _
  unfold m_X1_isWordByte
  refine v_iload_n 0 1 hF dX1_isWordByte_0 rfl rfl rfl ?_
  refine v_bipush (97) 3 hF dX1_isWordByte_1 rfl (by decide) ?_
  refine v_icmp_lt 6 16 hF dX1_isWordByte_3 rfl (by decide) (fun _ => ?_) (fun _ => ?_)
  · refine v_iconst (0) 17 hF dX1_isWordByte_16 rfl (by decide) ?_
    exact v_zret0 hF dX1_isWordByte_17 rfl
  · refine v_iload_n 0 7 hF dX1_isWordByte_6 rfl rfl rfl ?_
    refine v_bipush (122) 9 hF dX1_isWordByte_7 rfl (by decide) ?_
    refine v_icmp_gt 12 16 hF dX1_isWordByte_9 rfl (by decide) (fun _ => ?_) (fun _ => ?_)
    · refine v_iconst (0) 17 hF dX1_isWordByte_16 rfl (by decide) ?_
      exact v_zret0 hF dX1_isWordByte_17 rfl
    · refine v_iconst (1) 13 hF dX1_isWordByte_12 rfl (by decide) ?_
      refine v_goto 17 hF dX1_isWordByte_13 (by decide) ?_
      exact v_zret0 hF dX1_isWordByte_17 rfl
abbrev rmX1_readNumber : Room := { frames := 1, cells := 0, slots := 0, locals := 21 }
def m_X1_readNumber_J86 (s0 : Int32) (M : Mm) : Option (Unit × Mm) := lt1 (up M 5 3 s0) fun M1 => some ((), M1)
def m_X1_readNumber_J67  (M : Mm) : Option (Unit × Mm) := if (4 : Int32) < ((M 5 5) - (M 5 4)) then (m_X1_readNumber_J86 ((2 : Int32)) M) else (m_X1_readNumber_J86 ((1 : Int32)) M)
def m_X1_readNumber_B7 (n7 : Int32 → Mm → Option (Unit × Mm)) (x1 : Int32) (M : Mm) : Option (Unit × Mm) := if (160 : Int32) ≤ x1 then (m_X1_readNumber_J67 M) else (bd (m_X1_byteAt ((M 5 5)) M) fun r3 M2 => bd (m_X1_isDigit r3 M2) fun r5 M4 => if r5 = 0 then (m_X1_readNumber_J67 M4) else (bd (m_X1_byteAt ((M4 5 5)) M4) fun r7 M6 => lt1 (up M6 5 6 (((((M4 5 6) * (10 : Int32)) + r7) - (48 : Int32)))) fun M8 => lt1 (up M8 5 5 (((M8 5 5) + (1 : Int32)))) fun M9 => lt1 (x1 + 1) fun y10 => n7 y10 M9))
def m_X1_readNumber_L7 : Nat → Int32 → Mm → Option (Unit × Mm)
  | 0 => fun _ _ => none
  | n + 1 => m_X1_readNumber_B7  (m_X1_readNumber_L7  n)
def m_X1_readNumber  (M : Mm) : Option (Unit × Mm) := lt1 (up M 5 6 ((0 : Int32))) fun M11 => lt1 ((0 : Int32)) fun y12 => m_X1_readNumber_L7 FU y12 M11
set_option maxRecDepth 100000 in
set_option maxHeartbeats 4000000 in
theorem v_X1_readNumber_J86 {X : Cx} {G : Gx} {sh : List Sh} (hF : FX X G sh 2 cX1_readNumber (yX1_readNumber).cls none rmX1_readNumber) (hT : TexAt sh) (hP : TapAt sh) : ∀ (s0 : Int32) (M : Mm), VR X G sh 2 rvV M 86 [(0, .ref (G.2.2.2.2 5))] [.int s0, .ref (G.2.2.2.2 5)] (m_X1_readNumber_J86  s0 M) := by
  intro s0 M
  unfold m_X1_readNumber_J86
  refine v_putI 89 hF dX1_readNumber_86 rfl fl_X1_67 fp_X1_3 hP.1 rfl (fun M1 => ?_)
  exact v_vret hF dX1_readNumber_89
set_option maxRecDepth 100000 in
set_option maxHeartbeats 4000000 in
theorem v_X1_readNumber_J67 {X : Cx} {G : Gx} {sh : List Sh} (hF : FX X G sh 2 cX1_readNumber (yX1_readNumber).cls none rmX1_readNumber) (hT : TexAt sh) (hP : TapAt sh) : ∀ (M : Mm), VR X G sh 2 rvV M 67 [(0, .ref (G.2.2.2.2 5))] [] (m_X1_readNumber_J67   M) := by
  intro  M
  unfold m_X1_readNumber_J67
  refine v_aload_n 0 68 hF dX1_readNumber_67 rfl rfl rfl ?_
  refine v_aload_n 0 69 hF dX1_readNumber_68 rfl rfl rfl ?_
  refine v_getI 72 hF dX1_readNumber_69 rfl fl_X1_40 hP.1 rfl ?_
  refine v_aload_n 0 73 hF dX1_readNumber_72 rfl rfl rfl ?_
  refine v_getI 76 hF dX1_readNumber_73 rfl fl_X1_93 hP.1 rfl ?_
  refine v_isub 77 hF dX1_readNumber_76 rfl ?_
  refine v_iconst (4) 78 hF dX1_readNumber_77 rfl (by decide) ?_
  refine v_icmp_gt 81 85 hF dX1_readNumber_78 rfl (by decide) (fun _ => ?_) (fun _ => ?_)
  · refine v_iconst (2) 86 hF dX1_readNumber_85 rfl (by decide) ?_
    refine VR.pick [0] rfl ?_
    exact v_X1_readNumber_J86 hF hT hP ((2 : Int32)) M
  · refine v_iconst (1) 82 hF dX1_readNumber_81 rfl (by decide) ?_
    refine v_goto 86 hF dX1_readNumber_82 (by decide) ?_
    refine VR.pick [0] rfl ?_
    exact v_X1_readNumber_J86 hF hT hP ((1 : Int32)) M
set_option maxRecDepth 100000 in
set_option maxHeartbeats 4000000 in
theorem v_X1_readNumber_B7 {X : Cx} {G : Gx} {sh : List Sh} (hF : FX X G sh 2 cX1_readNumber (yX1_readNumber).cls none rmX1_readNumber) (hT : TexAt sh) (hP : TapAt sh) (n7 : Int32 → Mm → Option (Unit × Mm)) (h7 : ∀ (x1 : Int32) (M : Mm), VR X G sh 2 rvV M 7 [(0, .ref (G.2.2.2.2 5)), (1, .int x1)] [] (n7 x1 M)) : ∀ (x1 : Int32) (M : Mm), VR X G sh 2 rvV M 7 [(0, .ref (G.2.2.2.2 5)), (1, .int x1)] [] (m_X1_readNumber_B7  n7 x1 M) := by
  intro x1 M
  unfold m_X1_readNumber_B7
  refine v_iload_n 1 8 hF dX1_readNumber_7 rfl rfl rfl ?_
  refine v_sipush (160) 11 hF dX1_readNumber_8 rfl (by decide) ?_
  refine v_icmp_ge 14 67 hF dX1_readNumber_11 rfl (by decide) (fun _ => ?_) (fun _ => ?_)
  · refine VR.pick [0] rfl ?_
    exact v_X1_readNumber_J67 hF hT hP M
  · refine v_aload_n 0 15 hF dX1_readNumber_14 rfl rfl rfl ?_
    refine v_aload_n 0 16 hF dX1_readNumber_15 rfl rfl rfl ?_
    refine v_getI 19 hF dX1_readNumber_16 rfl fl_X1_40 hP.1 rfl ?_
    refine v_callI ([.int ((M 5 5))]) ([]) 22 hF dX1_readNumber_19 rfl cw_X1_96 rfl (hP.1) (c_X1_byteAt (G := G) hT hP M ((M 5 5))) ⟨rfl, rfl, Nat.le_of_ble_eq_true rfl, Nat.le_of_ble_eq_true rfl⟩ rfl rfl (Nat.le_of_ble_eq_true rfl) (fun r3 M2 => ?_)
    refine v_staI ([.int r3]) ([]) 25 hF dX1_readNumber_22 rfl cw_X1_109 (c_X1_isDigit (G := G) (sh := sh) M2 r3) ⟨rfl, rfl, Nat.le_of_ble_eq_true rfl, Nat.le_of_ble_eq_true rfl⟩ rfl rfl (Nat.le_of_ble_eq_true rfl) (fun r5 M4 => ?_)
    refine v_if_eq 28 67 hF dX1_readNumber_25 rfl (by decide) (fun _ => ?_) (fun _ => ?_)
    · refine VR.pick [0] rfl ?_
      exact v_X1_readNumber_J67 hF hT hP M4
    · refine v_aload_n 0 29 hF dX1_readNumber_28 rfl rfl rfl ?_
      refine v_aload_n 0 30 hF dX1_readNumber_29 rfl rfl rfl ?_
      refine v_getI 33 hF dX1_readNumber_30 rfl fl_X1_87 hP.1 rfl ?_
      refine v_bipush (10) 35 hF dX1_readNumber_33 rfl (by decide) ?_
      refine v_imul 36 hF dX1_readNumber_35 rfl ?_
      refine v_aload_n 0 37 hF dX1_readNumber_36 rfl rfl rfl ?_
      refine v_aload_n 0 38 hF dX1_readNumber_37 rfl rfl rfl ?_
      refine v_getI 41 hF dX1_readNumber_38 rfl fl_X1_40 hP.1 rfl ?_
      refine v_callI ([.int ((M4 5 5))]) ([.int (((M4 5 6) * (10 : Int32))), .ref (G.2.2.2.2 5)]) 44 hF dX1_readNumber_41 rfl cw_X1_96 rfl (hP.1) (c_X1_byteAt (G := G) hT hP M4 ((M4 5 5))) ⟨rfl, rfl, Nat.le_of_ble_eq_true rfl, Nat.le_of_ble_eq_true rfl⟩ rfl rfl (Nat.le_of_ble_eq_true rfl) (fun r7 M6 => ?_)
      refine v_iadd 45 hF dX1_readNumber_44 rfl ?_
      refine v_bipush (48) 47 hF dX1_readNumber_45 rfl (by decide) ?_
      refine v_isub 48 hF dX1_readNumber_47 rfl ?_
      refine v_putI 51 hF dX1_readNumber_48 rfl fl_X1_87 fp_X1_6 hP.1 rfl (fun M8 => ?_)
      refine v_aload_n 0 52 hF dX1_readNumber_51 rfl rfl rfl ?_
      refine v_dupR 53 hF dX1_readNumber_52 rfl ?_
      refine v_getI 56 hF dX1_readNumber_53 rfl fl_X1_40 hP.1 rfl ?_
      refine v_iconst (1) 57 hF dX1_readNumber_56 rfl (by decide) ?_
      refine v_iadd 58 hF dX1_readNumber_57 rfl ?_
      refine v_putI 61 hF dX1_readNumber_58 rfl fl_X1_40 fp_X1_5 hP.1 rfl (fun M9 => ?_)
      refine v_iinc (v := (x1 + 1)) (lo' := fun y10 => [(1, .int y10), (0, .ref (G.2.2.2.2 5))]) 1 64 hF dX1_readNumber_61 rfl rfl rfl (by decide) (fun _ => rfl) (fun y10 => ?_)
      refine v_goto 7 hF dX1_readNumber_64 (by decide) ?_
      refine VR.pick [1, 0] rfl ?_
      exact h7 y10 M9
theorem v_X1_readNumber_L7 {X : Cx} {G : Gx} {sh : List Sh} (hF : FX X G sh 2 cX1_readNumber (yX1_readNumber).cls none rmX1_readNumber) (hT : TexAt sh) (hP : TapAt sh) : ∀ (n : Nat), ∀ (x1 : Int32) (M : Mm), VR X G sh 2 rvV M 7 [(0, .ref (G.2.2.2.2 5)), (1, .int x1)] [] (m_X1_readNumber_L7  n x1 M) := by
  intro n
  induction n with
  | zero => intro x1 M; exact VR.none
  | succ n ih => exact v_X1_readNumber_B7 hF hT hP _ ih
set_option maxRecDepth 100000 in
set_option maxHeartbeats 4000000 in
theorem c_X1_readNumber {G : Gx} {sh : List Sh} (hT : TexAt sh) (hP : TapAt sh) (M : Mm)  : CT yX1_readNumber cX1_readNumber 2 none rmX1_readNumber G sh [.ref (G.2.2.2.2 5)] rvV M (m_X1_readNumber   M) := by
  refine CT.of (by decide +kernel) (Nat.le_of_ble_eq_true rfl) (fun X hF => ?_)
  show VR X G sh 2 rvV M 0 [(0, .ref (G.2.2.2.2 5))] [] _
  unfold m_X1_readNumber
  refine v_aload_n 0 1 hF dX1_readNumber_0 rfl rfl rfl ?_
  refine v_iconst (0) 2 hF dX1_readNumber_1 rfl (by decide) ?_
  refine v_putI 5 hF dX1_readNumber_2 rfl fl_X1_87 fp_X1_6 hP.1 rfl (fun M11 => ?_)
  refine v_iconst (0) 6 hF dX1_readNumber_5 rfl (by decide) ?_
  refine v_istore_n (lo' := fun y12 => [(1, .int y12), (0, .ref (G.2.2.2.2 5))]) 7 hF dX1_readNumber_6 rfl rfl (by decide) (fun _ => rfl) (fun y12 => ?_)
  refine VR.pick [1, 0] rfl ?_
  exact v_X1_readNumber_L7 hF hT hP FU y12 M11
abbrev rmX1_stands : Room := { frames := 4, cells := 0, slots := 0, locals := 85 }
def m_X1_stands_B20 (w : Nat) (n20 : Int32 → Mm → Option (Int32 × Mm)) (x2 : Int32) (M : Mm) : Option (Int32 × Mm) := bd (m_J0_length_8abf5 w M) fun r2 M1 => if r2 ≤ x2 then (some ((1 : Int32), M1)) else (bd (m_J0_charAt_5068e w x2 M1) fun r4 M3 => bd (m_X1_byteAt (((M3 5 4) + x2)) M3) fun r6 M5 => if r4 = r6 then (lt1 (x2 + 1) fun y7 => n20 y7 M5) else (some ((0 : Int32), M5)))
def m_X1_stands_L20 (w : Nat) : Nat → Int32 → Mm → Option (Int32 × Mm)
  | 0 => fun _ _ => none
  | n + 1 => m_X1_stands_B20 w (m_X1_stands_L20 w n)
def m_X1_stands (w : Nat)  (M : Mm) : Option (Int32 × Mm) := bd (m_J0_length_8abf5 w M) fun r9 M8 => if r9 = ((M8 5 5) - (M8 5 4)) then (lt1 ((0 : Int32)) fun y10 => m_X1_stands_L20 w FU y10 M8) else (some ((0 : Int32), M8))
set_option maxRecDepth 100000 in
set_option maxHeartbeats 4000000 in
theorem v_X1_stands_B20 {X : Cx} {G : Gx} {sh : List Sh} (hF : FX X G sh 3 cX1_stands (yX1_stands).cls (some .boolean) rmX1_stands) {w : Nat} (hT : TexAt sh) (hP : TapAt sh) (hw : StOk w) (n20 : Int32 → Mm → Option (Int32 × Mm)) (h20 : ∀ (x2 : Int32) (M : Mm), VR X G sh 3 rvI M 20 [(0, .ref (G.2.2.2.2 5)), (1, .ref (G.2.2.2.2 w)), (2, .int x2)] [] (n20 x2 M)) : ∀ (x2 : Int32) (M : Mm), VR X G sh 3 rvI M 20 [(0, .ref (G.2.2.2.2 5)), (1, .ref (G.2.2.2.2 w)), (2, .int x2)] [] (m_X1_stands_B20 w n20 x2 M) := by
  intro x2 M
  unfold m_X1_stands_B20
  refine v_iload_n 2 21 hF dX1_stands_20 rfl rfl rfl ?_
  refine v_aload_n 1 22 hF dX1_stands_21 rfl rfl rfl ?_
  refine v_callSI ([]) ([.int x2]) 25 hF dX1_stands_22 rfl cw_X1_23 hw (c_J0_length_8abf5 (G := G) hw M) ⟨rfl, rfl, Nat.le_of_ble_eq_true rfl, Nat.le_of_ble_eq_true rfl⟩ rfl rfl (Nat.le_of_ble_eq_true rfl) (fun r2 M1 => ?_)
  refine v_icmp_ge 28 54 hF dX1_stands_25 rfl (by decide) (fun _ => ?_) (fun _ => ?_)
  · refine v_iconst (1) 55 hF dX1_stands_54 rfl (by decide) ?_
    exact v_zret0 hF dX1_stands_55 rfl
  · refine v_aload_n 1 29 hF dX1_stands_28 rfl rfl rfl ?_
    refine v_iload_n 2 30 hF dX1_stands_29 rfl rfl rfl ?_
    refine v_callSI ([.int x2]) ([]) 33 hF dX1_stands_30 rfl cw_X1_29 hw (c_J0_charAt_5068e (G := G) hw M1 x2) ⟨rfl, rfl, Nat.le_of_ble_eq_true rfl, Nat.le_of_ble_eq_true rfl⟩ rfl rfl (Nat.le_of_ble_eq_true rfl) (fun r4 M3 => ?_)
    refine v_aload_n 0 34 hF dX1_stands_33 rfl rfl rfl ?_
    refine v_aload_n 0 35 hF dX1_stands_34 rfl rfl rfl ?_
    refine v_getI 38 hF dX1_stands_35 rfl fl_X1_93 hP.1 rfl ?_
    refine v_iload_n 2 39 hF dX1_stands_38 rfl rfl rfl ?_
    refine v_iadd 40 hF dX1_stands_39 rfl ?_
    refine v_callI ([.int (((M3 5 4) + x2))]) ([.int r4]) 43 hF dX1_stands_40 rfl cw_X1_96 rfl (hP.1) (c_X1_byteAt (G := G) hT hP M3 (((M3 5 4) + x2))) ⟨rfl, rfl, Nat.le_of_ble_eq_true rfl, Nat.le_of_ble_eq_true rfl⟩ rfl rfl (Nat.le_of_ble_eq_true rfl) (fun r6 M5 => ?_)
    refine v_icmp_eq 46 48 hF dX1_stands_43 rfl (by decide) (fun _ => ?_) (fun _ => ?_)
    · refine v_iinc (v := (x2 + 1)) (lo' := fun y7 => [(2, .int y7), (0, .ref (G.2.2.2.2 5)), (1, .ref (G.2.2.2.2 w))]) 2 51 hF dX1_stands_48 rfl rfl rfl (by decide) (fun _ => rfl) (fun y7 => ?_)
      refine v_goto 20 hF dX1_stands_51 (by decide) ?_
      refine VR.pick [1, 2, 0] rfl ?_
      exact h20 y7 M5
    · refine v_iconst (0) 47 hF dX1_stands_46 rfl (by decide) ?_
      exact v_zret0 hF dX1_stands_47 rfl
theorem v_X1_stands_L20 {X : Cx} {G : Gx} {sh : List Sh} (hF : FX X G sh 3 cX1_stands (yX1_stands).cls (some .boolean) rmX1_stands) {w : Nat} (hT : TexAt sh) (hP : TapAt sh) (hw : StOk w) : ∀ (n : Nat), ∀ (x2 : Int32) (M : Mm), VR X G sh 3 rvI M 20 [(0, .ref (G.2.2.2.2 5)), (1, .ref (G.2.2.2.2 w)), (2, .int x2)] [] (m_X1_stands_L20 w n x2 M) := by
  intro n
  induction n with
  | zero => intro x2 M; exact VR.none
  | succ n ih => exact v_X1_stands_B20 hF hT hP hw _ ih
set_option maxRecDepth 100000 in
set_option maxHeartbeats 4000000 in
theorem c_X1_stands {G : Gx} {sh : List Sh} {w : Nat} (hT : TexAt sh) (hP : TapAt sh) (hw : StOk w) (M : Mm)  : CT yX1_stands cX1_stands 3 (some .boolean) rmX1_stands G sh [.ref (G.2.2.2.2 5), .ref (G.2.2.2.2 w)] rvI M (m_X1_stands w  M) := by
  refine CT.of (by decide +kernel) (Nat.le_of_ble_eq_true rfl) (fun X hF => ?_)
  show VR X G sh 3 rvI M 0 [(0, .ref (G.2.2.2.2 5)), (1, .ref (G.2.2.2.2 w))] [] _
  unfold m_X1_stands
  refine v_aload_n 1 1 hF dX1_stands_0 rfl rfl rfl ?_
  refine v_callSI ([]) ([]) 4 hF dX1_stands_1 rfl cw_X1_23 hw (c_J0_length_8abf5 (G := G) hw M) ⟨rfl, rfl, Nat.le_of_ble_eq_true rfl, Nat.le_of_ble_eq_true rfl⟩ rfl rfl (Nat.le_of_ble_eq_true rfl) (fun r9 M8 => ?_)
  refine v_aload_n 0 5 hF dX1_stands_4 rfl rfl rfl ?_
  refine v_getI 8 hF dX1_stands_5 rfl fl_X1_40 hP.1 rfl ?_
  refine v_aload_n 0 9 hF dX1_stands_8 rfl rfl rfl ?_
  refine v_getI 12 hF dX1_stands_9 rfl fl_X1_93 hP.1 rfl ?_
  refine v_isub 13 hF dX1_stands_12 rfl ?_
  refine v_icmp_eq 16 18 hF dX1_stands_13 rfl (by decide) (fun _ => ?_) (fun _ => ?_)
  · refine v_iconst (0) 19 hF dX1_stands_18 rfl (by decide) ?_
    refine v_istore_n (lo' := fun y10 => [(2, .int y10), (0, .ref (G.2.2.2.2 5)), (1, .ref (G.2.2.2.2 w))]) 20 hF dX1_stands_19 rfl rfl (by decide) (fun _ => rfl) (fun y10 => ?_)
    refine VR.pick [1, 2, 0] rfl ?_
    exact v_X1_stands_L20 hF hT hP hw FU y10 M8
  · refine v_iconst (0) 17 hF dX1_stands_16 rfl (by decide) ?_
    exact v_zret0 hF dX1_stands_17 rfl
abbrev rmX1_word : Room := { frames := 0, cells := 0, slots := 0, locals := 0 }
def m_X1_word (x0 : Int32) (M : Mm) : Option (Option Nat × Mm) := if x0 = (0) then (some (some (1000 + 0), M)) else (if x0 = (1) then (some (some (1000 + 1), M)) else (if x0 = (2) then (some (some (1000 + 2), M)) else (if x0 = (3) then (some (some (1000 + 3), M)) else (if x0 = (4) then (some (some (1000 + 4), M)) else (if x0 = (5) then (some (some (1000 + 5), M)) else (if x0 = (6) then (some (some (1000 + 6), M)) else (if x0 = (7) then (some (some (1000 + 7), M)) else (if x0 = (8) then (some (some (1000 + 8), M)) else (if x0 = (9) then (some (some (1000 + 9), M)) else (if x0 = (10) then (some (some (1000 + 10), M)) else (some (some (1000 + 11), M))))))))))))
set_option maxRecDepth 100000 in
set_option maxHeartbeats 4000000 in
theorem c_X1_word {G : Gx} {sh : List Sh} (M : Mm) (x0 : Int32) : CT yX1_word cX1_word 1 (some (.object "java/lang/String")) rmX1_word G sh [.int x0] (rvR G) M (m_X1_word  x0 M) := by
  refine CT.of (by decide +kernel) (Nat.le_of_ble_eq_true rfl) (fun X hF => ?_)
  show VR X G sh 1 (rvR G) M 0 [(0, .int x0)] [] _
  unfold m_X1_word
  refine v_iload_n 0 1 hF dX1_word_0 rfl rfl rfl ?_
  refine v_ite (fun e1 => ?_) (fun n0 => ?_)
  · refine v_tsIn (0) (59) 60 hF dX1_word_1 e1 (by decide) rfl (by decide) ?_
    refine v_ldcS 0 62 hF dX1_word_60 rfl (by decide) rfl rfl ?_
    exact v_aretR hF dX1_word_62
  · refine v_ite (fun e1 => ?_) (fun n1 => ?_)
    · refine v_tsIn (1) (62) 63 hF dX1_word_1 e1 (by decide) rfl (by decide) ?_
      refine v_ldcS 1 65 hF dX1_word_63 rfl (by decide) rfl rfl ?_
      exact v_aretR hF dX1_word_65
    · refine v_ite (fun e1 => ?_) (fun n2 => ?_)
      · refine v_tsIn (2) (65) 66 hF dX1_word_1 e1 (by decide) rfl (by decide) ?_
        refine v_ldcS 2 68 hF dX1_word_66 rfl (by decide) rfl rfl ?_
        exact v_aretR hF dX1_word_68
      · refine v_ite (fun e1 => ?_) (fun n3 => ?_)
        · refine v_tsIn (3) (68) 69 hF dX1_word_1 e1 (by decide) rfl (by decide) ?_
          refine v_ldcS 3 71 hF dX1_word_69 rfl (by decide) rfl rfl ?_
          exact v_aretR hF dX1_word_71
        · refine v_ite (fun e1 => ?_) (fun n4 => ?_)
          · refine v_tsIn (4) (71) 72 hF dX1_word_1 e1 (by decide) rfl (by decide) ?_
            refine v_ldcS 4 74 hF dX1_word_72 rfl (by decide) rfl rfl ?_
            exact v_aretR hF dX1_word_74
          · refine v_ite (fun e1 => ?_) (fun n5 => ?_)
            · refine v_tsIn (5) (74) 75 hF dX1_word_1 e1 (by decide) rfl (by decide) ?_
              refine v_ldcS 5 77 hF dX1_word_75 rfl (by decide) rfl rfl ?_
              exact v_aretR hF dX1_word_77
            · refine v_ite (fun e1 => ?_) (fun n6 => ?_)
              · refine v_tsIn (6) (77) 78 hF dX1_word_1 e1 (by decide) rfl (by decide) ?_
                refine v_ldcS 6 80 hF dX1_word_78 rfl (by decide) rfl rfl ?_
                exact v_aretR hF dX1_word_80
              · refine v_ite (fun e1 => ?_) (fun n7 => ?_)
                · refine v_tsIn (7) (80) 81 hF dX1_word_1 e1 (by decide) rfl (by decide) ?_
                  refine v_ldcS 7 83 hF dX1_word_81 rfl (by decide) rfl rfl ?_
                  exact v_aretR hF dX1_word_83
                · refine v_ite (fun e1 => ?_) (fun n8 => ?_)
                  · refine v_tsIn (8) (83) 84 hF dX1_word_1 e1 (by decide) rfl (by decide) ?_
                    refine v_ldcS 8 86 hF dX1_word_84 rfl (by decide) rfl rfl ?_
                    exact v_aretR hF dX1_word_86
                  · refine v_ite (fun e1 => ?_) (fun n9 => ?_)
                    · refine v_tsIn (9) (86) 87 hF dX1_word_1 e1 (by decide) rfl (by decide) ?_
                      refine v_ldcS 9 89 hF dX1_word_87 rfl (by decide) rfl rfl ?_
                      exact v_aretR hF dX1_word_89
                    · refine v_ite (fun e1 => ?_) (fun n10 => ?_)
                      · refine v_tsIn (10) (89) 90 hF dX1_word_1 e1 (by decide) rfl (by decide) ?_
                        refine v_ldcS 10 92 hF dX1_word_90 rfl (by decide) rfl rfl ?_
                        exact v_aretR hF dX1_word_92
                      · refine v_tsOut 93 hF dX1_word_1 (by have a0 := lv_neT n0 (a := (0)) (by decide); have a1 := lv_neT n1 (a := (1)) (by decide); have a2 := lv_neT n2 (a := (2)) (by decide); have a3 := lv_neT n3 (a := (3)) (by decide); have a4 := lv_neT n4 (a := (4)) (by decide); have a5 := lv_neT n5 (a := (5)) (by decide); have a6 := lv_neT n6 (a := (6)) (by decide); have a7 := lv_neT n7 (a := (7)) (by decide); have a8 := lv_neT n8 (a := (8)) (by decide); have a9 := lv_neT n9 (a := (9)) (by decide); have a10 := lv_neT n10 (a := (10)) (by decide); omega) (by decide) ?_
                        refine v_ldcS 11 95 hF dX1_word_93 rfl (by decide) rfl rfl ?_
                        exact v_aretR hF dX1_word_95
abbrev rmX1_readWord : Room := { frames := 5, cells := 0, slots := 0, locals := 107 }
def m_X1_readWord_J72 (n46 : Int32 → Mm → Option (Unit × Mm)) (x1 : Int32) (M : Mm) : Option (Unit × Mm) := lt1 (x1 + 1) fun y1 => n46 y1 M
def m_X1_readWord_B46 (n46 : Int32 → Mm → Option (Unit × Mm)) (x1 : Int32) (M : Mm) : Option (Unit × Mm) := if (12 : Int32) ≤ x1 then (some ((), M)) else (bd (m_X1_word x1 M) (rcase (fun M2 => none) (fun a54 M2 => gd (isStr a54) (bd (m_X1_stands a54 M2) fun r4 M3 => if r4 = 0 then (m_X1_readWord_J72 n46 x1 M3) else (lt1 (up M3 5 3 (((256 : Int32) + x1))) fun M5 => m_X1_readWord_J72 n46 x1 M5)))))
def m_X1_readWord_L46 : Nat → Int32 → Mm → Option (Unit × Mm)
  | 0 => fun _ _ => none
  | n + 1 => m_X1_readWord_B46  (m_X1_readWord_L46  n)
def m_X1_readWord_J39  (M : Mm) : Option (Unit × Mm) := lt1 (up M 5 3 ((2 : Int32))) fun M6 => lt1 ((0 : Int32)) fun y7 => m_X1_readWord_L46 FU y7 M6
def m_X1_readWord_B2 (n2 : Int32 → Mm → Option (Unit × Mm)) (x1 : Int32) (M : Mm) : Option (Unit × Mm) := if (160 : Int32) ≤ x1 then (m_X1_readWord_J39 M) else (bd (m_X1_byteAt ((M 5 5)) M) fun r9 M8 => bd (m_X1_isWordByte r9 M8) fun r11 M10 => if r11 = 0 then (m_X1_readWord_J39 M10) else (lt1 (up M10 5 5 (((M10 5 5) + (1 : Int32)))) fun M12 => lt1 (x1 + 1) fun y13 => n2 y13 M12))
def m_X1_readWord_L2 : Nat → Int32 → Mm → Option (Unit × Mm)
  | 0 => fun _ _ => none
  | n + 1 => m_X1_readWord_B2  (m_X1_readWord_L2  n)
def m_X1_readWord  (M : Mm) : Option (Unit × Mm) := lt1 ((0 : Int32)) fun y14 => m_X1_readWord_L2 FU y14 M
set_option maxRecDepth 100000 in
set_option maxHeartbeats 4000000 in
theorem v_X1_readWord_J72 {X : Cx} {G : Gx} {sh : List Sh} (hF : FX X G sh 2 cX1_readWord (yX1_readWord).cls none rmX1_readWord) (hT : TexAt sh) (hP : TapAt sh) (n46 : Int32 → Mm → Option (Unit × Mm)) (h46 : ∀ (x1 : Int32) (M : Mm), VR X G sh 2 rvV M 46 [(0, .ref (G.2.2.2.2 5)), (1, .int x1)] [] (n46 x1 M)) : ∀ (x1 : Int32) (M : Mm), VR X G sh 2 rvV M 72 [(0, .ref (G.2.2.2.2 5)), (1, .int x1)] [] (m_X1_readWord_J72  n46 x1 M) := by
  intro x1 M
  unfold m_X1_readWord_J72
  refine v_iinc (v := (x1 + 1)) (lo' := fun y1 => [(1, .int y1), (0, .ref (G.2.2.2.2 5))]) 1 75 hF dX1_readWord_72 rfl rfl rfl (by decide) (fun _ => rfl) (fun y1 => ?_)
  refine v_goto 46 hF dX1_readWord_75 (by decide) ?_
  refine VR.pick [1, 0] rfl ?_
  exact h46 y1 M
set_option maxRecDepth 100000 in
set_option maxHeartbeats 4000000 in
theorem v_X1_readWord_B46 {X : Cx} {G : Gx} {sh : List Sh} (hF : FX X G sh 2 cX1_readWord (yX1_readWord).cls none rmX1_readWord) (hT : TexAt sh) (hP : TapAt sh) (n46 : Int32 → Mm → Option (Unit × Mm)) (h46 : ∀ (x1 : Int32) (M : Mm), VR X G sh 2 rvV M 46 [(0, .ref (G.2.2.2.2 5)), (1, .int x1)] [] (n46 x1 M)) : ∀ (x1 : Int32) (M : Mm), VR X G sh 2 rvV M 46 [(0, .ref (G.2.2.2.2 5)), (1, .int x1)] [] (m_X1_readWord_B46  n46 x1 M) := by
  intro x1 M
  unfold m_X1_readWord_B46
  refine v_iload_n 1 47 hF dX1_readWord_46 rfl rfl rfl ?_
  refine v_bipush (12) 49 hF dX1_readWord_47 rfl (by decide) ?_
  refine v_icmp_ge 52 78 hF dX1_readWord_49 rfl (by decide) (fun _ => ?_) (fun _ => ?_)
  · exact v_vret hF dX1_readWord_78
  · refine v_aload_n 0 53 hF dX1_readWord_52 rfl rfl rfl ?_
    refine v_iload_n 1 54 hF dX1_readWord_53 rfl rfl rfl ?_
    refine v_staR ([.int x1]) ([.ref (G.2.2.2.2 5)]) 57 hF dX1_readWord_54 rfl cw_X1_118 (c_X1_word (G := G) (sh := sh) M x1) ⟨rfl, rfl, Nat.le_of_ble_eq_true rfl, Nat.le_of_ble_eq_true rfl⟩ rfl rfl (Nat.le_of_ble_eq_true rfl) (fun M2 => ?_) (fun a54 M2 => v_gd (fun ha54 => ?_))
    · exact VR.none
    · have ha54 := st_of ha54
      refine v_callI ([.ref (G.2.2.2.2 a54)]) ([]) 60 hF dX1_readWord_57 rfl cw_X1_122 rfl (hP.1) (c_X1_stands (G := G) hT hP ha54 M2) ⟨rfl, rfl, Nat.le_of_ble_eq_true rfl, Nat.le_of_ble_eq_true rfl⟩ rfl rfl (Nat.le_of_ble_eq_true rfl) (fun r4 M3 => ?_)
      refine v_if_eq 63 72 hF dX1_readWord_60 rfl (by decide) (fun _ => ?_) (fun _ => ?_)
      · refine VR.pick [0, 1] rfl ?_
        exact v_X1_readWord_J72 hF hT hP _ h46 x1 M3
      · refine v_aload_n 0 64 hF dX1_readWord_63 rfl rfl rfl ?_
        refine v_sipush (256) 67 hF dX1_readWord_64 rfl (by decide) ?_
        refine v_iload_n 1 68 hF dX1_readWord_67 rfl rfl rfl ?_
        refine v_iadd 69 hF dX1_readWord_68 rfl ?_
        refine v_putI 72 hF dX1_readWord_69 rfl fl_X1_67 fp_X1_3 hP.1 rfl (fun M5 => ?_)
        refine VR.pick [0, 1] rfl ?_
        exact v_X1_readWord_J72 hF hT hP _ h46 x1 M5
theorem v_X1_readWord_L46 {X : Cx} {G : Gx} {sh : List Sh} (hF : FX X G sh 2 cX1_readWord (yX1_readWord).cls none rmX1_readWord) (hT : TexAt sh) (hP : TapAt sh) : ∀ (n : Nat), ∀ (x1 : Int32) (M : Mm), VR X G sh 2 rvV M 46 [(0, .ref (G.2.2.2.2 5)), (1, .int x1)] [] (m_X1_readWord_L46  n x1 M) := by
  intro n
  induction n with
  | zero => intro x1 M; exact VR.none
  | succ n ih => exact v_X1_readWord_B46 hF hT hP _ ih
set_option maxRecDepth 100000 in
set_option maxHeartbeats 4000000 in
theorem v_X1_readWord_J39 {X : Cx} {G : Gx} {sh : List Sh} (hF : FX X G sh 2 cX1_readWord (yX1_readWord).cls none rmX1_readWord) (hT : TexAt sh) (hP : TapAt sh) : ∀ (M : Mm), VR X G sh 2 rvV M 39 [(0, .ref (G.2.2.2.2 5))] [] (m_X1_readWord_J39   M) := by
  intro  M
  unfold m_X1_readWord_J39
  refine v_aload_n 0 40 hF dX1_readWord_39 rfl rfl rfl ?_
  refine v_iconst (2) 41 hF dX1_readWord_40 rfl (by decide) ?_
  refine v_putI 44 hF dX1_readWord_41 rfl fl_X1_67 fp_X1_3 hP.1 rfl (fun M6 => ?_)
  refine v_iconst (0) 45 hF dX1_readWord_44 rfl (by decide) ?_
  refine v_istore_n (lo' := fun y7 => [(1, .int y7), (0, .ref (G.2.2.2.2 5))]) 46 hF dX1_readWord_45 rfl rfl (by decide) (fun _ => rfl) (fun y7 => ?_)
  refine VR.pick [1, 0] rfl ?_
  exact v_X1_readWord_L46 hF hT hP FU y7 M6
set_option maxRecDepth 100000 in
set_option maxHeartbeats 4000000 in
theorem v_X1_readWord_B2 {X : Cx} {G : Gx} {sh : List Sh} (hF : FX X G sh 2 cX1_readWord (yX1_readWord).cls none rmX1_readWord) (hT : TexAt sh) (hP : TapAt sh) (n2 : Int32 → Mm → Option (Unit × Mm)) (h2 : ∀ (x1 : Int32) (M : Mm), VR X G sh 2 rvV M 2 [(0, .ref (G.2.2.2.2 5)), (1, .int x1)] [] (n2 x1 M)) : ∀ (x1 : Int32) (M : Mm), VR X G sh 2 rvV M 2 [(0, .ref (G.2.2.2.2 5)), (1, .int x1)] [] (m_X1_readWord_B2  n2 x1 M) := by
  intro x1 M
  unfold m_X1_readWord_B2
  refine v_iload_n 1 3 hF dX1_readWord_2 rfl rfl rfl ?_
  refine v_sipush (160) 6 hF dX1_readWord_3 rfl (by decide) ?_
  refine v_icmp_ge 9 39 hF dX1_readWord_6 rfl (by decide) (fun _ => ?_) (fun _ => ?_)
  · refine VR.pick [0] rfl ?_
    exact v_X1_readWord_J39 hF hT hP M
  · refine v_aload_n 0 10 hF dX1_readWord_9 rfl rfl rfl ?_
    refine v_aload_n 0 11 hF dX1_readWord_10 rfl rfl rfl ?_
    refine v_getI 14 hF dX1_readWord_11 rfl fl_X1_40 hP.1 rfl ?_
    refine v_callI ([.int ((M 5 5))]) ([]) 17 hF dX1_readWord_14 rfl cw_X1_96 rfl (hP.1) (c_X1_byteAt (G := G) hT hP M ((M 5 5))) ⟨rfl, rfl, Nat.le_of_ble_eq_true rfl, Nat.le_of_ble_eq_true rfl⟩ rfl rfl (Nat.le_of_ble_eq_true rfl) (fun r9 M8 => ?_)
    refine v_staI ([.int r9]) ([]) 20 hF dX1_readWord_17 rfl cw_X1_103 (c_X1_isWordByte (G := G) (sh := sh) M8 r9) ⟨rfl, rfl, Nat.le_of_ble_eq_true rfl, Nat.le_of_ble_eq_true rfl⟩ rfl rfl (Nat.le_of_ble_eq_true rfl) (fun r11 M10 => ?_)
    refine v_if_eq 23 39 hF dX1_readWord_20 rfl (by decide) (fun _ => ?_) (fun _ => ?_)
    · refine VR.pick [0] rfl ?_
      exact v_X1_readWord_J39 hF hT hP M10
    · refine v_aload_n 0 24 hF dX1_readWord_23 rfl rfl rfl ?_
      refine v_dupR 25 hF dX1_readWord_24 rfl ?_
      refine v_getI 28 hF dX1_readWord_25 rfl fl_X1_40 hP.1 rfl ?_
      refine v_iconst (1) 29 hF dX1_readWord_28 rfl (by decide) ?_
      refine v_iadd 30 hF dX1_readWord_29 rfl ?_
      refine v_putI 33 hF dX1_readWord_30 rfl fl_X1_40 fp_X1_5 hP.1 rfl (fun M12 => ?_)
      refine v_iinc (v := (x1 + 1)) (lo' := fun y13 => [(1, .int y13), (0, .ref (G.2.2.2.2 5))]) 1 36 hF dX1_readWord_33 rfl rfl rfl (by decide) (fun _ => rfl) (fun y13 => ?_)
      refine v_goto 2 hF dX1_readWord_36 (by decide) ?_
      refine VR.pick [1, 0] rfl ?_
      exact h2 y13 M12
theorem v_X1_readWord_L2 {X : Cx} {G : Gx} {sh : List Sh} (hF : FX X G sh 2 cX1_readWord (yX1_readWord).cls none rmX1_readWord) (hT : TexAt sh) (hP : TapAt sh) : ∀ (n : Nat), ∀ (x1 : Int32) (M : Mm), VR X G sh 2 rvV M 2 [(0, .ref (G.2.2.2.2 5)), (1, .int x1)] [] (m_X1_readWord_L2  n x1 M) := by
  intro n
  induction n with
  | zero => intro x1 M; exact VR.none
  | succ n ih => exact v_X1_readWord_B2 hF hT hP _ ih
set_option maxRecDepth 100000 in
set_option maxHeartbeats 4000000 in
theorem c_X1_readWord {G : Gx} {sh : List Sh} (hT : TexAt sh) (hP : TapAt sh) (M : Mm)  : CT yX1_readWord cX1_readWord 2 none rmX1_readWord G sh [.ref (G.2.2.2.2 5)] rvV M (m_X1_readWord   M) := by
  refine CT.of (by decide +kernel) (Nat.le_of_ble_eq_true rfl) (fun X hF => ?_)
  show VR X G sh 2 rvV M 0 [(0, .ref (G.2.2.2.2 5))] [] _
  unfold m_X1_readWord
  refine v_iconst (0) 1 hF dX1_readWord_0 rfl (by decide) ?_
  refine v_istore_n (lo' := fun y14 => [(1, .int y14), (0, .ref (G.2.2.2.2 5))]) 2 hF dX1_readWord_1 rfl rfl (by decide) (fun _ => rfl) (fun y14 => ?_)
  refine VR.pick [1, 0] rfl ?_
  exact v_X1_readWord_L2 hF hT hP FU y14 M
