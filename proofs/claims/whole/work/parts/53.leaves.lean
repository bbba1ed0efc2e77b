/-! THE CONSTRUCTORS of the small classes -/
set_option maxRecDepth 100000 in
set_option maxHeartbeats 4000000 in
theorem mi_X0 {G : Gx} (h : Nat) : MI yX0_init cX0_init 1 ({ frames := 1, cells := 1, slots := 40, locals := 20 } : Room) G h [] [(h, .inr (0, [.int 0, .int 0, .null]))] (fun u => [(h, .inr (0, [.int (-1), .int 0, .ref (u 0)])), ((u 0), .inl (G.2.1, 40, .inl (fun _ => 0)))]) (fun _ => True) 1 40 := by
  refine MI.of (by decide) (Nat.le_of_ble_eq_true rfl) (fun X A Q hF hX hini ret => ?_) rfl
  refine i_aload 0 1 hF dX0_init_0 rfl rfl rfl ?_
  refine i_obj 4 hF dX0_init_1 rfl (gT_in 402 (by decide +kernel) rfl) (gT_in 91 (by decide +kernel) rfl) (gT_in 92 (by decide +kernel) rfl) (by decide) ?_
  refine i_aload 0 5 hF dX0_init_4 rfl rfl rfl ?_
  refine i_iconst (-1) 6 hF dX0_init_5 rfl (by decide) ?_
  refine i_put (ci := 0) (j := 0) (N := 3) (C := RX0) (T := TX0) (ty0 := tyX0) (ty := tyX0 0) (ws' := [(h, .inr (0, [.int (-1), .int 0, .null]))]) 0 9 hF dX0_init_6 rfl in_X0 tyX0_ok nmX0 rfl rfl (by decide) (gT_in 403 (by decide +kernel) rfl) rfl rfl (tyX0_ok 0 (by decide)) rfl rfl (Nat.le_of_ble_eq_true rfl) rfl ?_
  refine i_aload 0 10 hF dX0_init_9 rfl rfl rfl ?_
  refine i_bipush (40) 12 hF dX0_init_10 rfl (by decide) ?_
  refine i_newI 40 14 hF dX0_init_12 rfl (gT_in 140 (by decide +kernel) rfl) (by decide) (by decide) (by decide) (fun q1 => ?_)
  refine IW_to (ws' := [(h, .inr (0, [.int (-1), .int 0, .null])), (q1, .inl (G.2.1, 40, .inl (fun _ => 0)))]) rfl ?_
  refine i_putF (ci := 0) (j := 2) (N := 3) (C := RX0) (T := TX0) (ty0 := tyX0) (ty := tyX0 2) (ws' := [(h, .inr (0, [.int (-1), .int 0, .ref q1])), (q1, .inl (G.2.1, 40, .inl (fun _ => 0)))]) 0 17 hF hini dX0_init_14 rfl in_X0 tyX0_ok nmX0 rfl rfl (by decide) (gT_in 408 (by decide +kernel) rfl) rfl rfl rfl (tyX0_ok 2 (by decide)) rfl rfl (Nat.le_of_ble_eq_true rfl) rfl ?_
  exact ret (fun k => [q1].getD k 0) _ _ trivial dX0_init_17

set_option maxRecDepth 100000 in
set_option maxHeartbeats 4000000 in
theorem mi_X1 {G : Gx} (h tx : Nat) : MI yX1_init cX1_init 2 ({ frames := 1, cells := 1, slots := 160, locals := 20 } : Room) G h [.ref tx] [(h, .inr (1, [.int 0, .null, .null, .int 0, .int 0, .int 0, .int 0, .int 0]))] (fun u => [(h, .inr (1, [.int 0, .ref tx, .ref (u 0), .int 0, .int 0, .int 0, .int 0, .int 0])), ((u 0), .inl (G.2.1, 160, .inl (fun _ => 0)))]) (fun _ => True) 1 160 := by
  refine MI.of (by decide) (Nat.le_of_ble_eq_true rfl) (fun X A Q hF hX hini ret => ?_) rfl
  refine i_aload 0 1 hF dX1_init_0 rfl rfl rfl ?_
  refine i_obj 4 hF dX1_init_1 rfl (gT_in 146 (by decide +kernel) rfl) (gT_in 91 (by decide +kernel) rfl) (gT_in 92 (by decide +kernel) rfl) (by decide) ?_
  refine i_aload 0 5 hF dX1_init_4 rfl rfl rfl ?_
  refine i_sipush (160) 8 hF dX1_init_5 rfl (by decide) ?_
  refine i_newI 160 10 hF dX1_init_8 rfl (gT_in 140 (by decide +kernel) rfl) (by decide) (by decide) (by decide) (fun q1 => ?_)
  refine IW_to (ws' := [(h, .inr (1, [.int 0, .null, .null, .int 0, .int 0, .int 0, .int 0, .int 0])), (q1, .inl (G.2.1, 160, .inl (fun _ => 0)))]) rfl ?_
  refine i_putF (ci := 1) (j := 2) (N := 8) (C := RX1) (T := TX1) (ty0 := tyX1) (ty := tyX1 2) (ws' := [(h, .inr (1, [.int 0, .null, .ref q1, .int 0, .int 0, .int 0, .int 0, .int 0])), (q1, .inl (G.2.1, 160, .inl (fun _ => 0)))]) 0 13 hF hini dX1_init_10 rfl in_X1 tyX1_ok nmX1 rfl rfl (by decide) (gT_in 150 (by decide +kernel) rfl) rfl rfl rfl (tyX1_ok 2 (by decide)) rfl rfl (Nat.le_of_ble_eq_true rfl) rfl ?_
  refine i_aload 0 14 hF dX1_init_13 rfl rfl rfl ?_
  refine i_aload 1 15 hF dX1_init_14 rfl rfl rfl ?_
  refine i_putF (ci := 1) (j := 1) (N := 8) (C := RX1) (T := TX1) (ty0 := tyX1) (ty := tyX1 1) (ws' := [(h, .inr (1, [.int 0, .ref tx, .ref q1, .int 0, .int 0, .int 0, .int 0, .int 0])), (q1, .inl (G.2.1, 160, .inl (fun _ => 0)))]) 0 18 hF hini dX1_init_15 rfl in_X1 tyX1_ok nmX1 rfl rfl (by decide) (gT_in 149 (by decide +kernel) rfl) rfl rfl rfl (tyX1_ok 1 (by decide)) rfl rfl (Nat.le_of_ble_eq_true rfl) rfl ?_
  exact ret (fun k => [q1].getD k 0) _ _ trivial dX1_init_18

set_option maxRecDepth 100000 in
set_option maxHeartbeats 4000000 in
theorem mi_X2 {G : Gx} (h : Nat) : MI yX2_init cX2_init 1 ({ frames := 1, cells := 3, slots := 1043, locals := 20 } : Room) G h [] [(h, .inr (2, [.int 0, .int 0, .int 0, .int 0, .int 0, .int 0, .int 0, .null, .null, .int 0, .null]))] (fun u => [(h, .inr (2, [.int 0, .int 0, .int 0, .int 0, .int 0, .int 0, .int 0, .ref (u 0), .ref (u 1), .int 0, .ref (u 2)])), ((u 0), .inl (G.2.1, 960, .inl (fun _ => 0))), ((u 1), .inl (G.2.1, 19, .inl (fun _ => 0))), ((u 2), .inl (G.2.1, 64, .inl (fun _ => 0)))]) (fun _ => True) 3 1043 := by
  refine MI.of (by decide) (Nat.le_of_ble_eq_true rfl) (fun X A Q hF hX hini ret => ?_) rfl
  refine i_aload 0 1 hF dX2_init_0 rfl rfl rfl ?_
  refine i_obj 4 hF dX2_init_1 rfl (gT_in 98 (by decide +kernel) rfl) (gT_in 91 (by decide +kernel) rfl) (gT_in 92 (by decide +kernel) rfl) (by decide) ?_
  refine i_aload 0 5 hF dX2_init_4 rfl rfl rfl ?_
  refine i_sipush (960) 8 hF dX2_init_5 rfl (by decide) ?_
  refine i_newI 960 10 hF dX2_init_8 rfl (gT_in 140 (by decide +kernel) rfl) (by decide) (by decide) (by decide) (fun q1 => ?_)
  refine IW_to (ws' := [(h, .inr (2, [.int 0, .int 0, .int 0, .int 0, .int 0, .int 0, .int 0, .null, .null, .int 0, .null])), (q1, .inl (G.2.1, 960, .inl (fun _ => 0)))]) rfl ?_
  refine i_putF (ci := 2) (j := 7) (N := 11) (C := RX2) (T := TX2) (ty0 := tyX2) (ty := tyX2 7) (ws' := [(h, .inr (2, [.int 0, .int 0, .int 0, .int 0, .int 0, .int 0, .int 0, .ref q1, .null, .int 0, .null])), (q1, .inl (G.2.1, 960, .inl (fun _ => 0)))]) 0 13 hF hini dX2_init_10 rfl in_X2 tyX2_ok nmX2 rfl rfl (by decide) (gT_in 113 (by decide +kernel) rfl) rfl rfl rfl (tyX2_ok 7 (by decide)) rfl rfl (Nat.le_of_ble_eq_true rfl) rfl ?_
  refine i_aload 0 14 hF dX2_init_13 rfl rfl rfl ?_
  refine i_bipush (19) 16 hF dX2_init_14 rfl (by decide) ?_
  refine i_newI 19 18 hF dX2_init_16 rfl (gT_in 140 (by decide +kernel) rfl) (by decide) (by decide) (by decide) (fun q2 => ?_)
  refine IW_to (ws' := [(h, .inr (2, [.int 0, .int 0, .int 0, .int 0, .int 0, .int 0, .int 0, .ref q1, .null, .int 0, .null])), (q1, .inl (G.2.1, 960, .inl (fun _ => 0))), (q2, .inl (G.2.1, 19, .inl (fun _ => 0)))]) rfl ?_
  refine i_putF (ci := 2) (j := 8) (N := 11) (C := RX2) (T := TX2) (ty0 := tyX2) (ty := tyX2 8) (ws' := [(h, .inr (2, [.int 0, .int 0, .int 0, .int 0, .int 0, .int 0, .int 0, .ref q1, .ref q2, .int 0, .null])), (q1, .inl (G.2.1, 960, .inl (fun _ => 0))), (q2, .inl (G.2.1, 19, .inl (fun _ => 0)))]) 0 21 hF hini dX2_init_18 rfl in_X2 tyX2_ok nmX2 rfl rfl (by decide) (gT_in 114 (by decide +kernel) rfl) rfl rfl rfl (tyX2_ok 8 (by decide)) rfl rfl (Nat.le_of_ble_eq_true rfl) rfl ?_
  refine i_aload 0 22 hF dX2_init_21 rfl rfl rfl ?_
  refine i_bipush (64) 24 hF dX2_init_22 rfl (by decide) ?_
  refine i_newI 64 26 hF dX2_init_24 rfl (gT_in 140 (by decide +kernel) rfl) (by decide) (by decide) (by decide) (fun q3 => ?_)
  refine IW_to (ws' := [(h, .inr (2, [.int 0, .int 0, .int 0, .int 0, .int 0, .int 0, .int 0, .ref q1, .ref q2, .int 0, .null])), (q1, .inl (G.2.1, 960, .inl (fun _ => 0))), (q2, .inl (G.2.1, 19, .inl (fun _ => 0))), (q3, .inl (G.2.1, 64, .inl (fun _ => 0)))]) rfl ?_
  refine i_putF (ci := 2) (j := 10) (N := 11) (C := RX2) (T := TX2) (ty0 := tyX2) (ty := tyX2 10) (ws' := [(h, .inr (2, [.int 0, .int 0, .int 0, .int 0, .int 0, .int 0, .int 0, .ref q1, .ref q2, .int 0, .ref q3])), (q1, .inl (G.2.1, 960, .inl (fun _ => 0))), (q2, .inl (G.2.1, 19, .inl (fun _ => 0))), (q3, .inl (G.2.1, 64, .inl (fun _ => 0)))]) 0 29 hF hini dX2_init_26 rfl in_X2 tyX2_ok nmX2 rfl rfl (by decide) (gT_in 116 (by decide +kernel) rfl) rfl rfl rfl (tyX2_ok 10 (by decide)) rfl rfl (Nat.le_of_ble_eq_true rfl) rfl ?_
  exact ret (fun k => [q1, q2, q3].getD k 0) _ _ trivial dX2_init_29

set_option maxRecDepth 100000 in
set_option maxHeartbeats 4000000 in
theorem mi_X3 {G : Gx} (h tx : Nat) : MI yX3_init cX3_init 2 ({ frames := 1, cells := 8, slots := 55, locals := 20 } : Room) G h [.ref tx] [(h, .inr (3, [.null, .int 0, .int 0, .int 0, .int 0, .int 0, .int 0, .null, .null, .null, .null, .null, .null, .null, .null]))] (fun u => [(h, .inr (3, [.ref tx, .int 0, .int (1), .int 0, .int 0, .int 0, .int 0, .ref (u 0), .ref (u 1), .ref (u 2), .ref (u 3), .ref (u 4), .ref (u 5), .ref (u 6), .ref (u 7)])), ((u 0), .inl (G.2.1, 5, .inl (fun _ => 0))), ((u 1), .inl (G.2.1, 5, .inl (fun _ => 0))), ((u 2), .inl (G.2.1, 5, .inl (fun _ => 0))), ((u 3), .inl (G.2.1, 8, .inl (fun _ => 0))), ((u 4), .inl (G.2.1, 8, .inl (fun _ => 0))), ((u 5), .inl (G.2.1, 8, .inl (fun _ => 0))), ((u 6), .inl (G.2.1, 8, .inl (fun _ => 0))), ((u 7), .inl (G.2.1, 8, .inl (fun _ => 0)))]) (fun _ => True) 8 55 := by
  refine MI.of (by decide) (Nat.le_of_ble_eq_true rfl) (fun X A Q hF hX hini ret => ?_) rfl
  refine i_aload 0 1 hF dX3_init_0 rfl rfl rfl ?_
  refine i_obj 4 hF dX3_init_1 rfl (gT_in 342 (by decide +kernel) rfl) (gT_in 91 (by decide +kernel) rfl) (gT_in 92 (by decide +kernel) rfl) (by decide) ?_
  refine i_aload 0 5 hF dX3_init_4 rfl rfl rfl ?_
  refine i_iconst (1) 6 hF dX3_init_5 rfl (by decide) ?_
  refine i_put (ci := 3) (j := 2) (N := 15) (C := RX3) (T := TX3) (ty0 := tyX3) (ty := tyX3 2) (ws' := [(h, .inr (3, [.null, .int 0, .int (1), .int 0, .int 0, .int 0, .int 0, .null, .null, .null, .null, .null, .null, .null, .null]))]) 0 9 hF dX3_init_6 rfl in_X3 tyX3_ok nmX3 rfl rfl (by decide) (gT_in 346 (by decide +kernel) rfl) rfl rfl (tyX3_ok 2 (by decide)) rfl rfl (Nat.le_of_ble_eq_true rfl) rfl ?_
  refine i_aload 0 10 hF dX3_init_9 rfl rfl rfl ?_
  refine i_iconst (5) 11 hF dX3_init_10 rfl (by decide) ?_
  refine i_newI 5 13 hF dX3_init_11 rfl (gT_in 140 (by decide +kernel) rfl) (by decide) (by decide) (by decide) (fun q1 => ?_)
  refine IW_to (ws' := [(h, .inr (3, [.null, .int 0, .int (1), .int 0, .int 0, .int 0, .int 0, .null, .null, .null, .null, .null, .null, .null, .null])), (q1, .inl (G.2.1, 5, .inl (fun _ => 0)))]) rfl ?_
  refine i_putF (ci := 3) (j := 7) (N := 15) (C := RX3) (T := TX3) (ty0 := tyX3) (ty := tyX3 7) (ws' := [(h, .inr (3, [.null, .int 0, .int (1), .int 0, .int 0, .int 0, .int 0, .ref q1, .null, .null, .null, .null, .null, .null, .null])), (q1, .inl (G.2.1, 5, .inl (fun _ => 0)))]) 0 16 hF hini dX3_init_13 rfl in_X3 tyX3_ok nmX3 rfl rfl (by decide) (gT_in 356 (by decide +kernel) rfl) rfl rfl rfl (tyX3_ok 7 (by decide)) rfl rfl (Nat.le_of_ble_eq_true rfl) rfl ?_
  refine i_aload 0 17 hF dX3_init_16 rfl rfl rfl ?_
  refine i_iconst (5) 18 hF dX3_init_17 rfl (by decide) ?_
  refine i_newI 5 20 hF dX3_init_18 rfl (gT_in 140 (by decide +kernel) rfl) (by decide) (by decide) (by decide) (fun q2 => ?_)
  refine IW_to (ws' := [(h, .inr (3, [.null, .int 0, .int (1), .int 0, .int 0, .int 0, .int 0, .ref q1, .null, .null, .null, .null, .null, .null, .null])), (q1, .inl (G.2.1, 5, .inl (fun _ => 0))), (q2, .inl (G.2.1, 5, .inl (fun _ => 0)))]) rfl ?_
  refine i_putF (ci := 3) (j := 8) (N := 15) (C := RX3) (T := TX3) (ty0 := tyX3) (ty := tyX3 8) (ws' := [(h, .inr (3, [.null, .int 0, .int (1), .int 0, .int 0, .int 0, .int 0, .ref q1, .ref q2, .null, .null, .null, .null, .null, .null])), (q1, .inl (G.2.1, 5, .inl (fun _ => 0))), (q2, .inl (G.2.1, 5, .inl (fun _ => 0)))]) 0 23 hF hini dX3_init_20 rfl in_X3 tyX3_ok nmX3 rfl rfl (by decide) (gT_in 357 (by decide +kernel) rfl) rfl rfl rfl (tyX3_ok 8 (by decide)) rfl rfl (Nat.le_of_ble_eq_true rfl) rfl ?_
  refine i_aload 0 24 hF dX3_init_23 rfl rfl rfl ?_
  refine i_iconst (5) 25 hF dX3_init_24 rfl (by decide) ?_
  refine i_newI 5 27 hF dX3_init_25 rfl (gT_in 140 (by decide +kernel) rfl) (by decide) (by decide) (by decide) (fun q3 => ?_)
  refine IW_to (ws' := [(h, .inr (3, [.null, .int 0, .int (1), .int 0, .int 0, .int 0, .int 0, .ref q1, .ref q2, .null, .null, .null, .null, .null, .null])), (q1, .inl (G.2.1, 5, .inl (fun _ => 0))), (q2, .inl (G.2.1, 5, .inl (fun _ => 0))), (q3, .inl (G.2.1, 5, .inl (fun _ => 0)))]) rfl ?_
  refine i_putF (ci := 3) (j := 9) (N := 15) (C := RX3) (T := TX3) (ty0 := tyX3) (ty := tyX3 9) (ws' := [(h, .inr (3, [.null, .int 0, .int (1), .int 0, .int 0, .int 0, .int 0, .ref q1, .ref q2, .ref q3, .null, .null, .null, .null, .null])), (q1, .inl (G.2.1, 5, .inl (fun _ => 0))), (q2, .inl (G.2.1, 5, .inl (fun _ => 0))), (q3, .inl (G.2.1, 5, .inl (fun _ => 0)))]) 0 30 hF hini dX3_init_27 rfl in_X3 tyX3_ok nmX3 rfl rfl (by decide) (gT_in 358 (by decide +kernel) rfl) rfl rfl rfl (tyX3_ok 9 (by decide)) rfl rfl (Nat.le_of_ble_eq_true rfl) rfl ?_
  refine i_aload 0 31 hF dX3_init_30 rfl rfl rfl ?_
  refine i_bipush (8) 33 hF dX3_init_31 rfl (by decide) ?_
  refine i_newI 8 35 hF dX3_init_33 rfl (gT_in 140 (by decide +kernel) rfl) (by decide) (by decide) (by decide) (fun q4 => ?_)
  refine IW_to (ws' := [(h, .inr (3, [.null, .int 0, .int (1), .int 0, .int 0, .int 0, .int 0, .ref q1, .ref q2, .ref q3, .null, .null, .null, .null, .null])), (q1, .inl (G.2.1, 5, .inl (fun _ => 0))), (q2, .inl (G.2.1, 5, .inl (fun _ => 0))), (q3, .inl (G.2.1, 5, .inl (fun _ => 0))), (q4, .inl (G.2.1, 8, .inl (fun _ => 0)))]) rfl ?_
  refine i_putF (ci := 3) (j := 10) (N := 15) (C := RX3) (T := TX3) (ty0 := tyX3) (ty := tyX3 10) (ws' := [(h, .inr (3, [.null, .int 0, .int (1), .int 0, .int 0, .int 0, .int 0, .ref q1, .ref q2, .ref q3, .ref q4, .null, .null, .null, .null])), (q1, .inl (G.2.1, 5, .inl (fun _ => 0))), (q2, .inl (G.2.1, 5, .inl (fun _ => 0))), (q3, .inl (G.2.1, 5, .inl (fun _ => 0))), (q4, .inl (G.2.1, 8, .inl (fun _ => 0)))]) 0 38 hF hini dX3_init_35 rfl in_X3 tyX3_ok nmX3 rfl rfl (by decide) (gT_in 359 (by decide +kernel) rfl) rfl rfl rfl (tyX3_ok 10 (by decide)) rfl rfl (Nat.le_of_ble_eq_true rfl) rfl ?_
  refine i_aload 0 39 hF dX3_init_38 rfl rfl rfl ?_
  refine i_bipush (8) 41 hF dX3_init_39 rfl (by decide) ?_
  refine i_newI 8 43 hF dX3_init_41 rfl (gT_in 140 (by decide +kernel) rfl) (by decide) (by decide) (by decide) (fun q5 => ?_)
  refine IW_to (ws' := [(h, .inr (3, [.null, .int 0, .int (1), .int 0, .int 0, .int 0, .int 0, .ref q1, .ref q2, .ref q3, .ref q4, .null, .null, .null, .null])), (q1, .inl (G.2.1, 5, .inl (fun _ => 0))), (q2, .inl (G.2.1, 5, .inl (fun _ => 0))), (q3, .inl (G.2.1, 5, .inl (fun _ => 0))), (q4, .inl (G.2.1, 8, .inl (fun _ => 0))), (q5, .inl (G.2.1, 8, .inl (fun _ => 0)))]) rfl ?_
  refine i_putF (ci := 3) (j := 11) (N := 15) (C := RX3) (T := TX3) (ty0 := tyX3) (ty := tyX3 11) (ws' := [(h, .inr (3, [.null, .int 0, .int (1), .int 0, .int 0, .int 0, .int 0, .ref q1, .ref q2, .ref q3, .ref q4, .ref q5, .null, .null, .null])), (q1, .inl (G.2.1, 5, .inl (fun _ => 0))), (q2, .inl (G.2.1, 5, .inl (fun _ => 0))), (q3, .inl (G.2.1, 5, .inl (fun _ => 0))), (q4, .inl (G.2.1, 8, .inl (fun _ => 0))), (q5, .inl (G.2.1, 8, .inl (fun _ => 0)))]) 0 46 hF hini dX3_init_43 rfl in_X3 tyX3_ok nmX3 rfl rfl (by decide) (gT_in 360 (by decide +kernel) rfl) rfl rfl rfl (tyX3_ok 11 (by decide)) rfl rfl (Nat.le_of_ble_eq_true rfl) rfl ?_
  refine i_aload 0 47 hF dX3_init_46 rfl rfl rfl ?_
  refine i_bipush (8) 49 hF dX3_init_47 rfl (by decide) ?_
  refine i_newI 8 51 hF dX3_init_49 rfl (gT_in 140 (by decide +kernel) rfl) (by decide) (by decide) (by decide) (fun q6 => ?_)
  refine IW_to (ws' := [(h, .inr (3, [.null, .int 0, .int (1), .int 0, .int 0, .int 0, .int 0, .ref q1, .ref q2, .ref q3, .ref q4, .ref q5, .null, .null, .null])), (q1, .inl (G.2.1, 5, .inl (fun _ => 0))), (q2, .inl (G.2.1, 5, .inl (fun _ => 0))), (q3, .inl (G.2.1, 5, .inl (fun _ => 0))), (q4, .inl (G.2.1, 8, .inl (fun _ => 0))), (q5, .inl (G.2.1, 8, .inl (fun _ => 0))), (q6, .inl (G.2.1, 8, .inl (fun _ => 0)))]) rfl ?_
  refine i_putF (ci := 3) (j := 12) (N := 15) (C := RX3) (T := TX3) (ty0 := tyX3) (ty := tyX3 12) (ws' := [(h, .inr (3, [.null, .int 0, .int (1), .int 0, .int 0, .int 0, .int 0, .ref q1, .ref q2, .ref q3, .ref q4, .ref q5, .ref q6, .null, .null])), (q1, .inl (G.2.1, 5, .inl (fun _ => 0))), (q2, .inl (G.2.1, 5, .inl (fun _ => 0))), (q3, .inl (G.2.1, 5, .inl (fun _ => 0))), (q4, .inl (G.2.1, 8, .inl (fun _ => 0))), (q5, .inl (G.2.1, 8, .inl (fun _ => 0))), (q6, .inl (G.2.1, 8, .inl (fun _ => 0)))]) 0 54 hF hini dX3_init_51 rfl in_X3 tyX3_ok nmX3 rfl rfl (by decide) (gT_in 361 (by decide +kernel) rfl) rfl rfl rfl (tyX3_ok 12 (by decide)) rfl rfl (Nat.le_of_ble_eq_true rfl) rfl ?_
  refine i_aload 0 55 hF dX3_init_54 rfl rfl rfl ?_
  refine i_bipush (8) 57 hF dX3_init_55 rfl (by decide) ?_
  refine i_newI 8 59 hF dX3_init_57 rfl (gT_in 140 (by decide +kernel) rfl) (by decide) (by decide) (by decide) (fun q7 => ?_)
  refine IW_to (ws' := [(h, .inr (3, [.null, .int 0, .int (1), .int 0, .int 0, .int 0, .int 0, .ref q1, .ref q2, .ref q3, .ref q4, .ref q5, .ref q6, .null, .null])), (q1, .inl (G.2.1, 5, .inl (fun _ => 0))), (q2, .inl (G.2.1, 5, .inl (fun _ => 0))), (q3, .inl (G.2.1, 5, .inl (fun _ => 0))), (q4, .inl (G.2.1, 8, .inl (fun _ => 0))), (q5, .inl (G.2.1, 8, .inl (fun _ => 0))), (q6, .inl (G.2.1, 8, .inl (fun _ => 0))), (q7, .inl (G.2.1, 8, .inl (fun _ => 0)))]) rfl ?_
  refine i_putF (ci := 3) (j := 13) (N := 15) (C := RX3) (T := TX3) (ty0 := tyX3) (ty := tyX3 13) (ws' := [(h, .inr (3, [.null, .int 0, .int (1), .int 0, .int 0, .int 0, .int 0, .ref q1, .ref q2, .ref q3, .ref q4, .ref q5, .ref q6, .ref q7, .null])), (q1, .inl (G.2.1, 5, .inl (fun _ => 0))), (q2, .inl (G.2.1, 5, .inl (fun _ => 0))), (q3, .inl (G.2.1, 5, .inl (fun _ => 0))), (q4, .inl (G.2.1, 8, .inl (fun _ => 0))), (q5, .inl (G.2.1, 8, .inl (fun _ => 0))), (q6, .inl (G.2.1, 8, .inl (fun _ => 0))), (q7, .inl (G.2.1, 8, .inl (fun _ => 0)))]) 0 62 hF hini dX3_init_59 rfl in_X3 tyX3_ok nmX3 rfl rfl (by decide) (gT_in 362 (by decide +kernel) rfl) rfl rfl rfl (tyX3_ok 13 (by decide)) rfl rfl (Nat.le_of_ble_eq_true rfl) rfl ?_
  refine i_aload 0 63 hF dX3_init_62 rfl rfl rfl ?_
  refine i_bipush (8) 65 hF dX3_init_63 rfl (by decide) ?_
  refine i_newI 8 67 hF dX3_init_65 rfl (gT_in 140 (by decide +kernel) rfl) (by decide) (by decide) (by decide) (fun q8 => ?_)
  refine IW_to (ws' := [(h, .inr (3, [.null, .int 0, .int (1), .int 0, .int 0, .int 0, .int 0, .ref q1, .ref q2, .ref q3, .ref q4, .ref q5, .ref q6, .ref q7, .null])), (q1, .inl (G.2.1, 5, .inl (fun _ => 0))), (q2, .inl (G.2.1, 5, .inl (fun _ => 0))), (q3, .inl (G.2.1, 5, .inl (fun _ => 0))), (q4, .inl (G.2.1, 8, .inl (fun _ => 0))), (q5, .inl (G.2.1, 8, .inl (fun _ => 0))), (q6, .inl (G.2.1, 8, .inl (fun _ => 0))), (q7, .inl (G.2.1, 8, .inl (fun _ => 0))), (q8, .inl (G.2.1, 8, .inl (fun _ => 0)))]) rfl ?_
  refine i_putF (ci := 3) (j := 14) (N := 15) (C := RX3) (T := TX3) (ty0 := tyX3) (ty := tyX3 14) (ws' := [(h, .inr (3, [.null, .int 0, .int (1), .int 0, .int 0, .int 0, .int 0, .ref q1, .ref q2, .ref q3, .ref q4, .ref q5, .ref q6, .ref q7, .ref q8])), (q1, .inl (G.2.1, 5, .inl (fun _ => 0))), (q2, .inl (G.2.1, 5, .inl (fun _ => 0))), (q3, .inl (G.2.1, 5, .inl (fun _ => 0))), (q4, .inl (G.2.1, 8, .inl (fun _ => 0))), (q5, .inl (G.2.1, 8, .inl (fun _ => 0))), (q6, .inl (G.2.1, 8, .inl (fun _ => 0))), (q7, .inl (G.2.1, 8, .inl (fun _ => 0))), (q8, .inl (G.2.1, 8, .inl (fun _ => 0)))]) 0 70 hF hini dX3_init_67 rfl in_X3 tyX3_ok nmX3 rfl rfl (by decide) (gT_in 363 (by decide +kernel) rfl) rfl rfl rfl (tyX3_ok 14 (by decide)) rfl rfl (Nat.le_of_ble_eq_true rfl) rfl ?_
  refine i_aload 0 71 hF dX3_init_70 rfl rfl rfl ?_
  refine i_aload 1 72 hF dX3_init_71 rfl rfl rfl ?_
  refine i_putF (ci := 3) (j := 0) (N := 15) (C := RX3) (T := TX3) (ty0 := tyX3) (ty := tyX3 0) (ws' := [(h, .inr (3, [.ref tx, .int 0, .int (1), .int 0, .int 0, .int 0, .int 0, .ref q1, .ref q2, .ref q3, .ref q4, .ref q5, .ref q6, .ref q7, .ref q8])), (q1, .inl (G.2.1, 5, .inl (fun _ => 0))), (q2, .inl (G.2.1, 5, .inl (fun _ => 0))), (q3, .inl (G.2.1, 5, .inl (fun _ => 0))), (q4, .inl (G.2.1, 8, .inl (fun _ => 0))), (q5, .inl (G.2.1, 8, .inl (fun _ => 0))), (q6, .inl (G.2.1, 8, .inl (fun _ => 0))), (q7, .inl (G.2.1, 8, .inl (fun _ => 0))), (q8, .inl (G.2.1, 8, .inl (fun _ => 0)))]) 0 75 hF hini dX3_init_72 rfl in_X3 tyX3_ok nmX3 rfl rfl (by decide) (gT_in 343 (by decide +kernel) rfl) rfl rfl rfl (tyX3_ok 0 (by decide)) rfl rfl (Nat.le_of_ble_eq_true rfl) rfl ?_
  exact ret (fun k => [q1, q2, q3, q4, q5, q6, q7, q8].getD k 0) _ _ trivial dX3_init_75
