/-! THE LAW: rows -/
def LScr (X : Cx) (A : Nat → Prop) (b L : Nat) (xs : Nat → Int32) : Prop := match X with
  | (_, _, _, _, s, _, _, _, _, _) => va_X b L xs s s.heap ∧ b < s.heap.size ∧ ¬ A b
section LROW
variable {X : Cx} {G : Gx} {A : Nat → Prop} {Q : State → Prop} {nL : Nat} {ws : va_W} {cells slots pc : Nat} {lo : List (Nat × Value)} {st : List Value} {cc : ByteArray} {own : String} {rm : Room}
theorem i_iadd {x y : Int32} (q : Nat) (hF : FI X G A nL cc own rm) (hd : decode cc pc = .ok (.iadd, 1)) (hq : pc + 1 = q) (k : IW X G A Q nL ws cells slots q lo (.int (x + y) :: st)) : IW X G A Q nL ws cells slots pc lo (.int y :: .int x :: st) := by
  obtain ⟨p, l, en, R, s, m, args, below, meth, c⟩ := X
  subst hq
  intro H locs ls hP hD hS hl
  obtain ⟨hx, hb, hown, hts, hK, hml, hR, hA⟩ := hF
  exact lv_iadd hx hb hd (k H locs ls hP hD hS hl)
theorem i_isub {x y : Int32} (q : Nat) (hF : FI X G A nL cc own rm) (hd : decode cc pc = .ok (.isub, 1)) (hq : pc + 1 = q) (k : IW X G A Q nL ws cells slots q lo (.int (x - y) :: st)) : IW X G A Q nL ws cells slots pc lo (.int y :: .int x :: st) := by
  obtain ⟨p, l, en, R, s, m, args, below, meth, c⟩ := X
  subst hq
  intro H locs ls hP hD hS hl
  obtain ⟨hx, hb, hown, hts, hK, hml, hR, hA⟩ := hF
  exact lv_isub hx hb hd (k H locs ls hP hD hS hl)
theorem i_iand {x y : Int32} (q : Nat) (hF : FI X G A nL cc own rm) (hd : decode cc pc = .ok (.iand, 1)) (hq : pc + 1 = q) (k : IW X G A Q nL ws cells slots q lo (.int (x &&& y) :: st)) : IW X G A Q nL ws cells slots pc lo (.int y :: .int x :: st) := by
  obtain ⟨p, l, en, R, s, m, args, below, meth, c⟩ := X
  subst hq
  intro H locs ls hP hD hS hl
  obtain ⟨hx, hb, hown, hts, hK, hml, hR, hA⟩ := hF
  exact lv_iand hx hb hd (k H locs ls hP hD hS hl)
theorem i_gt {x y : Int32} {off : Int} (q t : Nat) (hF : FI X G A nL cc own rm) (hd : decode cc pc = .ok (.if_icmp .gt off, 3)) (hq : pc + 3 = q) (ht : (pc : Int) + off = (t : Int)) (kt : y < x → IW X G A Q nL ws cells slots t lo st) (kf : ¬ y < x → IW X G A Q nL ws cells slots q lo st) : IW X G A Q nL ws cells slots pc lo (.int y :: .int x :: st) := by
  obtain ⟨p, l, en, R, s, m, args, below, meth, c⟩ := X
  subst hq
  intro H locs ls hP hD hS hl
  obtain ⟨hx, hb, hown, hts, hK, hml, hR, hA⟩ := hF
  exact lv_icmp_gt hx hb hd ht (fun h => kt h H locs ls hP hD hS hl) (fun h => kf h H locs ls hP hD hS hl)
theorem i_same {x : Int32} {off : Int} (t : Nat) (hF : FI X G A nL cc own rm) (hd : decode cc pc = .ok (.if_icmp .eq off, 3)) (ht : (pc : Int) + off = (t : Int)) (k : IW X G A Q nL ws cells slots t lo st) : IW X G A Q nL ws cells slots pc lo (.int x :: .int x :: st) := by
  obtain ⟨p, l, en, R, s, m, args, below, meth, c⟩ := X
  intro H locs ls hP hD hS hl
  obtain ⟨hx, hb, hown, hts, hK, hml, hR, hA⟩ := hF
  exact lv_icmp_eq hx hb hd ht (fun h => k H locs ls hP hD hS hl) (fun h => absurd rfl h)
theorem i_sameJ {x : Int64} {off : Int} (q t : Nat) (hF : FI X G A nL cc own rm) (hd : decode cc pc = .ok (.lcmp, 1)) (hq : pc + 1 = q) (hd2 : decode cc q = .ok (.ifCond .eq off, 3)) (ht : (q : Int) + off = (t : Int)) (k : IW X G A Q nL ws cells slots t lo st) : IW X G A Q nL ws cells slots pc lo (.long x :: .long x :: st) := by
  obtain ⟨p, l, en, R, s, m, args, below, meth, c⟩ := X
  subst hq
  intro H locs ls hP hD hS hl
  obtain ⟨hx, hb, hown, hts, hK, hml, hR, hA⟩ := hF
  exact W.lcmp hx hb hd (lv_if_eq hx hb hd2 ht (fun h => k H locs ls hP hD hS hl) (fun h => absurd ((lg_cmp_eq x x).mpr rfl) h))
theorem i_tabIn {dflt lo1 hi : Int} {offs : Array Int} {len : Nat} {x : Int32} {off : Int} (t : Nat) (hF : FI X G A nL cc own rm) (hd : decode cc pc = .ok (.tableswitch dflt lo1 hi offs, len)) (h1 : ¬ x.toInt < lo1) (h2 : ¬ hi < x.toInt) (ho : offs[(x.toInt - lo1).toNat]? = some off) (ht : (pc : Int) + off = (t : Int)) (k : IW X G A Q nL ws cells slots t lo st) : IW X G A Q nL ws cells slots pc lo (.int x :: st) := by
  obtain ⟨p, l, en, R, s, m, args, below, meth, c⟩ := X
  intro H locs ls hP hD hS hl
  obtain ⟨hx, hb, hown, hts, hK, hml, hR, hA⟩ := hF
  exact lv_tableIn hx hb hd h1 h2 ho ht (k H locs ls hP hD hS hl)
theorem i_tabOut {dflt lo1 hi : Int} {offs : Array Int} {len : Nat} {x : Int32} (t : Nat) (hF : FI X G A nL cc own rm) (hd : decode cc pc = .ok (.tableswitch dflt lo1 hi offs, len)) (h : x.toInt < lo1 ∨ hi < x.toInt) (ht : (pc : Int) + dflt = (t : Int)) (k : IW X G A Q nL ws cells slots t lo st) : IW X G A Q nL ws cells slots pc lo (.int x :: st) := by
  obtain ⟨p, l, en, R, s, m, args, below, meth, c⟩ := X
  intro H locs ls hP hD hS hl
  obtain ⟨hx, hb, hown, hts, hK, hml, hR, hA⟩ := hF
  exact lv_tableOut hx hb hd h ht (k H locs ls hP hD hS hl)
theorem i_slen {b L : Nat} {xs : Nat → Int32} (q : Nat) (hF : FI X G A nL cc own rm) (hB : LScr X A b L xs) (hd : decode cc pc = .ok (.arraylength, 1)) (hq : pc + 1 = q) (k : IW X G A Q nL ws cells slots q lo (.int (nI L) :: st)) : IW X G A Q nL ws cells slots pc lo (.ref b :: st) := by
  obtain ⟨p, l, en, R, s, m, args, below, meth, c⟩ := X
  subst hq
  intro H locs ls hP hD hS hl
  obtain ⟨hx, hb, hown, hts, hK, hml, hR, hA⟩ := hF
  obtain ⟨h1, h2, h3⟩ := hB
  exact va_slen hx hb h1 h2 h3 hS hd (k H locs ls hP hD hS hl)
theorem i_sld {b L j : Nat} {xs : Nat → Int32} {i : Int32} (q : Nat) (hF : FI X G A nL cc own rm) (hB : LScr X A b L xs) (hd : decode cc pc = .ok (.iaload, 1)) (hq : pc + 1 = q) (hi : i = nI j) (hj : j < L) (hL : L ≤ 3072) (k : IW X G A Q nL ws cells slots q lo (.int (xs j) :: st)) : IW X G A Q nL ws cells slots pc lo (.int i :: .ref b :: st) := by
  obtain ⟨p, l, en, R, s, m, args, below, meth, c⟩ := X
  subst hq hi
  intro H locs ls hP hD hS hl
  obtain ⟨hx, hb, hown, hts, hK, hml, hR, hA⟩ := hF
  obtain ⟨h1, h2, h3⟩ := hB
  refine va_sld hx hb h1 h2 h3 hS (vp_in_nI hj (by omega)) hd ?_
  rw [nI_clamp (by omega)]
  exact k H locs ls hP hD hS hl
end LROW
abbrev loL (kn b y z : Nat) : List (Nat × Value) := [(3, .int (nI kn)), (0, .ref b), (1, .ref y), (2, .ref z)]
section LARG
variable {X : Cx} {G GX GM : Gx} {A : Nat → Prop} {Q : State → Prop} {ws : va_W} {cells slots pc : Nat} {st : List Value} {cc : ByteArray} {own : String} {rm : Room} {b L kn y z : Nat} {xs : Nat → Int32} {Mx Mr : Mm}
theorem i_arg {v : Int} (j q : Nat) (hF : FI X G A 4 cc own rm) (hB : LScr X A b L xs) (hL : L ≤ 3072) (hk : kn + 6 ≤ L) (hj : j ≤ 5) (d1 : decode cc pc = .ok (.aload_n 0, 1)) (d2 : decode cc (pc + 1) = .ok (.iload_n 3, 1)) (d3 : decode cc (pc + 2) = .ok (.iconst v, 1)) (d4 : decode cc (pc + 3) = .ok (.iadd, 1)) (d5 : decode cc (pc + 4) = .ok (.iaload, 1)) (hq : pc + 5 = q) (hv : Int32.ofInt v = nI j) (kk : IW X G A Q 4 ws cells slots q (loL kn b y z) (.int (xs (kn + j)) :: st)) : IW X G A Q 4 ws cells slots pc (loL kn b y z) st := by
  refine i_aload 1 (pc + 1) hF d1 rfl rfl rfl ?_
  refine i_iload 0 (pc + 2) hF d2 rfl rfl rfl ?_
  refine i_iconst (nI j) (pc + 3) hF d3 rfl hv ?_
  refine i_iadd (pc + 4) hF d4 rfl ?_
  exact i_sld q hF hB d5 hq (nI_add kn j) (by omega) hL kk
abbrev LW (X : Cx) (G GX GM : Gx) (A : Nat → Prop) (Q : State → Prop) (kn b pc : Nat) (st : List Value) (Mx Mr : Mm) : Prop := IW X G A Q 4 (wl shX GX Mx ++ wl shM GM Mr) 60 3140 pc (loL kn b (GX.2.2.2.2 0) (GM.2.2.2.2 0)) st
def GG (G Gc : Gx) : Prop := Gc.1 = G.1 ∧ tys3 Gc = tys3 G ∧ ∀ k, 1000 ≤ k → Gc.2.2.2.2 k = G.2.2.2.2 k
theorem l_cX {β : Type} {y : MethodName} {cc2 : ByteArray} {maxL idx n : Nat} {ret2 : Option FieldType} {rc : Room} {rest : List Value} {rv2 : β → Option Value} {e1 : Option (β × Mm)} {r2 : β} {M2 : Mm} (As : List Value) (q : Nat) (hF : FI X G A 4 cL_law RL room_1) (hX : XTA G A X.2.2.2.2.1 X.2.2.2.2.1.heap) (hG : GG G GX) (hd : decode cL_law pc = .ok (.invokevirtual idx, 3)) (hq : pc + 3 = q) (hcw : CWv RL idx RX4 y cc2 maxL ret2 n) (hct : CT y cc2 maxL ret2 rc GX shX (.ref (GX.2.2.2.2 0) :: As) rv2 Mx e1) (he : e1 = some (r2, M2)) (hrm : rmok rc room_1 maxL) (hst : st = As.reverse ++ .ref (GX.2.2.2.2 0) :: rest) (hn : As.length = n) (hw : (rest.map fun v => v.category).sum ≤ 8) (k : LW X G GX GM A Q kn b q ((rv2 r2).toList ++ rest) M2 Mr) : LW X G GX GM A Q kn b pc st Mx Mr := by
  refine IW_to (ws' := [] ++ (wl shX GX Mx ++ wl shM GM Mr)) (List.nil_append _).symm ?_
  refine i_callC (wa := []) (wb := wl shM GM Mr) (ci := 4) (C := RX4) (T := TX4) (N := 8) (b := 0) (rest := rest) As q hF hX hG hd hq hcw rfl (sh := shX) (ts := [3, 7, 9, 18, 27, 0, 37, 36]) rfl hct he hrm hst hn hw ⟨by decide, by decide⟩ ?_
  exact IW_to (ws' := wl shX GX M2 ++ wl shM GM Mr) (List.nil_append _) k
theorem l_cM {β : Type} {y : MethodName} {cc2 : ByteArray} {maxL idx n : Nat} {ret2 : Option FieldType} {rc : Room} {rest : List Value} {rv2 : β → Option Value} {e1 : Option (β × Mm)} {r2 : β} {M2 : Mm} (As : List Value) (q : Nat) (hF : FI X G A 4 cL_law RL room_1) (hX : XTA G A X.2.2.2.2.1 X.2.2.2.2.1.heap) (hG : GG G GM) (hd : decode cL_law pc = .ok (.invokevirtual idx, 3)) (hq : pc + 3 = q) (hcw : CWv RL idx RX5 y cc2 maxL ret2 n) (hct : CT y cc2 maxL ret2 rc GM shM (.ref (GM.2.2.2.2 0) :: As) rv2 Mr e1) (he : e1 = some (r2, M2)) (hrm : rmok rc room_1 maxL) (hst : st = As.reverse ++ .ref (GM.2.2.2.2 0) :: rest) (hn : As.length = n) (hw : (rest.map fun v => v.category).sum ≤ 8) (k : LW X G GX GM A Q kn b q ((rv2 r2).toList ++ rest) Mx M2) : LW X G GX GM A Q kn b pc st Mx Mr := by
  refine IW_to (ws' := wl shX GX Mx ++ (wl shM GM Mr ++ [])) (by rw [List.append_nil]) ?_
  refine i_callC (wa := wl shX GX Mx) (wb := []) (ci := 5) (C := RX5) (T := TX5) (N := 44) (b := 0) (rest := rest) As q hF hX hG hd hq hcw rfl (sh := shM) (ts := _) rfl hct he hrm hst hn hw ⟨by decide, by decide⟩ ?_
  exact IW_to (ws' := wl shX GX Mx ++ wl shM GM M2) (by rw [List.append_nil]) k
def LB (X : Cx) (G GX GM : Gx) (A : Nat → Prop) (b L kn : Nat) (xs : Nat → Int32) : Prop := FI X G A 4 cL_law RL room_1 ∧ XTA G A X.2.2.2.2.1 X.2.2.2.2.1.heap ∧ GG G GX ∧ GG G GM ∧ LScr X A b L xs ∧ L ≤ 3072 ∧ kn + 6 ≤ L
end LARG
/-! the words of its calls -/

theorem cwL_13 : CWv RL 13 RX4 yX4_set cX4_set 5 (some .int) 3 := ⟨by decide +kernel, gT_in 442 (by decide +kernel) rfl, gT_in 443 (by decide +kernel) rfl, gT_in 444 (by decide +kernel) rfl, gT_in 72 (by decide +kernel) rfl, gT_in 445 (by decide +kernel) rfl⟩
theorem cwL_17 : CWv RL 17 RX5 yX5_set cX5_set 5 (some .int) 3 := ⟨by decide +kernel, gT_in 980 (by decide +kernel) rfl, gT_in 981 (by decide +kernel) rfl, gT_in 982 (by decide +kernel) rfl, gT_in 81 (by decide +kernel) rfl, gT_in 983 (by decide +kernel) rfl⟩
theorem cwL_18 : CWv RL 18 RX4 yX4_person cX4_person 4 (some .int) 3 := ⟨by decide +kernel, gT_in 515 (by decide +kernel) rfl, gT_in 516 (by decide +kernel) rfl, gT_in 517 (by decide +kernel) rfl, gT_in 72 (by decide +kernel) rfl, gT_in 518 (by decide +kernel) rfl⟩
theorem cwL_21 : CWv RL 21 RX5 yX5_person cX5_person 4 (some .int) 3 := ⟨by decide +kernel, gT_in 1016 (by decide +kernel) rfl, gT_in 1017 (by decide +kernel) rfl, gT_in 1018 (by decide +kernel) rfl, gT_in 81 (by decide +kernel) rfl, gT_in 1019 (by decide +kernel) rfl⟩
theorem cwL_22 : CWv RL 22 RX4 yX4_swap cX4_swap 4 (some .int) 2 := ⟨by decide +kernel, gT_in 527 (by decide +kernel) rfl, gT_in 528 (by decide +kernel) rfl, gT_in 529 (by decide +kernel) rfl, gT_in 72 (by decide +kernel) rfl, gT_in 530 (by decide +kernel) rfl⟩
theorem cwL_26 : CWv RL 26 RX5 yX5_swap cX5_swap 4 (some .int) 2 := ⟨by decide +kernel, gT_in 1027 (by decide +kernel) rfl, gT_in 1028 (by decide +kernel) rfl, gT_in 1029 (by decide +kernel) rfl, gT_in 81 (by decide +kernel) rfl, gT_in 1030 (by decide +kernel) rfl⟩
theorem cwL_27 : CWv RL 27 RX4 yX4_told cX4_told 3 (some .int) 2 := ⟨by decide +kernel, gT_in 539 (by decide +kernel) rfl, gT_in 447 (by decide +kernel) rfl, gT_in 448 (by decide +kernel) rfl, gT_in 72 (by decide +kernel) rfl, gT_in 449 (by decide +kernel) rfl⟩
theorem cwL_30 : CWv RL 30 RX5 yX5_told cX5_told 3 (some .int) 2 := ⟨by decide +kernel, gT_in 1035 (by decide +kernel) rfl, gT_in 1004 (by decide +kernel) rfl, gT_in 1005 (by decide +kernel) rfl, gT_in 81 (by decide +kernel) rfl, gT_in 1006 (by decide +kernel) rfl⟩
theorem cwL_31 : CWv RL 31 RX4 yX4_asks cX4_asks 4 (some .int) 3 := ⟨by decide +kernel, gT_in 540 (by decide +kernel) rfl, gT_in 541 (by decide +kernel) rfl, gT_in 542 (by decide +kernel) rfl, gT_in 72 (by decide +kernel) rfl, gT_in 543 (by decide +kernel) rfl⟩
theorem cwL_34 : CWv RL 34 RX5 yX5_asks cX5_asks 4 (some .int) 3 := ⟨by decide +kernel, gT_in 1119 (by decide +kernel) rfl, gT_in 1120 (by decide +kernel) rfl, gT_in 1121 (by decide +kernel) rfl, gT_in 81 (by decide +kernel) rfl, gT_in 1122 (by decide +kernel) rfl⟩
theorem cwL_35 : CWv RL 35 RX4 yX4_writes cX4_writes 2 (some .int) 1 := ⟨by decide +kernel, gT_in 591 (by decide +kernel) rfl, gT_in 592 (by decide +kernel) rfl, gT_in 593 (by decide +kernel) rfl, gT_in 72 (by decide +kernel) rfl, gT_in 594 (by decide +kernel) rfl⟩
theorem cwL_39 : CWv RL 39 RX5 yX5_writes cX5_writes 2 (some .int) 1 := ⟨by decide +kernel, gT_in 1141 (by decide +kernel) rfl, gT_in 1142 (by decide +kernel) rfl, gT_in 1143 (by decide +kernel) rfl, gT_in 81 (by decide +kernel) rfl, gT_in 1144 (by decide +kernel) rfl⟩
theorem cwL_40 : CWv RL 40 RX4 yX4_feed cX4_feed 2 (some .int) 1 := ⟨by decide +kernel, gT_in 599 (by decide +kernel) rfl, gT_in 600 (by decide +kernel) rfl, gT_in 601 (by decide +kernel) rfl, gT_in 72 (by decide +kernel) rfl, gT_in 602 (by decide +kernel) rfl⟩
theorem cwL_43 : CWv RL 43 RX5 yX5_feed cX5_feed 2 (some .int) 1 := ⟨by decide +kernel, gT_in 1036 (by decide +kernel) rfl, gT_in 1037 (by decide +kernel) rfl, gT_in 1038 (by decide +kernel) rfl, gT_in 81 (by decide +kernel) rfl, gT_in 1039 (by decide +kernel) rfl⟩
theorem cwL_44 : CWv RL 44 RX4 yX4_text cX4_text 2 (some .int) 0 := ⟨by decide +kernel, gT_in 604 (by decide +kernel) rfl, gT_in 605 (by decide +kernel) rfl, gT_in 606 (by decide +kernel) rfl, gT_in 72 (by decide +kernel) rfl, gT_in 607 (by decide +kernel) rfl⟩
theorem cwL_48 : CWv RL 48 RX5 yX5_text cX5_text 2 (some .int) 0 := ⟨by decide +kernel, gT_in 1041 (by decide +kernel) rfl, gT_in 1042 (by decide +kernel) rfl, gT_in 1043 (by decide +kernel) rfl, gT_in 81 (by decide +kernel) rfl, gT_in 1044 (by decide +kernel) rfl⟩
theorem cwL_49 : CWv RL 49 RX4 yX4_force cX4_force 3 (some .int) 1 := ⟨by decide +kernel, gT_in 609 (by decide +kernel) rfl, gT_in 610 (by decide +kernel) rfl, gT_in 611 (by decide +kernel) rfl, gT_in 72 (by decide +kernel) rfl, gT_in 612 (by decide +kernel) rfl⟩
theorem cwL_52 : CWv RL 52 RX5 yX5_force cX5_force 3 (some .int) 1 := ⟨by decide +kernel, gT_in 1115 (by decide +kernel) rfl, gT_in 1116 (by decide +kernel) rfl, gT_in 1117 (by decide +kernel) rfl, gT_in 81 (by decide +kernel) rfl, gT_in 1118 (by decide +kernel) rfl⟩
theorem cwL_53 : CWv RL 53 RX4 yX4_send cX4_send 3 (some .int) 2 := ⟨by decide +kernel, gT_in 614 (by decide +kernel) rfl, gT_in 615 (by decide +kernel) rfl, gT_in 616 (by decide +kernel) rfl, gT_in 72 (by decide +kernel) rfl, gT_in 617 (by decide +kernel) rfl⟩
theorem cwL_56 : CWv RL 56 RX5 yX5_send cX5_send 3 (some .int) 2 := ⟨by decide +kernel, gT_in 1149 (by decide +kernel) rfl, gT_in 1150 (by decide +kernel) rfl, gT_in 1151 (by decide +kernel) rfl, gT_in 81 (by decide +kernel) rfl, gT_in 1152 (by decide +kernel) rfl⟩
theorem cwL_57 : CWv RL 57 RX4 yX4_day cX4_day 1 (some .int) 0 := ⟨by decide +kernel, gT_in 623 (by decide +kernel) rfl, gT_in 624 (by decide +kernel) rfl, gT_in 625 (by decide +kernel) rfl, gT_in 72 (by decide +kernel) rfl, gT_in 626 (by decide +kernel) rfl⟩
theorem cwL_60 : CWv RL 60 RX5 yX5_day cX5_day 2 (some .int) 0 := ⟨by decide +kernel, gT_in 1157 (by decide +kernel) rfl, gT_in 1158 (by decide +kernel) rfl, gT_in 1159 (by decide +kernel) rfl, gT_in 81 (by decide +kernel) rfl, gT_in 1160 (by decide +kernel) rfl⟩
theorem cwL_61 : CWv RL 61 RX4 yX4_run cX4_run 4 (some .int) 3 := ⟨by decide +kernel, gT_in 638 (by decide +kernel) rfl, gT_in 639 (by decide +kernel) rfl, gT_in 640 (by decide +kernel) rfl, gT_in 72 (by decide +kernel) rfl, gT_in 641 (by decide +kernel) rfl⟩
theorem cwL_64 : CWv RL 64 RX5 yX5_run cX5_run 6 (some .int) 3 := ⟨by decide +kernel, gT_in 1173 (by decide +kernel) rfl, gT_in 1174 (by decide +kernel) rfl, gT_in 1175 (by decide +kernel) rfl, gT_in 81 (by decide +kernel) rfl, gT_in 1176 (by decide +kernel) rfl⟩
theorem cwL_65 : CWv RL 65 RX4 yX4_comes cX4_comes 3 (some .int) 1 := ⟨by decide +kernel, gT_in 655 (by decide +kernel) rfl, gT_in 656 (by decide +kernel) rfl, gT_in 657 (by decide +kernel) rfl, gT_in 72 (by decide +kernel) rfl, gT_in 658 (by decide +kernel) rfl⟩
theorem cwL_68 : CWv RL 68 RX5 yX5_comes cX5_comes 3 (some .int) 1 := ⟨by decide +kernel, gT_in 1194 (by decide +kernel) rfl, gT_in 1195 (by decide +kernel) rfl, gT_in 1196 (by decide +kernel) rfl, gT_in 81 (by decide +kernel) rfl, gT_in 1197 (by decide +kernel) rfl⟩
theorem cwL_69 : CWv RL 69 RX4 yX4_mistake cX4_mistake 7 (some .int) 2 := ⟨by decide +kernel, gT_in 663 (by decide +kernel) rfl, gT_in 664 (by decide +kernel) rfl, gT_in 665 (by decide +kernel) rfl, gT_in 72 (by decide +kernel) rfl, gT_in 666 (by decide +kernel) rfl⟩
theorem cwL_72 : CWv RL 72 RX5 yX5_mistake cX5_mistake 7 (some .int) 2 := ⟨by decide +kernel, gT_in 1198 (by decide +kernel) rfl, gT_in 1199 (by decide +kernel) rfl, gT_in 1200 (by decide +kernel) rfl, gT_in 81 (by decide +kernel) rfl, gT_in 1201 (by decide +kernel) rfl⟩
theorem cwL_73 : CWv RL 73 RX4 yX4_live cX4_live 8 (some .int) 2 := ⟨by decide +kernel, gT_in 671 (by decide +kernel) rfl, gT_in 672 (by decide +kernel) rfl, gT_in 673 (by decide +kernel) rfl, gT_in 72 (by decide +kernel) rfl, gT_in 674 (by decide +kernel) rfl⟩
theorem cwL_76 : CWv RL 76 RX5 yX5_live cX5_live 10 (some .int) 2 := ⟨by decide +kernel, gT_in 1206 (by decide +kernel) rfl, gT_in 1207 (by decide +kernel) rfl, gT_in 1208 (by decide +kernel) rfl, gT_in 81 (by decide +kernel) rfl, gT_in 1209 (by decide +kernel) rfl⟩
theorem cwL_77 : CWv RL 77 RX4 yX4_hide cX4_hide 7 (some .int) 4 := ⟨by decide +kernel, gT_in 696 (by decide +kernel) rfl, gT_in 697 (by decide +kernel) rfl, gT_in 698 (by decide +kernel) rfl, gT_in 72 (by decide +kernel) rfl, gT_in 699 (by decide +kernel) rfl⟩
theorem cwL_81 : CWv RL 81 RX5 yX5_hide cX5_hide 7 (some .int) 4 := ⟨by decide +kernel, gT_in 1219 (by decide +kernel) rfl, gT_in 1220 (by decide +kernel) rfl, gT_in 1221 (by decide +kernel) rfl, gT_in 81 (by decide +kernel) rfl, gT_in 1222 (by decide +kernel) rfl⟩
theorem cwL_82 : CWv RL 82 RX4 yX4_tell cX4_tell 5 (some .int) 3 := ⟨by decide +kernel, gT_in 706 (by decide +kernel) rfl, gT_in 707 (by decide +kernel) rfl, gT_in 708 (by decide +kernel) rfl, gT_in 72 (by decide +kernel) rfl, gT_in 709 (by decide +kernel) rfl⟩
theorem cwL_85 : CWv RL 85 RX5 yX5_tell cX5_tell 6 (some .int) 3 := ⟨by decide +kernel, gT_in 1224 (by decide +kernel) rfl, gT_in 1225 (by decide +kernel) rfl, gT_in 1226 (by decide +kernel) rfl, gT_in 81 (by decide +kernel) rfl, gT_in 1227 (by decide +kernel) rfl⟩
theorem cwL_86 : CWv RL 86 RX4 yX4_mean cX4_mean 4 (some .long) 1 := ⟨by decide +kernel, gT_in 714 (by decide +kernel) rfl, gT_in 715 (by decide +kernel) rfl, gT_in 716 (by decide +kernel) rfl, gT_in 72 (by decide +kernel) rfl, gT_in 717 (by decide +kernel) rfl⟩
theorem cwL_90 : CWv RL 90 RX5 yX5_mean cX5_mean 4 (some .long) 1 := ⟨by decide +kernel, gT_in 1228 (by decide +kernel) rfl, gT_in 1229 (by decide +kernel) rfl, gT_in 1230 (by decide +kernel) rfl, gT_in 81 (by decide +kernel) rfl, gT_in 1231 (by decide +kernel) rfl⟩
theorem cwL_91 : CWv RL 91 RX4 yX4_tells cX4_tells 6 (some .int) 4 := ⟨by decide +kernel, gT_in 722 (by decide +kernel) rfl, gT_in 723 (by decide +kernel) rfl, gT_in 724 (by decide +kernel) rfl, gT_in 72 (by decide +kernel) rfl, gT_in 725 (by decide +kernel) rfl⟩
theorem cwL_94 : CWv RL 94 RX5 yX5_tells cX5_tells 12 (some .int) 4 := ⟨by decide +kernel, gT_in 1236 (by decide +kernel) rfl, gT_in 1237 (by decide +kernel) rfl, gT_in 1238 (by decide +kernel) rfl, gT_in 81 (by decide +kernel) rfl, gT_in 1239 (by decide +kernel) rfl⟩
theorem cwL_95 : CWv RL 95 RX4 yX4_film cX4_film 6 (some .int) 3 := ⟨by decide +kernel, gT_in 763 (by decide +kernel) rfl, gT_in 764 (by decide +kernel) rfl, gT_in 765 (by decide +kernel) rfl, gT_in 72 (by decide +kernel) rfl, gT_in 766 (by decide +kernel) rfl⟩
theorem cwL_98 : CWv RL 98 RX5 yX5_film cX5_film 5 (some .int) 3 := ⟨by decide +kernel, gT_in 1252 (by decide +kernel) rfl, gT_in 1253 (by decide +kernel) rfl, gT_in 1254 (by decide +kernel) rfl, gT_in 81 (by decide +kernel) rfl, gT_in 1255 (by decide +kernel) rfl⟩
theorem cwL_99 : CWv RL 99 RX4 yX4_drawn cX4_drawn 3 (some .int) 2 := ⟨by decide +kernel, gT_in 777 (by decide +kernel) rfl, gT_in 778 (by decide +kernel) rfl, gT_in 779 (by decide +kernel) rfl, gT_in 72 (by decide +kernel) rfl, gT_in 780 (by decide +kernel) rfl⟩
theorem cwL_102 : CWv RL 102 RX5 yX5_drawn cX5_drawn 3 (some .int) 2 := ⟨by decide +kernel, gT_in 1262 (by decide +kernel) rfl, gT_in 1263 (by decide +kernel) rfl, gT_in 1264 (by decide +kernel) rfl, gT_in 81 (by decide +kernel) rfl, gT_in 1265 (by decide +kernel) rfl⟩
theorem cwL_103 : CWv RL 103 RX4 yX4_chance cX4_chance 7 (some .long) 4 := ⟨by decide +kernel, gT_in 786 (by decide +kernel) rfl, gT_in 787 (by decide +kernel) rfl, gT_in 788 (by decide +kernel) rfl, gT_in 72 (by decide +kernel) rfl, gT_in 789 (by decide +kernel) rfl⟩
theorem cwL_107 : CWv RL 107 RX5 yX5_chance cX5_chance 8 (some .long) 4 := ⟨by decide +kernel, gT_in 1271 (by decide +kernel) rfl, gT_in 1272 (by decide +kernel) rfl, gT_in 1273 (by decide +kernel) rfl, gT_in 81 (by decide +kernel) rfl, gT_in 1274 (by decide +kernel) rfl⟩
theorem cwL_108 : CWv RL 108 RX4 yX4_image cX4_image 1 (some .int) 0 := ⟨by decide +kernel, gT_in 790 (by decide +kernel) rfl, gT_in 791 (by decide +kernel) rfl, gT_in 792 (by decide +kernel) rfl, gT_in 72 (by decide +kernel) rfl, gT_in 793 (by decide +kernel) rfl⟩
theorem cwL_111 : CWv RL 111 RX5 yX5_image cX5_image 2 (some .int) 0 := ⟨by decide +kernel, gT_in 1276 (by decide +kernel) rfl, gT_in 1277 (by decide +kernel) rfl, gT_in 1278 (by decide +kernel) rfl, gT_in 81 (by decide +kernel) rfl, gT_in 1279 (by decide +kernel) rfl⟩
theorem cwL_112 : CWv RL 112 RX4 yX4_back cX4_back 1 (some .int) 0 := ⟨by decide +kernel, gT_in 794 (by decide +kernel) rfl, gT_in 795 (by decide +kernel) rfl, gT_in 796 (by decide +kernel) rfl, gT_in 72 (by decide +kernel) rfl, gT_in 797 (by decide +kernel) rfl⟩
theorem cwL_115 : CWv RL 115 RX5 yX5_back cX5_back 2 (some .int) 0 := ⟨by decide +kernel, gT_in 1280 (by decide +kernel) rfl, gT_in 1281 (by decide +kernel) rfl, gT_in 1282 (by decide +kernel) rfl, gT_in 81 (by decide +kernel) rfl, gT_in 1283 (by decide +kernel) rfl⟩
theorem cwL_116 : CWv RL 116 RX4 yX4_count cX4_count 2 (some .int) 1 := ⟨by decide +kernel, gT_in 798 (by decide +kernel) rfl, gT_in 799 (by decide +kernel) rfl, gT_in 800 (by decide +kernel) rfl, gT_in 72 (by decide +kernel) rfl, gT_in 801 (by decide +kernel) rfl⟩
theorem cwL_119 : CWv RL 119 RX5 yX5_count cX5_count 2 (some .int) 1 := ⟨by decide +kernel, gT_in 1284 (by decide +kernel) rfl, gT_in 1285 (by decide +kernel) rfl, gT_in 1286 (by decide +kernel) rfl, gT_in 81 (by decide +kernel) rfl, gT_in 1287 (by decide +kernel) rfl⟩
theorem cwL_120 : CWv RL 120 RX4 yX4_sheet cX4_sheet 5 (some .int) 3 := ⟨by decide +kernel, gT_in 802 (by decide +kernel) rfl, gT_in 803 (by decide +kernel) rfl, gT_in 804 (by decide +kernel) rfl, gT_in 72 (by decide +kernel) rfl, gT_in 805 (by decide +kernel) rfl⟩
theorem cwL_123 : CWv RL 123 RX5 yX5_sheet cX5_sheet 5 (some .int) 3 := ⟨by decide +kernel, gT_in 1288 (by decide +kernel) rfl, gT_in 1257 (by decide +kernel) rfl, gT_in 1258 (by decide +kernel) rfl, gT_in 81 (by decide +kernel) rfl, gT_in 1259 (by decide +kernel) rfl⟩
theorem cwL_124 : CWv RL 124 RX4 yX4_cell cX4_cell 5 (some .int) 3 := ⟨by decide +kernel, gT_in 806 (by decide +kernel) rfl, gT_in 807 (by decide +kernel) rfl, gT_in 808 (by decide +kernel) rfl, gT_in 72 (by decide +kernel) rfl, gT_in 809 (by decide +kernel) rfl⟩
theorem cwL_127 : CWv RL 127 RX5 yX5_cell cX5_cell 4 (some .int) 3 := ⟨by decide +kernel, gT_in 1289 (by decide +kernel) rfl, gT_in 1290 (by decide +kernel) rfl, gT_in 1291 (by decide +kernel) rfl, gT_in 81 (by decide +kernel) rfl, gT_in 1292 (by decide +kernel) rfl⟩
theorem cwL_128 : CWv RL 128 RX4 yX4_copy cX4_copy 8 (some .int) 5 := ⟨by decide +kernel, gT_in 811 (by decide +kernel) rfl, gT_in 812 (by decide +kernel) rfl, gT_in 813 (by decide +kernel) rfl, gT_in 72 (by decide +kernel) rfl, gT_in 814 (by decide +kernel) rfl⟩
theorem cwL_132 : CWv RL 132 RX5 yX5_copy cX5_copy 9 (some .int) 5 := ⟨by decide +kernel, gT_in 1293 (by decide +kernel) rfl, gT_in 1294 (by decide +kernel) rfl, gT_in 1295 (by decide +kernel) rfl, gT_in 81 (by decide +kernel) rfl, gT_in 1296 (by decide +kernel) rfl⟩
theorem cwL_133 : CWv RL 133 RX4 yX4_hill cX4_hill 9 (some .int) 4 := ⟨by decide +kernel, gT_in 822 (by decide +kernel) rfl, gT_in 823 (by decide +kernel) rfl, gT_in 824 (by decide +kernel) rfl, gT_in 72 (by decide +kernel) rfl, gT_in 825 (by decide +kernel) rfl⟩
theorem cwL_136 : CWv RL 136 RX5 yX5_hill cX5_hill 8 (some .int) 4 := ⟨by decide +kernel, gT_in 1297 (by decide +kernel) rfl, gT_in 1298 (by decide +kernel) rfl, gT_in 1299 (by decide +kernel) rfl, gT_in 81 (by decide +kernel) rfl, gT_in 1300 (by decide +kernel) rfl⟩
theorem cwL_137 : CWv RL 137 RX4 yX4_taken cX4_taken 3 (some .int) 2 := ⟨by decide +kernel, gT_in 828 (by decide +kernel) rfl, gT_in 829 (by decide +kernel) rfl, gT_in 830 (by decide +kernel) rfl, gT_in 72 (by decide +kernel) rfl, gT_in 831 (by decide +kernel) rfl⟩
theorem cwL_140 : CWv RL 140 RX5 yX5_taken cX5_taken 4 (some .int) 2 := ⟨by decide +kernel, gT_in 1302 (by decide +kernel) rfl, gT_in 1303 (by decide +kernel) rfl, gT_in 1304 (by decide +kernel) rfl, gT_in 81 (by decide +kernel) rfl, gT_in 1305 (by decide +kernel) rfl⟩
/-! its thirty cases -/
theorem law_set {X : Cx} {G GX GM : Gx} {A : Nat → Prop} {Q : State → Prop} {b L kn : Nat} {xs : Nat → Int32} {Mx Mr : Mm} (hB : LB X G GX GM A b L kn xs) (h : Rel Mx Mr) (next : ∀ Mx' Mr', Rel Mx' Mr' → LW X G GX GM A Q kn b 1210 [] Mx' Mr') : LW X G GX GM A Q kn b 168 [] Mx Mr := by
  obtain ⟨hF, hX, g1, g2, hb, hL, hk⟩ := hB
  obtain ⟨r, Mx', Mr', e1, e2, h'⟩ := call_set h (xs (kn + 1)) (xs (kn + 2)) (xs (kn + 3))
  refine i_aload 2 169 hF dL_law_168 rfl rfl rfl ?_
  refine i_arg 1 174 hF hb hL hk (by decide) dL_law_169 dL_law_170 dL_law_171 dL_law_172 dL_law_173 rfl (by decide) ?_
  refine i_arg 2 179 hF hb hL hk (by decide) dL_law_174 dL_law_175 dL_law_176 dL_law_177 dL_law_178 rfl (by decide) ?_
  refine i_arg 3 184 hF hb hL hk (by decide) dL_law_179 dL_law_180 dL_law_181 dL_law_182 dL_law_183 rfl (by decide) ?_
  refine l_cX (rest := []) [.int (xs (kn + 1)), .int (xs (kn + 2)), .int (xs (kn + 3))] 187 hF hX g1 dL_law_184 rfl cwL_13 (c_X4_set top_X Mx _ _ _) e1 ⟨rfl, rfl, by decide, by decide⟩ rfl rfl (Nat.le_of_ble_eq_true rfl) ?_
  refine i_aload 3 188 hF dL_law_187 rfl rfl rfl ?_
  refine i_arg 1 193 hF hb hL hk (by decide) dL_law_188 dL_law_189 dL_law_190 dL_law_191 dL_law_192 rfl (by decide) ?_
  refine i_arg 2 198 hF hb hL hk (by decide) dL_law_193 dL_law_194 dL_law_195 dL_law_196 dL_law_197 rfl (by decide) ?_
  refine i_arg 3 203 hF hb hL hk (by decide) dL_law_198 dL_law_199 dL_law_200 dL_law_201 dL_law_202 rfl (by decide) ?_
  refine l_cM (rest := [.int r]) [.int (xs (kn + 1)), .int (xs (kn + 2)), .int (xs (kn + 3))] 206 hF hX g2 dL_law_203 rfl cwL_17 (c_X5_set mod_M Mr _ _ _) e2 ⟨rfl, rfl, by decide, by decide⟩ rfl rfl (Nat.le_of_ble_eq_true rfl) ?_
  exact i_same 1210 hF dL_law_206 (by decide) (next _ _ h')
theorem law_person {X : Cx} {G GX GM : Gx} {A : Nat → Prop} {Q : State → Prop} {b L kn : Nat} {xs : Nat → Int32} {Mx Mr : Mm} (hB : LB X G GX GM A b L kn xs) (h : Rel Mx Mr) (next : ∀ Mx' Mr', Rel Mx' Mr' → LW X G GX GM A Q kn b 1210 [] Mx' Mr') : LW X G GX GM A Q kn b 211 [] Mx Mr := by
  obtain ⟨hF, hX, g1, g2, hb, hL, hk⟩ := hB
  obtain ⟨r, Mx', Mr', e1, e2, h'⟩ := call_person h (xs (kn + 1)) (xs (kn + 2)) (xs (kn + 3))
  refine i_aload 2 212 hF dL_law_211 rfl rfl rfl ?_
  refine i_arg 1 217 hF hb hL hk (by decide) dL_law_212 dL_law_213 dL_law_214 dL_law_215 dL_law_216 rfl (by decide) ?_
  refine i_arg 2 222 hF hb hL hk (by decide) dL_law_217 dL_law_218 dL_law_219 dL_law_220 dL_law_221 rfl (by decide) ?_
  refine i_arg 3 227 hF hb hL hk (by decide) dL_law_222 dL_law_223 dL_law_224 dL_law_225 dL_law_226 rfl (by decide) ?_
  refine l_cX (rest := []) [.int (xs (kn + 1)), .int (xs (kn + 2)), .int (xs (kn + 3))] 230 hF hX g1 dL_law_227 rfl cwL_18 (c_X4_person top_X Mx _ _ _) e1 ⟨rfl, rfl, by decide, by decide⟩ rfl rfl (Nat.le_of_ble_eq_true rfl) ?_
  refine i_aload 3 231 hF dL_law_230 rfl rfl rfl ?_
  refine i_arg 1 236 hF hb hL hk (by decide) dL_law_231 dL_law_232 dL_law_233 dL_law_234 dL_law_235 rfl (by decide) ?_
  refine i_arg 2 241 hF hb hL hk (by decide) dL_law_236 dL_law_237 dL_law_238 dL_law_239 dL_law_240 rfl (by decide) ?_
  refine i_arg 3 246 hF hb hL hk (by decide) dL_law_241 dL_law_242 dL_law_243 dL_law_244 dL_law_245 rfl (by decide) ?_
  refine l_cM (rest := [.int r]) [.int (xs (kn + 1)), .int (xs (kn + 2)), .int (xs (kn + 3))] 249 hF hX g2 dL_law_246 rfl cwL_21 (c_X5_person mod_M Mr _ _ _) e2 ⟨rfl, rfl, by decide, by decide⟩ rfl rfl (Nat.le_of_ble_eq_true rfl) ?_
  exact i_same 1210 hF dL_law_249 (by decide) (next _ _ h')
theorem law_swap {X : Cx} {G GX GM : Gx} {A : Nat → Prop} {Q : State → Prop} {b L kn : Nat} {xs : Nat → Int32} {Mx Mr : Mm} (hB : LB X G GX GM A b L kn xs) (h : Rel Mx Mr) (next : ∀ Mx' Mr', Rel Mx' Mr' → LW X G GX GM A Q kn b 1210 [] Mx' Mr') : LW X G GX GM A Q kn b 254 [] Mx Mr := by
  obtain ⟨hF, hX, g1, g2, hb, hL, hk⟩ := hB
  obtain ⟨r, Mx', Mr', e1, e2, h'⟩ := call_swap h (xs (kn + 1)) (xs (kn + 2))
  refine i_aload 2 255 hF dL_law_254 rfl rfl rfl ?_
  refine i_arg 1 260 hF hb hL hk (by decide) dL_law_255 dL_law_256 dL_law_257 dL_law_258 dL_law_259 rfl (by decide) ?_
  refine i_arg 2 265 hF hb hL hk (by decide) dL_law_260 dL_law_261 dL_law_262 dL_law_263 dL_law_264 rfl (by decide) ?_
  refine l_cX (rest := []) [.int (xs (kn + 1)), .int (xs (kn + 2))] 268 hF hX g1 dL_law_265 rfl cwL_22 (c_X4_swap top_X Mx _ _) e1 ⟨rfl, rfl, by decide, by decide⟩ rfl rfl (Nat.le_of_ble_eq_true rfl) ?_
  refine i_aload 3 269 hF dL_law_268 rfl rfl rfl ?_
  refine i_arg 1 274 hF hb hL hk (by decide) dL_law_269 dL_law_270 dL_law_271 dL_law_272 dL_law_273 rfl (by decide) ?_
  refine i_arg 2 279 hF hb hL hk (by decide) dL_law_274 dL_law_275 dL_law_276 dL_law_277 dL_law_278 rfl (by decide) ?_
  refine l_cM (rest := [.int r]) [.int (xs (kn + 1)), .int (xs (kn + 2))] 282 hF hX g2 dL_law_279 rfl cwL_26 (c_X5_swap mod_M Mr _ _) e2 ⟨rfl, rfl, by decide, by decide⟩ rfl rfl (Nat.le_of_ble_eq_true rfl) ?_
  exact i_same 1210 hF dL_law_282 (by decide) (next _ _ h')
theorem law_told {X : Cx} {G GX GM : Gx} {A : Nat → Prop} {Q : State → Prop} {b L kn : Nat} {xs : Nat → Int32} {Mx Mr : Mm} (hB : LB X G GX GM A b L kn xs) (h : Rel Mx Mr) (next : ∀ Mx' Mr', Rel Mx' Mr' → LW X G GX GM A Q kn b 1210 [] Mx' Mr') : LW X G GX GM A Q kn b 287 [] Mx Mr := by
  obtain ⟨hF, hX, g1, g2, hb, hL, hk⟩ := hB
  obtain ⟨r, Mx', Mr', e1, e2, h'⟩ := call_told h (xs (kn + 1)) (xs (kn + 2))
  refine i_aload 2 288 hF dL_law_287 rfl rfl rfl ?_
  refine i_arg 1 293 hF hb hL hk (by decide) dL_law_288 dL_law_289 dL_law_290 dL_law_291 dL_law_292 rfl (by decide) ?_
  refine i_arg 2 298 hF hb hL hk (by decide) dL_law_293 dL_law_294 dL_law_295 dL_law_296 dL_law_297 rfl (by decide) ?_
  refine l_cX (rest := []) [.int (xs (kn + 1)), .int (xs (kn + 2))] 301 hF hX g1 dL_law_298 rfl cwL_27 (c_X4_told top_X Mx _ _) e1 ⟨rfl, rfl, by decide, by decide⟩ rfl rfl (Nat.le_of_ble_eq_true rfl) ?_
  refine i_aload 3 302 hF dL_law_301 rfl rfl rfl ?_
  refine i_arg 1 307 hF hb hL hk (by decide) dL_law_302 dL_law_303 dL_law_304 dL_law_305 dL_law_306 rfl (by decide) ?_
  refine i_arg 2 312 hF hb hL hk (by decide) dL_law_307 dL_law_308 dL_law_309 dL_law_310 dL_law_311 rfl (by decide) ?_
  refine l_cM (rest := [.int r]) [.int (xs (kn + 1)), .int (xs (kn + 2))] 315 hF hX g2 dL_law_312 rfl cwL_30 (c_X5_told mod_M Mr _ _) e2 ⟨rfl, rfl, by decide, by decide⟩ rfl rfl (Nat.le_of_ble_eq_true rfl) ?_
  exact i_same 1210 hF dL_law_315 (by decide) (next _ _ h')
theorem law_asks {X : Cx} {G GX GM : Gx} {A : Nat → Prop} {Q : State → Prop} {b L kn : Nat} {xs : Nat → Int32} {Mx Mr : Mm} (hB : LB X G GX GM A b L kn xs) (h : Rel Mx Mr) (next : ∀ Mx' Mr', Rel Mx' Mr' → LW X G GX GM A Q kn b 1210 [] Mx' Mr') : LW X G GX GM A Q kn b 320 [] Mx Mr := by
  obtain ⟨hF, hX, g1, g2, hb, hL, hk⟩ := hB
  obtain ⟨r, Mx', Mr', e1, e2, h'⟩ := call_asks h (xs (kn + 1)) (xs (kn + 2)) (xs (kn + 3))
  refine i_aload 2 321 hF dL_law_320 rfl rfl rfl ?_
  refine i_arg 1 326 hF hb hL hk (by decide) dL_law_321 dL_law_322 dL_law_323 dL_law_324 dL_law_325 rfl (by decide) ?_
  refine i_arg 2 331 hF hb hL hk (by decide) dL_law_326 dL_law_327 dL_law_328 dL_law_329 dL_law_330 rfl (by decide) ?_
  refine i_arg 3 336 hF hb hL hk (by decide) dL_law_331 dL_law_332 dL_law_333 dL_law_334 dL_law_335 rfl (by decide) ?_
  refine l_cX (rest := []) [.int (xs (kn + 1)), .int (xs (kn + 2)), .int (xs (kn + 3))] 339 hF hX g1 dL_law_336 rfl cwL_31 (c_X4_asks top_X Mx _ _ _) e1 ⟨rfl, rfl, by decide, by decide⟩ rfl rfl (Nat.le_of_ble_eq_true rfl) ?_
  refine i_aload 3 340 hF dL_law_339 rfl rfl rfl ?_
  refine i_arg 1 345 hF hb hL hk (by decide) dL_law_340 dL_law_341 dL_law_342 dL_law_343 dL_law_344 rfl (by decide) ?_
  refine i_arg 2 350 hF hb hL hk (by decide) dL_law_345 dL_law_346 dL_law_347 dL_law_348 dL_law_349 rfl (by decide) ?_
  refine i_arg 3 355 hF hb hL hk (by decide) dL_law_350 dL_law_351 dL_law_352 dL_law_353 dL_law_354 rfl (by decide) ?_
  refine l_cM (rest := [.int r]) [.int (xs (kn + 1)), .int (xs (kn + 2)), .int (xs (kn + 3))] 358 hF hX g2 dL_law_355 rfl cwL_34 (c_X5_asks mod_M Mr _ _ _) e2 ⟨rfl, rfl, by decide, by decide⟩ rfl rfl (Nat.le_of_ble_eq_true rfl) ?_
  exact i_same 1210 hF dL_law_358 (by decide) (next _ _ h')
theorem law_writes {X : Cx} {G GX GM : Gx} {A : Nat → Prop} {Q : State → Prop} {b L kn : Nat} {xs : Nat → Int32} {Mx Mr : Mm} (hB : LB X G GX GM A b L kn xs) (h : Rel Mx Mr) (next : ∀ Mx' Mr', Rel Mx' Mr' → LW X G GX GM A Q kn b 1210 [] Mx' Mr') : LW X G GX GM A Q kn b 363 [] Mx Mr := by
  obtain ⟨hF, hX, g1, g2, hb, hL, hk⟩ := hB
  obtain ⟨r, Mx', Mr', e1, e2, h'⟩ := call_writes h (xs (kn + 1))
  refine i_aload 2 364 hF dL_law_363 rfl rfl rfl ?_
  refine i_arg 1 369 hF hb hL hk (by decide) dL_law_364 dL_law_365 dL_law_366 dL_law_367 dL_law_368 rfl (by decide) ?_
  refine l_cX (rest := []) [.int (xs (kn + 1))] 372 hF hX g1 dL_law_369 rfl cwL_35 (c_X4_writes top_X Mx _) e1 ⟨rfl, rfl, by decide, by decide⟩ rfl rfl (Nat.le_of_ble_eq_true rfl) ?_
  refine i_aload 3 373 hF dL_law_372 rfl rfl rfl ?_
  refine i_arg 1 378 hF hb hL hk (by decide) dL_law_373 dL_law_374 dL_law_375 dL_law_376 dL_law_377 rfl (by decide) ?_
  refine l_cM (rest := [.int r]) [.int (xs (kn + 1))] 381 hF hX g2 dL_law_378 rfl cwL_39 (c_X5_writes mod_M Mr _) e2 ⟨rfl, rfl, by decide, by decide⟩ rfl rfl (Nat.le_of_ble_eq_true rfl) ?_
  exact i_same 1210 hF dL_law_381 (by decide) (next _ _ h')
theorem law_feed {X : Cx} {G GX GM : Gx} {A : Nat → Prop} {Q : State → Prop} {b L kn : Nat} {xs : Nat → Int32} {Mx Mr : Mm} (hB : LB X G GX GM A b L kn xs) (h : Rel Mx Mr) (next : ∀ Mx' Mr', Rel Mx' Mr' → LW X G GX GM A Q kn b 1210 [] Mx' Mr') : LW X G GX GM A Q kn b 386 [] Mx Mr := by
  obtain ⟨hF, hX, g1, g2, hb, hL, hk⟩ := hB
  obtain ⟨r, Mx', Mr', e1, e2, h'⟩ := call_feed h (xs (kn + 1))
  refine i_aload 2 387 hF dL_law_386 rfl rfl rfl ?_
  refine i_arg 1 392 hF hb hL hk (by decide) dL_law_387 dL_law_388 dL_law_389 dL_law_390 dL_law_391 rfl (by decide) ?_
  refine l_cX (rest := []) [.int (xs (kn + 1))] 395 hF hX g1 dL_law_392 rfl cwL_40 (c_X4_feed top_X Mx _) e1 ⟨rfl, rfl, by decide, by decide⟩ rfl rfl (Nat.le_of_ble_eq_true rfl) ?_
  refine i_aload 3 396 hF dL_law_395 rfl rfl rfl ?_
  refine i_arg 1 401 hF hb hL hk (by decide) dL_law_396 dL_law_397 dL_law_398 dL_law_399 dL_law_400 rfl (by decide) ?_
  refine l_cM (rest := [.int r]) [.int (xs (kn + 1))] 404 hF hX g2 dL_law_401 rfl cwL_43 (c_X5_feed mod_M Mr _) e2 ⟨rfl, rfl, by decide, by decide⟩ rfl rfl (Nat.le_of_ble_eq_true rfl) ?_
  exact i_same 1210 hF dL_law_404 (by decide) (next _ _ h')
theorem law_text {X : Cx} {G GX GM : Gx} {A : Nat → Prop} {Q : State → Prop} {b L kn : Nat} {xs : Nat → Int32} {Mx Mr : Mm} (hB : LB X G GX GM A b L kn xs) (h : Rel Mx Mr) (next : ∀ Mx' Mr', Rel Mx' Mr' → LW X G GX GM A Q kn b 1210 [] Mx' Mr') : LW X G GX GM A Q kn b 409 [] Mx Mr := by
  obtain ⟨hF, hX, g1, g2, hb, hL, hk⟩ := hB
  obtain ⟨r, Mx', Mr', e1, e2, h'⟩ := call_text h
  refine i_aload 2 410 hF dL_law_409 rfl rfl rfl ?_
  refine l_cX (rest := []) [] 413 hF hX g1 dL_law_410 rfl cwL_44 (c_X4_text top_X Mx) e1 ⟨rfl, rfl, by decide, by decide⟩ rfl rfl (Nat.le_of_ble_eq_true rfl) ?_
  refine i_aload 3 414 hF dL_law_413 rfl rfl rfl ?_
  refine l_cM (rest := [.int r]) [] 417 hF hX g2 dL_law_414 rfl cwL_48 (c_X5_text mod_M Mr) e2 ⟨rfl, rfl, by decide, by decide⟩ rfl rfl (Nat.le_of_ble_eq_true rfl) ?_
  exact i_same 1210 hF dL_law_417 (by decide) (next _ _ h')
theorem law_force {X : Cx} {G GX GM : Gx} {A : Nat → Prop} {Q : State → Prop} {b L kn : Nat} {xs : Nat → Int32} {Mx Mr : Mm} (hB : LB X G GX GM A b L kn xs) (h : Rel Mx Mr) (next : ∀ Mx' Mr', Rel Mx' Mr' → LW X G GX GM A Q kn b 1210 [] Mx' Mr') : LW X G GX GM A Q kn b 422 [] Mx Mr := by
  obtain ⟨hF, hX, g1, g2, hb, hL, hk⟩ := hB
  obtain ⟨r, Mx', Mr', e1, e2, h'⟩ := call_force h (xs (kn + 1))
  refine i_aload 2 423 hF dL_law_422 rfl rfl rfl ?_
  refine i_arg 1 428 hF hb hL hk (by decide) dL_law_423 dL_law_424 dL_law_425 dL_law_426 dL_law_427 rfl (by decide) ?_
  refine l_cX (rest := []) [.int (xs (kn + 1))] 431 hF hX g1 dL_law_428 rfl cwL_49 (c_X4_force top_X Mx _) e1 ⟨rfl, rfl, by decide, by decide⟩ rfl rfl (Nat.le_of_ble_eq_true rfl) ?_
  refine i_aload 3 432 hF dL_law_431 rfl rfl rfl ?_
  refine i_arg 1 437 hF hb hL hk (by decide) dL_law_432 dL_law_433 dL_law_434 dL_law_435 dL_law_436 rfl (by decide) ?_
  refine l_cM (rest := [.int r]) [.int (xs (kn + 1))] 440 hF hX g2 dL_law_437 rfl cwL_52 (c_X5_force mod_M Mr _) e2 ⟨rfl, rfl, by decide, by decide⟩ rfl rfl (Nat.le_of_ble_eq_true rfl) ?_
  exact i_same 1210 hF dL_law_440 (by decide) (next _ _ h')
theorem law_send {X : Cx} {G GX GM : Gx} {A : Nat → Prop} {Q : State → Prop} {b L kn : Nat} {xs : Nat → Int32} {Mx Mr : Mm} (hB : LB X G GX GM A b L kn xs) (h : Rel Mx Mr) (next : ∀ Mx' Mr', Rel Mx' Mr' → LW X G GX GM A Q kn b 1210 [] Mx' Mr') : LW X G GX GM A Q kn b 445 [] Mx Mr := by
  obtain ⟨hF, hX, g1, g2, hb, hL, hk⟩ := hB
  obtain ⟨r, Mx', Mr', e1, e2, h'⟩ := call_send h (xs (kn + 1)) (xs (kn + 2))
  refine i_aload 2 446 hF dL_law_445 rfl rfl rfl ?_
  refine i_arg 1 451 hF hb hL hk (by decide) dL_law_446 dL_law_447 dL_law_448 dL_law_449 dL_law_450 rfl (by decide) ?_
  refine i_arg 2 456 hF hb hL hk (by decide) dL_law_451 dL_law_452 dL_law_453 dL_law_454 dL_law_455 rfl (by decide) ?_
  refine l_cX (rest := []) [.int (xs (kn + 1)), .int (xs (kn + 2))] 459 hF hX g1 dL_law_456 rfl cwL_53 (c_X4_send top_X Mx _ _) e1 ⟨rfl, rfl, by decide, by decide⟩ rfl rfl (Nat.le_of_ble_eq_true rfl) ?_
  refine i_aload 3 460 hF dL_law_459 rfl rfl rfl ?_
  refine i_arg 1 465 hF hb hL hk (by decide) dL_law_460 dL_law_461 dL_law_462 dL_law_463 dL_law_464 rfl (by decide) ?_
  refine i_arg 2 470 hF hb hL hk (by decide) dL_law_465 dL_law_466 dL_law_467 dL_law_468 dL_law_469 rfl (by decide) ?_
  refine l_cM (rest := [.int r]) [.int (xs (kn + 1)), .int (xs (kn + 2))] 473 hF hX g2 dL_law_470 rfl cwL_56 (c_X5_send mod_M Mr _ _) e2 ⟨rfl, rfl, by decide, by decide⟩ rfl rfl (Nat.le_of_ble_eq_true rfl) ?_
  exact i_same 1210 hF dL_law_473 (by decide) (next _ _ h')
theorem law_day {X : Cx} {G GX GM : Gx} {A : Nat → Prop} {Q : State → Prop} {b L kn : Nat} {xs : Nat → Int32} {Mx Mr : Mm} (hB : LB X G GX GM A b L kn xs) (h : Rel Mx Mr) (next : ∀ Mx' Mr', Rel Mx' Mr' → LW X G GX GM A Q kn b 1210 [] Mx' Mr') : LW X G GX GM A Q kn b 478 [] Mx Mr := by
  obtain ⟨hF, hX, g1, g2, hb, hL, hk⟩ := hB
  obtain ⟨r, Mx', Mr', e1, e2, h'⟩ := call_day' h
  refine i_aload 2 479 hF dL_law_478 rfl rfl rfl ?_
  refine l_cX (rest := []) [] 482 hF hX g1 dL_law_479 rfl cwL_57 (c_X4_day top_X Mx) e1 ⟨rfl, rfl, by decide, by decide⟩ rfl rfl (Nat.le_of_ble_eq_true rfl) ?_
  refine i_aload 3 483 hF dL_law_482 rfl rfl rfl ?_
  refine l_cM (rest := [.int r]) [] 486 hF hX g2 dL_law_483 rfl cwL_60 (c_X5_day mod_M Mr) e2 ⟨rfl, rfl, by decide, by decide⟩ rfl rfl (Nat.le_of_ble_eq_true rfl) ?_
  exact i_same 1210 hF dL_law_486 (by decide) (next _ _ h')
theorem law_run {X : Cx} {G GX GM : Gx} {A : Nat → Prop} {Q : State → Prop} {b L kn : Nat} {xs : Nat → Int32} {Mx Mr : Mm} (hB : LB X G GX GM A b L kn xs) (h : Rel Mx Mr) (next : ∀ Mx' Mr', Rel Mx' Mr' → LW X G GX GM A Q kn b 1210 [] Mx' Mr') : LW X G GX GM A Q kn b 491 [] Mx Mr := by
  obtain ⟨hF, hX, g1, g2, hb, hL, hk⟩ := hB
  obtain ⟨r, Mx', Mr', e1, e2, h'⟩ := call_run h (xs (kn + 1)) (xs (kn + 2)) (xs (kn + 3))
  refine i_aload 2 492 hF dL_law_491 rfl rfl rfl ?_
  refine i_arg 1 497 hF hb hL hk (by decide) dL_law_492 dL_law_493 dL_law_494 dL_law_495 dL_law_496 rfl (by decide) ?_
  refine i_arg 2 502 hF hb hL hk (by decide) dL_law_497 dL_law_498 dL_law_499 dL_law_500 dL_law_501 rfl (by decide) ?_
  refine i_arg 3 507 hF hb hL hk (by decide) dL_law_502 dL_law_503 dL_law_504 dL_law_505 dL_law_506 rfl (by decide) ?_
  refine l_cX (rest := []) [.int (xs (kn + 1)), .int (xs (kn + 2)), .int (xs (kn + 3))] 510 hF hX g1 dL_law_507 rfl cwL_61 (c_X4_run top_X Mx _ _ _) e1 ⟨rfl, rfl, by decide, by decide⟩ rfl rfl (Nat.le_of_ble_eq_true rfl) ?_
  refine i_aload 3 511 hF dL_law_510 rfl rfl rfl ?_
  refine i_arg 1 516 hF hb hL hk (by decide) dL_law_511 dL_law_512 dL_law_513 dL_law_514 dL_law_515 rfl (by decide) ?_
  refine i_arg 2 521 hF hb hL hk (by decide) dL_law_516 dL_law_517 dL_law_518 dL_law_519 dL_law_520 rfl (by decide) ?_
  refine i_arg 3 526 hF hb hL hk (by decide) dL_law_521 dL_law_522 dL_law_523 dL_law_524 dL_law_525 rfl (by decide) ?_
  refine l_cM (rest := [.int r]) [.int (xs (kn + 1)), .int (xs (kn + 2)), .int (xs (kn + 3))] 529 hF hX g2 dL_law_526 rfl cwL_64 (c_X5_run mod_M Mr _ _ _) e2 ⟨rfl, rfl, by decide, by decide⟩ rfl rfl (Nat.le_of_ble_eq_true rfl) ?_
  exact i_same 1210 hF dL_law_529 (by decide) (next _ _ h')
theorem law_comes {X : Cx} {G GX GM : Gx} {A : Nat → Prop} {Q : State → Prop} {b L kn : Nat} {xs : Nat → Int32} {Mx Mr : Mm} (hB : LB X G GX GM A b L kn xs) (h : Rel Mx Mr) (next : ∀ Mx' Mr', Rel Mx' Mr' → LW X G GX GM A Q kn b 1210 [] Mx' Mr') : LW X G GX GM A Q kn b 534 [] Mx Mr := by
  obtain ⟨hF, hX, g1, g2, hb, hL, hk⟩ := hB
  obtain ⟨r, Mx', Mr', e1, e2, h'⟩ := call_comes h (xs (kn + 1))
  refine i_aload 2 535 hF dL_law_534 rfl rfl rfl ?_
  refine i_arg 1 540 hF hb hL hk (by decide) dL_law_535 dL_law_536 dL_law_537 dL_law_538 dL_law_539 rfl (by decide) ?_
  refine l_cX (rest := []) [.int (xs (kn + 1))] 543 hF hX g1 dL_law_540 rfl cwL_65 (c_X4_comes top_X Mx _) e1 ⟨rfl, rfl, by decide, by decide⟩ rfl rfl (Nat.le_of_ble_eq_true rfl) ?_
  refine i_aload 3 544 hF dL_law_543 rfl rfl rfl ?_
  refine i_arg 1 549 hF hb hL hk (by decide) dL_law_544 dL_law_545 dL_law_546 dL_law_547 dL_law_548 rfl (by decide) ?_
  refine l_cM (rest := [.int r]) [.int (xs (kn + 1))] 552 hF hX g2 dL_law_549 rfl cwL_68 (c_X5_comes mod_M Mr _) e2 ⟨rfl, rfl, by decide, by decide⟩ rfl rfl (Nat.le_of_ble_eq_true rfl) ?_
  exact i_same 1210 hF dL_law_552 (by decide) (next _ _ h')
theorem law_mistake {X : Cx} {G GX GM : Gx} {A : Nat → Prop} {Q : State → Prop} {b L kn : Nat} {xs : Nat → Int32} {Mx Mr : Mm} (hB : LB X G GX GM A b L kn xs) (h : Rel Mx Mr) (next : ∀ Mx' Mr', Rel Mx' Mr' → LW X G GX GM A Q kn b 1210 [] Mx' Mr') : LW X G GX GM A Q kn b 557 [] Mx Mr := by
  obtain ⟨hF, hX, g1, g2, hb, hL, hk⟩ := hB
  obtain ⟨r, Mx', Mr', e1, e2, h'⟩ := call_mistake h (xs (kn + 1)) (xs (kn + 2))
  refine i_aload 2 558 hF dL_law_557 rfl rfl rfl ?_
  refine i_arg 1 563 hF hb hL hk (by decide) dL_law_558 dL_law_559 dL_law_560 dL_law_561 dL_law_562 rfl (by decide) ?_
  refine i_arg 2 568 hF hb hL hk (by decide) dL_law_563 dL_law_564 dL_law_565 dL_law_566 dL_law_567 rfl (by decide) ?_
  refine l_cX (rest := []) [.int (xs (kn + 1)), .int (xs (kn + 2))] 571 hF hX g1 dL_law_568 rfl cwL_69 (c_X4_mistake top_X Mx _ _) e1 ⟨rfl, rfl, by decide, by decide⟩ rfl rfl (Nat.le_of_ble_eq_true rfl) ?_
  refine i_aload 3 572 hF dL_law_571 rfl rfl rfl ?_
  refine i_arg 1 577 hF hb hL hk (by decide) dL_law_572 dL_law_573 dL_law_574 dL_law_575 dL_law_576 rfl (by decide) ?_
  refine i_arg 2 582 hF hb hL hk (by decide) dL_law_577 dL_law_578 dL_law_579 dL_law_580 dL_law_581 rfl (by decide) ?_
  refine l_cM (rest := [.int r]) [.int (xs (kn + 1)), .int (xs (kn + 2))] 585 hF hX g2 dL_law_582 rfl cwL_72 (c_X5_mistake mod_M Mr _ _) e2 ⟨rfl, rfl, by decide, by decide⟩ rfl rfl (Nat.le_of_ble_eq_true rfl) ?_
  exact i_same 1210 hF dL_law_585 (by decide) (next _ _ h')
theorem law_live {X : Cx} {G GX GM : Gx} {A : Nat → Prop} {Q : State → Prop} {b L kn : Nat} {xs : Nat → Int32} {Mx Mr : Mm} (hB : LB X G GX GM A b L kn xs) (h : Rel Mx Mr) (next : ∀ Mx' Mr', Rel Mx' Mr' → LW X G GX GM A Q kn b 1210 [] Mx' Mr') : LW X G GX GM A Q kn b 590 [] Mx Mr := by
  obtain ⟨hF, hX, g1, g2, hb, hL, hk⟩ := hB
  obtain ⟨r, Mx', Mr', e1, e2, h'⟩ := call_live h (xs (kn + 1)) (xs (kn + 2))
  refine i_aload 2 591 hF dL_law_590 rfl rfl rfl ?_
  refine i_arg 1 596 hF hb hL hk (by decide) dL_law_591 dL_law_592 dL_law_593 dL_law_594 dL_law_595 rfl (by decide) ?_
  refine i_arg 2 601 hF hb hL hk (by decide) dL_law_596 dL_law_597 dL_law_598 dL_law_599 dL_law_600 rfl (by decide) ?_
  refine l_cX (rest := []) [.int (xs (kn + 1)), .int (xs (kn + 2))] 604 hF hX g1 dL_law_601 rfl cwL_73 (c_X4_live top_X Mx _ _) e1 ⟨rfl, rfl, by decide, by decide⟩ rfl rfl (Nat.le_of_ble_eq_true rfl) ?_
  refine i_aload 3 605 hF dL_law_604 rfl rfl rfl ?_
  refine i_arg 1 610 hF hb hL hk (by decide) dL_law_605 dL_law_606 dL_law_607 dL_law_608 dL_law_609 rfl (by decide) ?_
  refine i_arg 2 615 hF hb hL hk (by decide) dL_law_610 dL_law_611 dL_law_612 dL_law_613 dL_law_614 rfl (by decide) ?_
  refine l_cM (rest := [.int r]) [.int (xs (kn + 1)), .int (xs (kn + 2))] 618 hF hX g2 dL_law_615 rfl cwL_76 (c_X5_live mod_M Mr _ _) e2 ⟨rfl, rfl, by decide, by decide⟩ rfl rfl (Nat.le_of_ble_eq_true rfl) ?_
  exact i_same 1210 hF dL_law_618 (by decide) (next _ _ h')
theorem law_hide {X : Cx} {G GX GM : Gx} {A : Nat → Prop} {Q : State → Prop} {b L kn : Nat} {xs : Nat → Int32} {Mx Mr : Mm} (hB : LB X G GX GM A b L kn xs) (h : Rel Mx Mr) (next : ∀ Mx' Mr', Rel Mx' Mr' → LW X G GX GM A Q kn b 1210 [] Mx' Mr') : LW X G GX GM A Q kn b 623 [] Mx Mr := by
  obtain ⟨hF, hX, g1, g2, hb, hL, hk⟩ := hB
  obtain ⟨r, Mx', Mr', e1, e2, h'⟩ := call_hide h (xs (kn + 1)) (xs (kn + 2)) (xs (kn + 3)) (xs (kn + 4))
  refine i_aload 2 624 hF dL_law_623 rfl rfl rfl ?_
  refine i_arg 1 629 hF hb hL hk (by decide) dL_law_624 dL_law_625 dL_law_626 dL_law_627 dL_law_628 rfl (by decide) ?_
  refine i_arg 2 634 hF hb hL hk (by decide) dL_law_629 dL_law_630 dL_law_631 dL_law_632 dL_law_633 rfl (by decide) ?_
  refine i_arg 3 639 hF hb hL hk (by decide) dL_law_634 dL_law_635 dL_law_636 dL_law_637 dL_law_638 rfl (by decide) ?_
  refine i_arg 4 644 hF hb hL hk (by decide) dL_law_639 dL_law_640 dL_law_641 dL_law_642 dL_law_643 rfl (by decide) ?_
  refine l_cX (rest := []) [.int (xs (kn + 1)), .int (xs (kn + 2)), .int (xs (kn + 3)), .int (xs (kn + 4))] 647 hF hX g1 dL_law_644 rfl cwL_77 (c_X4_hide top_X Mx _ _ _ _) e1 ⟨rfl, rfl, by decide, by decide⟩ rfl rfl (Nat.le_of_ble_eq_true rfl) ?_
  refine i_aload 3 648 hF dL_law_647 rfl rfl rfl ?_
  refine i_arg 1 653 hF hb hL hk (by decide) dL_law_648 dL_law_649 dL_law_650 dL_law_651 dL_law_652 rfl (by decide) ?_
  refine i_arg 2 658 hF hb hL hk (by decide) dL_law_653 dL_law_654 dL_law_655 dL_law_656 dL_law_657 rfl (by decide) ?_
  refine i_arg 3 663 hF hb hL hk (by decide) dL_law_658 dL_law_659 dL_law_660 dL_law_661 dL_law_662 rfl (by decide) ?_
  refine i_arg 4 668 hF hb hL hk (by decide) dL_law_663 dL_law_664 dL_law_665 dL_law_666 dL_law_667 rfl (by decide) ?_
  refine l_cM (rest := [.int r]) [.int (xs (kn + 1)), .int (xs (kn + 2)), .int (xs (kn + 3)), .int (xs (kn + 4))] 671 hF hX g2 dL_law_668 rfl cwL_81 (c_X5_hide mod_M Mr _ _ _ _) e2 ⟨rfl, rfl, by decide, by decide⟩ rfl rfl (Nat.le_of_ble_eq_true rfl) ?_
  exact i_same 1210 hF dL_law_671 (by decide) (next _ _ h')
theorem law_tell {X : Cx} {G GX GM : Gx} {A : Nat → Prop} {Q : State → Prop} {b L kn : Nat} {xs : Nat → Int32} {Mx Mr : Mm} (hB : LB X G GX GM A b L kn xs) (h : Rel Mx Mr) (next : ∀ Mx' Mr', Rel Mx' Mr' → LW X G GX GM A Q kn b 1210 [] Mx' Mr') : LW X G GX GM A Q kn b 676 [] Mx Mr := by
  obtain ⟨hF, hX, g1, g2, hb, hL, hk⟩ := hB
  obtain ⟨r, Mx', Mr', e1, e2, h'⟩ := call_tell h (xs (kn + 1)) (xs (kn + 2)) (xs (kn + 3))
  refine i_aload 2 677 hF dL_law_676 rfl rfl rfl ?_
  refine i_arg 1 682 hF hb hL hk (by decide) dL_law_677 dL_law_678 dL_law_679 dL_law_680 dL_law_681 rfl (by decide) ?_
  refine i_arg 2 687 hF hb hL hk (by decide) dL_law_682 dL_law_683 dL_law_684 dL_law_685 dL_law_686 rfl (by decide) ?_
  refine i_arg 3 692 hF hb hL hk (by decide) dL_law_687 dL_law_688 dL_law_689 dL_law_690 dL_law_691 rfl (by decide) ?_
  refine l_cX (rest := []) [.int (xs (kn + 1)), .int (xs (kn + 2)), .int (xs (kn + 3))] 695 hF hX g1 dL_law_692 rfl cwL_82 (c_X4_tell top_X Mx _ _ _) e1 ⟨rfl, rfl, by decide, by decide⟩ rfl rfl (Nat.le_of_ble_eq_true rfl) ?_
  refine i_aload 3 696 hF dL_law_695 rfl rfl rfl ?_
  refine i_arg 1 701 hF hb hL hk (by decide) dL_law_696 dL_law_697 dL_law_698 dL_law_699 dL_law_700 rfl (by decide) ?_
  refine i_arg 2 706 hF hb hL hk (by decide) dL_law_701 dL_law_702 dL_law_703 dL_law_704 dL_law_705 rfl (by decide) ?_
  refine i_arg 3 711 hF hb hL hk (by decide) dL_law_706 dL_law_707 dL_law_708 dL_law_709 dL_law_710 rfl (by decide) ?_
  refine l_cM (rest := [.int r]) [.int (xs (kn + 1)), .int (xs (kn + 2)), .int (xs (kn + 3))] 714 hF hX g2 dL_law_711 rfl cwL_85 (c_X5_tell mod_M Mr _ _ _) e2 ⟨rfl, rfl, by decide, by decide⟩ rfl rfl (Nat.le_of_ble_eq_true rfl) ?_
  exact i_same 1210 hF dL_law_714 (by decide) (next _ _ h')
theorem law_mean {X : Cx} {G GX GM : Gx} {A : Nat → Prop} {Q : State → Prop} {b L kn : Nat} {xs : Nat → Int32} {Mx Mr : Mm} (hB : LB X G GX GM A b L kn xs) (h : Rel Mx Mr) (next : ∀ Mx' Mr', Rel Mx' Mr' → LW X G GX GM A Q kn b 1210 [] Mx' Mr') : LW X G GX GM A Q kn b 719 [] Mx Mr := by
  obtain ⟨hF, hX, g1, g2, hb, hL, hk⟩ := hB
  obtain ⟨r, Mx', Mr', e1, e2, h'⟩ := call_mean h (xs (kn + 1))
  refine i_aload 2 720 hF dL_law_719 rfl rfl rfl ?_
  refine i_arg 1 725 hF hb hL hk (by decide) dL_law_720 dL_law_721 dL_law_722 dL_law_723 dL_law_724 rfl (by decide) ?_
  refine l_cX (rest := []) [.int (xs (kn + 1))] 728 hF hX g1 dL_law_725 rfl cwL_86 (c_X4_mean top_X Mx _) e1 ⟨rfl, rfl, by decide, by decide⟩ rfl rfl (Nat.le_of_ble_eq_true rfl) ?_
  refine i_aload 3 729 hF dL_law_728 rfl rfl rfl ?_
  refine i_arg 1 734 hF hb hL hk (by decide) dL_law_729 dL_law_730 dL_law_731 dL_law_732 dL_law_733 rfl (by decide) ?_
  refine l_cM (rest := [.long r]) [.int (xs (kn + 1))] 737 hF hX g2 dL_law_734 rfl cwL_90 (c_X5_mean mod_M Mr _) e2 ⟨rfl, rfl, by decide, by decide⟩ rfl rfl (Nat.le_of_ble_eq_true rfl) ?_
  exact i_sameJ 738 1210 hF dL_law_737 rfl dL_law_738 (by decide) (next _ _ h')
theorem law_tells {X : Cx} {G GX GM : Gx} {A : Nat → Prop} {Q : State → Prop} {b L kn : Nat} {xs : Nat → Int32} {Mx Mr : Mm} (hB : LB X G GX GM A b L kn xs) (h : Rel Mx Mr) (next : ∀ Mx' Mr', Rel Mx' Mr' → LW X G GX GM A Q kn b 1210 [] Mx' Mr') : LW X G GX GM A Q kn b 743 [] Mx Mr := by
  obtain ⟨hF, hX, g1, g2, hb, hL, hk⟩ := hB
  obtain ⟨r, Mx', Mr', e1, e2, h'⟩ := call_tells h (xs (kn + 1)) (xs (kn + 2)) (xs (kn + 3)) (xs (kn + 4))
  refine i_aload 2 744 hF dL_law_743 rfl rfl rfl ?_
  refine i_arg 1 749 hF hb hL hk (by decide) dL_law_744 dL_law_745 dL_law_746 dL_law_747 dL_law_748 rfl (by decide) ?_
  refine i_arg 2 754 hF hb hL hk (by decide) dL_law_749 dL_law_750 dL_law_751 dL_law_752 dL_law_753 rfl (by decide) ?_
  refine i_arg 3 759 hF hb hL hk (by decide) dL_law_754 dL_law_755 dL_law_756 dL_law_757 dL_law_758 rfl (by decide) ?_
  refine i_arg 4 764 hF hb hL hk (by decide) dL_law_759 dL_law_760 dL_law_761 dL_law_762 dL_law_763 rfl (by decide) ?_
  refine l_cX (rest := []) [.int (xs (kn + 1)), .int (xs (kn + 2)), .int (xs (kn + 3)), .int (xs (kn + 4))] 767 hF hX g1 dL_law_764 rfl cwL_91 (c_X4_tells top_X Mx _ _ _ _) e1 ⟨rfl, rfl, by decide, by decide⟩ rfl rfl (Nat.le_of_ble_eq_true rfl) ?_
  refine i_aload 3 768 hF dL_law_767 rfl rfl rfl ?_
  refine i_arg 1 773 hF hb hL hk (by decide) dL_law_768 dL_law_769 dL_law_770 dL_law_771 dL_law_772 rfl (by decide) ?_
  refine i_arg 2 778 hF hb hL hk (by decide) dL_law_773 dL_law_774 dL_law_775 dL_law_776 dL_law_777 rfl (by decide) ?_
  refine i_arg 3 783 hF hb hL hk (by decide) dL_law_778 dL_law_779 dL_law_780 dL_law_781 dL_law_782 rfl (by decide) ?_
  refine i_arg 4 788 hF hb hL hk (by decide) dL_law_783 dL_law_784 dL_law_785 dL_law_786 dL_law_787 rfl (by decide) ?_
  refine l_cM (rest := [.int r]) [.int (xs (kn + 1)), .int (xs (kn + 2)), .int (xs (kn + 3)), .int (xs (kn + 4))] 791 hF hX g2 dL_law_788 rfl cwL_94 (c_X5_tells mod_M Mr _ _ _ _) e2 ⟨rfl, rfl, by decide, by decide⟩ rfl rfl (Nat.le_of_ble_eq_true rfl) ?_
  exact i_same 1210 hF dL_law_791 (by decide) (next _ _ h')
theorem law_film {X : Cx} {G GX GM : Gx} {A : Nat → Prop} {Q : State → Prop} {b L kn : Nat} {xs : Nat → Int32} {Mx Mr : Mm} (hB : LB X G GX GM A b L kn xs) (h : Rel Mx Mr) (next : ∀ Mx' Mr', Rel Mx' Mr' → LW X G GX GM A Q kn b 1210 [] Mx' Mr') : LW X G GX GM A Q kn b 796 [] Mx Mr := by
  obtain ⟨hF, hX, g1, g2, hb, hL, hk⟩ := hB
  obtain ⟨r, Mx', Mr', e1, e2, h'⟩ := call_film h (xs (kn + 1)) (xs (kn + 2)) (xs (kn + 3))
  refine i_aload 2 797 hF dL_law_796 rfl rfl rfl ?_
  refine i_arg 1 802 hF hb hL hk (by decide) dL_law_797 dL_law_798 dL_law_799 dL_law_800 dL_law_801 rfl (by decide) ?_
  refine i_arg 2 807 hF hb hL hk (by decide) dL_law_802 dL_law_803 dL_law_804 dL_law_805 dL_law_806 rfl (by decide) ?_
  refine i_arg 3 812 hF hb hL hk (by decide) dL_law_807 dL_law_808 dL_law_809 dL_law_810 dL_law_811 rfl (by decide) ?_
  refine l_cX (rest := []) [.int (xs (kn + 1)), .int (xs (kn + 2)), .int (xs (kn + 3))] 815 hF hX g1 dL_law_812 rfl cwL_95 (c_X4_film top_X Mx _ _ _) e1 ⟨rfl, rfl, by decide, by decide⟩ rfl rfl (Nat.le_of_ble_eq_true rfl) ?_
  refine i_aload 3 816 hF dL_law_815 rfl rfl rfl ?_
  refine i_arg 1 821 hF hb hL hk (by decide) dL_law_816 dL_law_817 dL_law_818 dL_law_819 dL_law_820 rfl (by decide) ?_
  refine i_arg 2 826 hF hb hL hk (by decide) dL_law_821 dL_law_822 dL_law_823 dL_law_824 dL_law_825 rfl (by decide) ?_
  refine i_arg 3 831 hF hb hL hk (by decide) dL_law_826 dL_law_827 dL_law_828 dL_law_829 dL_law_830 rfl (by decide) ?_
  refine l_cM (rest := [.int r]) [.int (xs (kn + 1)), .int (xs (kn + 2)), .int (xs (kn + 3))] 834 hF hX g2 dL_law_831 rfl cwL_98 (c_X5_film mod_M Mr _ _ _) e2 ⟨rfl, rfl, by decide, by decide⟩ rfl rfl (Nat.le_of_ble_eq_true rfl) ?_
  exact i_same 1210 hF dL_law_834 (by decide) (next _ _ h')
theorem law_drawn {X : Cx} {G GX GM : Gx} {A : Nat → Prop} {Q : State → Prop} {b L kn : Nat} {xs : Nat → Int32} {Mx Mr : Mm} (hB : LB X G GX GM A b L kn xs) (h : Rel Mx Mr) (next : ∀ Mx' Mr', Rel Mx' Mr' → LW X G GX GM A Q kn b 1210 [] Mx' Mr') : LW X G GX GM A Q kn b 839 [] Mx Mr := by
  obtain ⟨hF, hX, g1, g2, hb, hL, hk⟩ := hB
  obtain ⟨r, Mx', Mr', e1, e2, h'⟩ := call_drawn h (xs (kn + 1)) (xs (kn + 2))
  refine i_aload 2 840 hF dL_law_839 rfl rfl rfl ?_
  refine i_arg 1 845 hF hb hL hk (by decide) dL_law_840 dL_law_841 dL_law_842 dL_law_843 dL_law_844 rfl (by decide) ?_
  refine i_arg 2 850 hF hb hL hk (by decide) dL_law_845 dL_law_846 dL_law_847 dL_law_848 dL_law_849 rfl (by decide) ?_
  refine l_cX (rest := []) [.int (xs (kn + 1)), .int (xs (kn + 2))] 853 hF hX g1 dL_law_850 rfl cwL_99 (c_X4_drawn top_X Mx _ _) e1 ⟨rfl, rfl, by decide, by decide⟩ rfl rfl (Nat.le_of_ble_eq_true rfl) ?_
  refine i_aload 3 854 hF dL_law_853 rfl rfl rfl ?_
  refine i_arg 1 859 hF hb hL hk (by decide) dL_law_854 dL_law_855 dL_law_856 dL_law_857 dL_law_858 rfl (by decide) ?_
  refine i_arg 2 864 hF hb hL hk (by decide) dL_law_859 dL_law_860 dL_law_861 dL_law_862 dL_law_863 rfl (by decide) ?_
  refine l_cM (rest := [.int r]) [.int (xs (kn + 1)), .int (xs (kn + 2))] 867 hF hX g2 dL_law_864 rfl cwL_102 (c_X5_drawn mod_M Mr _ _) e2 ⟨rfl, rfl, by decide, by decide⟩ rfl rfl (Nat.le_of_ble_eq_true rfl) ?_
  exact i_same 1210 hF dL_law_867 (by decide) (next _ _ h')
theorem law_chance {X : Cx} {G GX GM : Gx} {A : Nat → Prop} {Q : State → Prop} {b L kn : Nat} {xs : Nat → Int32} {Mx Mr : Mm} (hB : LB X G GX GM A b L kn xs) (h : Rel Mx Mr) (next : ∀ Mx' Mr', Rel Mx' Mr' → LW X G GX GM A Q kn b 1210 [] Mx' Mr') : LW X G GX GM A Q kn b 872 [] Mx Mr := by
  obtain ⟨hF, hX, g1, g2, hb, hL, hk⟩ := hB
  obtain ⟨r, Mx', Mr', e1, e2, h'⟩ := call_chance h (xs (kn + 1)) (xs (kn + 2)) (xs (kn + 3)) (xs (kn + 4))
  refine i_aload 2 873 hF dL_law_872 rfl rfl rfl ?_
  refine i_arg 1 878 hF hb hL hk (by decide) dL_law_873 dL_law_874 dL_law_875 dL_law_876 dL_law_877 rfl (by decide) ?_
  refine i_arg 2 883 hF hb hL hk (by decide) dL_law_878 dL_law_879 dL_law_880 dL_law_881 dL_law_882 rfl (by decide) ?_
  refine i_arg 3 888 hF hb hL hk (by decide) dL_law_883 dL_law_884 dL_law_885 dL_law_886 dL_law_887 rfl (by decide) ?_
  refine i_arg 4 893 hF hb hL hk (by decide) dL_law_888 dL_law_889 dL_law_890 dL_law_891 dL_law_892 rfl (by decide) ?_
  refine l_cX (rest := []) [.int (xs (kn + 1)), .int (xs (kn + 2)), .int (xs (kn + 3)), .int (xs (kn + 4))] 896 hF hX g1 dL_law_893 rfl cwL_103 (c_X4_chance top_X Mx _ _ _ _) e1 ⟨rfl, rfl, by decide, by decide⟩ rfl rfl (Nat.le_of_ble_eq_true rfl) ?_
  refine i_aload 3 897 hF dL_law_896 rfl rfl rfl ?_
  refine i_arg 1 902 hF hb hL hk (by decide) dL_law_897 dL_law_898 dL_law_899 dL_law_900 dL_law_901 rfl (by decide) ?_
  refine i_arg 2 907 hF hb hL hk (by decide) dL_law_902 dL_law_903 dL_law_904 dL_law_905 dL_law_906 rfl (by decide) ?_
  refine i_arg 3 912 hF hb hL hk (by decide) dL_law_907 dL_law_908 dL_law_909 dL_law_910 dL_law_911 rfl (by decide) ?_
  refine i_arg 4 917 hF hb hL hk (by decide) dL_law_912 dL_law_913 dL_law_914 dL_law_915 dL_law_916 rfl (by decide) ?_
  refine l_cM (rest := [.long r]) [.int (xs (kn + 1)), .int (xs (kn + 2)), .int (xs (kn + 3)), .int (xs (kn + 4))] 920 hF hX g2 dL_law_917 rfl cwL_107 (c_X5_chance mod_M Mr _ _ _ _) e2 ⟨rfl, rfl, by decide, by decide⟩ rfl rfl (Nat.le_of_ble_eq_true rfl) ?_
  exact i_sameJ 921 1210 hF dL_law_920 rfl dL_law_921 (by decide) (next _ _ h')
theorem law_image {X : Cx} {G GX GM : Gx} {A : Nat → Prop} {Q : State → Prop} {b L kn : Nat} {xs : Nat → Int32} {Mx Mr : Mm} (hB : LB X G GX GM A b L kn xs) (h : Rel Mx Mr) (next : ∀ Mx' Mr', Rel Mx' Mr' → LW X G GX GM A Q kn b 1210 [] Mx' Mr') : LW X G GX GM A Q kn b 926 [] Mx Mr := by
  obtain ⟨hF, hX, g1, g2, hb, hL, hk⟩ := hB
  obtain ⟨r, Mx', Mr', e1, e2, h'⟩ := call_image h
  refine i_aload 2 927 hF dL_law_926 rfl rfl rfl ?_
  refine l_cX (rest := []) [] 930 hF hX g1 dL_law_927 rfl cwL_108 (c_X4_image top_X Mx) e1 ⟨rfl, rfl, by decide, by decide⟩ rfl rfl (Nat.le_of_ble_eq_true rfl) ?_
  refine i_aload 3 931 hF dL_law_930 rfl rfl rfl ?_
  refine l_cM (rest := [.int r]) [] 934 hF hX g2 dL_law_931 rfl cwL_111 (c_X5_image mod_M Mr) e2 ⟨rfl, rfl, by decide, by decide⟩ rfl rfl (Nat.le_of_ble_eq_true rfl) ?_
  exact i_same 1210 hF dL_law_934 (by decide) (next _ _ h')
theorem law_back {X : Cx} {G GX GM : Gx} {A : Nat → Prop} {Q : State → Prop} {b L kn : Nat} {xs : Nat → Int32} {Mx Mr : Mm} (hB : LB X G GX GM A b L kn xs) (h : Rel Mx Mr) (next : ∀ Mx' Mr', Rel Mx' Mr' → LW X G GX GM A Q kn b 1210 [] Mx' Mr') : LW X G GX GM A Q kn b 939 [] Mx Mr := by
  obtain ⟨hF, hX, g1, g2, hb, hL, hk⟩ := hB
  obtain ⟨r, Mx', Mr', e1, e2, h'⟩ := call_back h
  refine i_aload 2 940 hF dL_law_939 rfl rfl rfl ?_
  refine l_cX (rest := []) [] 943 hF hX g1 dL_law_940 rfl cwL_112 (c_X4_back top_X Mx) e1 ⟨rfl, rfl, by decide, by decide⟩ rfl rfl (Nat.le_of_ble_eq_true rfl) ?_
  refine i_aload 3 944 hF dL_law_943 rfl rfl rfl ?_
  refine l_cM (rest := [.int r]) [] 947 hF hX g2 dL_law_944 rfl cwL_115 (c_X5_back mod_M Mr) e2 ⟨rfl, rfl, by decide, by decide⟩ rfl rfl (Nat.le_of_ble_eq_true rfl) ?_
  exact i_same 1210 hF dL_law_947 (by decide) (next _ _ h')
theorem law_count {X : Cx} {G GX GM : Gx} {A : Nat → Prop} {Q : State → Prop} {b L kn : Nat} {xs : Nat → Int32} {Mx Mr : Mm} (hB : LB X G GX GM A b L kn xs) (h : Rel Mx Mr) (next : ∀ Mx' Mr', Rel Mx' Mr' → LW X G GX GM A Q kn b 1210 [] Mx' Mr') : LW X G GX GM A Q kn b 952 [] Mx Mr := by
  obtain ⟨hF, hX, g1, g2, hb, hL, hk⟩ := hB
  obtain ⟨r, Mx', Mr', e1, e2, h'⟩ := call_count h (xs (kn + 1))
  refine i_aload 2 953 hF dL_law_952 rfl rfl rfl ?_
  refine i_arg 1 958 hF hb hL hk (by decide) dL_law_953 dL_law_954 dL_law_955 dL_law_956 dL_law_957 rfl (by decide) ?_
  refine l_cX (rest := []) [.int (xs (kn + 1))] 961 hF hX g1 dL_law_958 rfl cwL_116 (c_X4_count top_X Mx _) e1 ⟨rfl, rfl, by decide, by decide⟩ rfl rfl (Nat.le_of_ble_eq_true rfl) ?_
  refine i_aload 3 962 hF dL_law_961 rfl rfl rfl ?_
  refine i_arg 1 967 hF hb hL hk (by decide) dL_law_962 dL_law_963 dL_law_964 dL_law_965 dL_law_966 rfl (by decide) ?_
  refine l_cM (rest := [.int r]) [.int (xs (kn + 1))] 970 hF hX g2 dL_law_967 rfl cwL_119 (c_X5_count mod_M Mr _) e2 ⟨rfl, rfl, by decide, by decide⟩ rfl rfl (Nat.le_of_ble_eq_true rfl) ?_
  exact i_same 1210 hF dL_law_970 (by decide) (next _ _ h')
theorem law_sheet {X : Cx} {G GX GM : Gx} {A : Nat → Prop} {Q : State → Prop} {b L kn : Nat} {xs : Nat → Int32} {Mx Mr : Mm} (hB : LB X G GX GM A b L kn xs) (h : Rel Mx Mr) (next : ∀ Mx' Mr', Rel Mx' Mr' → LW X G GX GM A Q kn b 1210 [] Mx' Mr') : LW X G GX GM A Q kn b 975 [] Mx Mr := by
  obtain ⟨hF, hX, g1, g2, hb, hL, hk⟩ := hB
  obtain ⟨r, Mx', Mr', e1, e2, h'⟩ := call_sheet h (xs (kn + 1)) (xs (kn + 2)) (xs (kn + 3))
  refine i_aload 2 976 hF dL_law_975 rfl rfl rfl ?_
  refine i_arg 1 981 hF hb hL hk (by decide) dL_law_976 dL_law_977 dL_law_978 dL_law_979 dL_law_980 rfl (by decide) ?_
  refine i_arg 2 986 hF hb hL hk (by decide) dL_law_981 dL_law_982 dL_law_983 dL_law_984 dL_law_985 rfl (by decide) ?_
  refine i_arg 3 991 hF hb hL hk (by decide) dL_law_986 dL_law_987 dL_law_988 dL_law_989 dL_law_990 rfl (by decide) ?_
  refine l_cX (rest := []) [.int (xs (kn + 1)), .int (xs (kn + 2)), .int (xs (kn + 3))] 994 hF hX g1 dL_law_991 rfl cwL_120 (c_X4_sheet top_X Mx _ _ _) e1 ⟨rfl, rfl, by decide, by decide⟩ rfl rfl (Nat.le_of_ble_eq_true rfl) ?_
  refine i_aload 3 995 hF dL_law_994 rfl rfl rfl ?_
  refine i_arg 1 1000 hF hb hL hk (by decide) dL_law_995 dL_law_996 dL_law_997 dL_law_998 dL_law_999 rfl (by decide) ?_
  refine i_arg 2 1005 hF hb hL hk (by decide) dL_law_1000 dL_law_1001 dL_law_1002 dL_law_1003 dL_law_1004 rfl (by decide) ?_
  refine i_arg 3 1010 hF hb hL hk (by decide) dL_law_1005 dL_law_1006 dL_law_1007 dL_law_1008 dL_law_1009 rfl (by decide) ?_
  refine l_cM (rest := [.int r]) [.int (xs (kn + 1)), .int (xs (kn + 2)), .int (xs (kn + 3))] 1013 hF hX g2 dL_law_1010 rfl cwL_123 (c_X5_sheet mod_M Mr _ _ _) e2 ⟨rfl, rfl, by decide, by decide⟩ rfl rfl (Nat.le_of_ble_eq_true rfl) ?_
  exact i_same 1210 hF dL_law_1013 (by decide) (next _ _ h')
theorem law_cell {X : Cx} {G GX GM : Gx} {A : Nat → Prop} {Q : State → Prop} {b L kn : Nat} {xs : Nat → Int32} {Mx Mr : Mm} (hB : LB X G GX GM A b L kn xs) (h : Rel Mx Mr) (next : ∀ Mx' Mr', Rel Mx' Mr' → LW X G GX GM A Q kn b 1210 [] Mx' Mr') : LW X G GX GM A Q kn b 1018 [] Mx Mr := by
  obtain ⟨hF, hX, g1, g2, hb, hL, hk⟩ := hB
  obtain ⟨r, Mx', Mr', e1, e2, h'⟩ := call_cell h (xs (kn + 1)) (xs (kn + 2)) (xs (kn + 3))
  refine i_aload 2 1019 hF dL_law_1018 rfl rfl rfl ?_
  refine i_arg 1 1024 hF hb hL hk (by decide) dL_law_1019 dL_law_1020 dL_law_1021 dL_law_1022 dL_law_1023 rfl (by decide) ?_
  refine i_arg 2 1029 hF hb hL hk (by decide) dL_law_1024 dL_law_1025 dL_law_1026 dL_law_1027 dL_law_1028 rfl (by decide) ?_
  refine i_arg 3 1034 hF hb hL hk (by decide) dL_law_1029 dL_law_1030 dL_law_1031 dL_law_1032 dL_law_1033 rfl (by decide) ?_
  refine l_cX (rest := []) [.int (xs (kn + 1)), .int (xs (kn + 2)), .int (xs (kn + 3))] 1037 hF hX g1 dL_law_1034 rfl cwL_124 (c_X4_cell top_X Mx _ _ _) e1 ⟨rfl, rfl, by decide, by decide⟩ rfl rfl (Nat.le_of_ble_eq_true rfl) ?_
  refine i_aload 3 1038 hF dL_law_1037 rfl rfl rfl ?_
  refine i_arg 1 1043 hF hb hL hk (by decide) dL_law_1038 dL_law_1039 dL_law_1040 dL_law_1041 dL_law_1042 rfl (by decide) ?_
  refine i_arg 2 1048 hF hb hL hk (by decide) dL_law_1043 dL_law_1044 dL_law_1045 dL_law_1046 dL_law_1047 rfl (by decide) ?_
  refine i_arg 3 1053 hF hb hL hk (by decide) dL_law_1048 dL_law_1049 dL_law_1050 dL_law_1051 dL_law_1052 rfl (by decide) ?_
  refine l_cM (rest := [.int r]) [.int (xs (kn + 1)), .int (xs (kn + 2)), .int (xs (kn + 3))] 1056 hF hX g2 dL_law_1053 rfl cwL_127 (c_X5_cell mod_M Mr _ _ _) e2 ⟨rfl, rfl, by decide, by decide⟩ rfl rfl (Nat.le_of_ble_eq_true rfl) ?_
  exact i_same 1210 hF dL_law_1056 (by decide) (next _ _ h')
theorem law_copy {X : Cx} {G GX GM : Gx} {A : Nat → Prop} {Q : State → Prop} {b L kn : Nat} {xs : Nat → Int32} {Mx Mr : Mm} (hB : LB X G GX GM A b L kn xs) (h : Rel Mx Mr) (next : ∀ Mx' Mr', Rel Mx' Mr' → LW X G GX GM A Q kn b 1210 [] Mx' Mr') : LW X G GX GM A Q kn b 1061 [] Mx Mr := by
  obtain ⟨hF, hX, g1, g2, hb, hL, hk⟩ := hB
  obtain ⟨r, Mx', Mr', e1, e2, h'⟩ := call_copy h (xs (kn + 1)) (xs (kn + 2)) (xs (kn + 3)) (xs (kn + 4)) (xs (kn + 5))
  refine i_aload 2 1062 hF dL_law_1061 rfl rfl rfl ?_
  refine i_arg 1 1067 hF hb hL hk (by decide) dL_law_1062 dL_law_1063 dL_law_1064 dL_law_1065 dL_law_1066 rfl (by decide) ?_
  refine i_arg 2 1072 hF hb hL hk (by decide) dL_law_1067 dL_law_1068 dL_law_1069 dL_law_1070 dL_law_1071 rfl (by decide) ?_
  refine i_arg 3 1077 hF hb hL hk (by decide) dL_law_1072 dL_law_1073 dL_law_1074 dL_law_1075 dL_law_1076 rfl (by decide) ?_
  refine i_arg 4 1082 hF hb hL hk (by decide) dL_law_1077 dL_law_1078 dL_law_1079 dL_law_1080 dL_law_1081 rfl (by decide) ?_
  refine i_arg 5 1087 hF hb hL hk (by decide) dL_law_1082 dL_law_1083 dL_law_1084 dL_law_1085 dL_law_1086 rfl (by decide) ?_
  refine l_cX (rest := []) [.int (xs (kn + 1)), .int (xs (kn + 2)), .int (xs (kn + 3)), .int (xs (kn + 4)), .int (xs (kn + 5))] 1090 hF hX g1 dL_law_1087 rfl cwL_128 (c_X4_copy top_X Mx _ _ _ _ _) e1 ⟨rfl, rfl, by decide, by decide⟩ rfl rfl (Nat.le_of_ble_eq_true rfl) ?_
  refine i_aload 3 1091 hF dL_law_1090 rfl rfl rfl ?_
  refine i_arg 1 1096 hF hb hL hk (by decide) dL_law_1091 dL_law_1092 dL_law_1093 dL_law_1094 dL_law_1095 rfl (by decide) ?_
  refine i_arg 2 1101 hF hb hL hk (by decide) dL_law_1096 dL_law_1097 dL_law_1098 dL_law_1099 dL_law_1100 rfl (by decide) ?_
  refine i_arg 3 1106 hF hb hL hk (by decide) dL_law_1101 dL_law_1102 dL_law_1103 dL_law_1104 dL_law_1105 rfl (by decide) ?_
  refine i_arg 4 1111 hF hb hL hk (by decide) dL_law_1106 dL_law_1107 dL_law_1108 dL_law_1109 dL_law_1110 rfl (by decide) ?_
  refine i_arg 5 1116 hF hb hL hk (by decide) dL_law_1111 dL_law_1112 dL_law_1113 dL_law_1114 dL_law_1115 rfl (by decide) ?_
  refine l_cM (rest := [.int r]) [.int (xs (kn + 1)), .int (xs (kn + 2)), .int (xs (kn + 3)), .int (xs (kn + 4)), .int (xs (kn + 5))] 1119 hF hX g2 dL_law_1116 rfl cwL_132 (c_X5_copy mod_M Mr _ _ _ _ _) e2 ⟨rfl, rfl, by decide, by decide⟩ rfl rfl (Nat.le_of_ble_eq_true rfl) ?_
  exact i_same 1210 hF dL_law_1119 (by decide) (next _ _ h')
theorem law_hill {X : Cx} {G GX GM : Gx} {A : Nat → Prop} {Q : State → Prop} {b L kn : Nat} {xs : Nat → Int32} {Mx Mr : Mm} (hB : LB X G GX GM A b L kn xs) (h : Rel Mx Mr) (next : ∀ Mx' Mr', Rel Mx' Mr' → LW X G GX GM A Q kn b 1210 [] Mx' Mr') : LW X G GX GM A Q kn b 1124 [] Mx Mr := by
  obtain ⟨hF, hX, g1, g2, hb, hL, hk⟩ := hB
  obtain ⟨r, Mx', Mr', e1, e2, h'⟩ := call_hill h (xs (kn + 1)) (xs (kn + 2)) (xs (kn + 3)) (xs (kn + 4))
  refine i_aload 2 1125 hF dL_law_1124 rfl rfl rfl ?_
  refine i_arg 1 1130 hF hb hL hk (by decide) dL_law_1125 dL_law_1126 dL_law_1127 dL_law_1128 dL_law_1129 rfl (by decide) ?_
  refine i_arg 2 1135 hF hb hL hk (by decide) dL_law_1130 dL_law_1131 dL_law_1132 dL_law_1133 dL_law_1134 rfl (by decide) ?_
  refine i_arg 3 1140 hF hb hL hk (by decide) dL_law_1135 dL_law_1136 dL_law_1137 dL_law_1138 dL_law_1139 rfl (by decide) ?_
  refine i_arg 4 1145 hF hb hL hk (by decide) dL_law_1140 dL_law_1141 dL_law_1142 dL_law_1143 dL_law_1144 rfl (by decide) ?_
  refine l_cX (rest := []) [.int (xs (kn + 1)), .int (xs (kn + 2)), .int (xs (kn + 3)), .int (xs (kn + 4))] 1148 hF hX g1 dL_law_1145 rfl cwL_133 (c_X4_hill top_X Mx _ _ _ _) e1 ⟨rfl, rfl, by decide, by decide⟩ rfl rfl (Nat.le_of_ble_eq_true rfl) ?_
  refine i_aload 3 1149 hF dL_law_1148 rfl rfl rfl ?_
  refine i_arg 1 1154 hF hb hL hk (by decide) dL_law_1149 dL_law_1150 dL_law_1151 dL_law_1152 dL_law_1153 rfl (by decide) ?_
  refine i_arg 2 1159 hF hb hL hk (by decide) dL_law_1154 dL_law_1155 dL_law_1156 dL_law_1157 dL_law_1158 rfl (by decide) ?_
  refine i_arg 3 1164 hF hb hL hk (by decide) dL_law_1159 dL_law_1160 dL_law_1161 dL_law_1162 dL_law_1163 rfl (by decide) ?_
  refine i_arg 4 1169 hF hb hL hk (by decide) dL_law_1164 dL_law_1165 dL_law_1166 dL_law_1167 dL_law_1168 rfl (by decide) ?_
  refine l_cM (rest := [.int r]) [.int (xs (kn + 1)), .int (xs (kn + 2)), .int (xs (kn + 3)), .int (xs (kn + 4))] 1172 hF hX g2 dL_law_1169 rfl cwL_136 (c_X5_hill mod_M Mr _ _ _ _) e2 ⟨rfl, rfl, by decide, by decide⟩ rfl rfl (Nat.le_of_ble_eq_true rfl) ?_
  exact i_same 1210 hF dL_law_1172 (by decide) (next _ _ h')
theorem law_taken {X : Cx} {G GX GM : Gx} {A : Nat → Prop} {Q : State → Prop} {b L kn : Nat} {xs : Nat → Int32} {Mx Mr : Mm} (hB : LB X G GX GM A b L kn xs) (h : Rel Mx Mr) (next : ∀ Mx' Mr', Rel Mx' Mr' → LW X G GX GM A Q kn b 1210 [] Mx' Mr') : LW X G GX GM A Q kn b 1177 [] Mx Mr := by
  obtain ⟨hF, hX, g1, g2, hb, hL, hk⟩ := hB
  obtain ⟨r, Mx', Mr', e1, e2, h'⟩ := call_taken h (xs (kn + 1)) (xs (kn + 2))
  refine i_aload 2 1178 hF dL_law_1177 rfl rfl rfl ?_
  refine i_arg 1 1183 hF hb hL hk (by decide) dL_law_1178 dL_law_1179 dL_law_1180 dL_law_1181 dL_law_1182 rfl (by decide) ?_
  refine i_arg 2 1188 hF hb hL hk (by decide) dL_law_1183 dL_law_1184 dL_law_1185 dL_law_1186 dL_law_1187 rfl (by decide) ?_
  refine l_cX (rest := []) [.int (xs (kn + 1)), .int (xs (kn + 2))] 1191 hF hX g1 dL_law_1188 rfl cwL_137 (c_X4_taken top_X Mx _ _) e1 ⟨rfl, rfl, by decide, by decide⟩ rfl rfl (Nat.le_of_ble_eq_true rfl) ?_
  refine i_aload 3 1192 hF dL_law_1191 rfl rfl rfl ?_
  refine i_arg 1 1197 hF hb hL hk (by decide) dL_law_1192 dL_law_1193 dL_law_1194 dL_law_1195 dL_law_1196 rfl (by decide) ?_
  refine i_arg 2 1202 hF hb hL hk (by decide) dL_law_1197 dL_law_1198 dL_law_1199 dL_law_1200 dL_law_1201 rfl (by decide) ?_
  refine l_cM (rest := [.int r]) [.int (xs (kn + 1)), .int (xs (kn + 2))] 1205 hF hX g2 dL_law_1202 rfl cwL_140 (c_X5_taken mod_M Mr _ _) e2 ⟨rfl, rfl, by decide, by decide⟩ rfl rfl (Nat.le_of_ble_eq_true rfl) ?_
  exact i_same 1210 hF dL_law_1205 (by decide) (next _ _ h')
