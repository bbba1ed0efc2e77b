/-! THE MAKING: methods whose world grows -/
def IW (X : Cx) (G : Gx) (A : Nat → Prop) (Q : State → Prop) (nL : Nat) (ws : va_W) (cells slots pc : Nat) (lo : List (Nat × Value)) (st : List Value) : Prop := match X with
  | (p, l, e, R, s, m, args, below, meth, c) => ∀ (H : Heap) (locs : List Loc) (ls : Array Slot), va_P G.1 vwCl ws H → va_D A ws → va_S A s.heap H locs → lv_has ls nL lo → W p l e R s m args below meth c H locs cells slots Q (F0 m pc ls st)
def FI (X : Cx) (G : Gx) (A : Nat → Prop) (nL : Nat) (cc : ByteArray) (own : String) (rm : Room) : Prop := match X with
  | (p, _, _, R, s, m, args, _, meth, c) => p.tables.exec = Jvm.exec ∧ c.code = cc ∧ s.vm.findClass own = some m.cls ∧ (∀ w ∈ gT, w.before args s = true) ∧ va_K G.1 vwCl (tys3 G) s ∧ c.maxLocals = nL ∧ R = rm ∧ ∀ q : Nat, s.heap.size ≤ q → A q
/-- what is known of the texts and statics, whatever lies in A may change -/
def nestL : List Cond := [.methodLinkNest RX4 9 yX2_init RX4, .methodLinkNest RX4 58 yX0_init RX4]
def nestK (U : State) : Prop := (∀ w ∈ nestL, va_Nw w U) ∧ va_AO RX0 U
theorem nestK_warm {s U : State} (hW : s.WarmedH U.vm) (h : nestK s) : nestK U := by
  refine ⟨fun w hw => ?_, va_AO.moved hW.alike h.2⟩
  have h1 := h.1 w hw
  simp only [nestL, List.mem_cons, List.not_mem_nil, or_false] at hw
  rcases hw with rfl | rfl
  · exact va_Nw.warmM hW h1
  · exact va_Nw.warmM hW h1
theorem nestK_same {s U : State} (hW : s.vm = U.vm) (h : nestK s) : nestK U := by
  refine ⟨fun w hw => ?_, va_AO.moved (hW ▸ Vm.Alike.refl s.vm) h.2⟩
  have h1 := h.1 w hw
  simp only [nestL, List.mem_cons, List.not_mem_nil, or_false] at hw
  rcases hw with rfl | rfl
  · exact va_Nw.same rfl hW h1
  · exact va_Nw.same rfl hW h1
def XTA (G : Gx) (A : Nat → Prop) (U : State) (H : Heap) : Prop :=
  vk_S 13 sLens sByts (fun i => G.2.2.2.2 (1000 + i)) (fun i => G.2.2.2.2 (2000 + i)) A U H ∧
  (∀ i, i < 13 → vk_R (sRef i).1 (sRef i).2.1 (sRef i).2.2 (G.2.2.2.2 (1000 + i)) U) ∧
  va_Z "java/lang/String" "COMPACT_STRINGS" "Z" (.int 1) A U H ∧
  va_Zq "jdk/internal/util/Preconditions" "SIOOBE_FORMATTER" "Ljava/util/function/BiFunction;" A U H ∧
  va_Z "NextHouseUp$Village" "ABOVE" "[I" (.ref (G.2.2.2.2 3000)) A U H ∧
  va_T .int (G.2.2.2.2 3000) 6 (fun j => .int (abv j)) A U H ∧
  nestK U
theorem XTA_moved {G G' : Gx} {A B : Nat → Prop} {s U : State} {H : Heap} {locs : List Loc} (hG : ∀ k, 1000 ≤ k → G'.2.2.2.2 k = G.2.2.2.2 k) (h : XTA G A s s.heap) (hS : va_S A s.heap H locs) (hU : U.heap = H) (hW : s.WarmedH U.vm) (hn : ∀ q, B q → A q) : XTA G' B U H := by
  obtain ⟨h1, h2, h3, h4, h5, h6, h7⟩ := h
  have e1 : (fun i => G'.2.2.2.2 (1000 + i)) = (fun i => G.2.2.2.2 (1000 + i)) := funext fun i => hG _ (by omega)
  have e2 : (fun i => G'.2.2.2.2 (2000 + i)) = (fun i => G.2.2.2.2 (2000 + i)) := funext fun i => hG _ (by omega)
  unfold XTA
  rw [e1, e2, hG 3000 (by omega)]
  refine ⟨((h1.moved hW.alike).kept hS.2.1).narrow hn, fun i hi => ?_, ((va_Z.moved hW.alike h3).kept hS.2.1).narrow hn, va_Zq_narrow (va_Zq_kept (va_Zq.moved hW.alike h4) hS.2.1) hn, ((va_Z.moved hW.alike h5).kept hS.2.1).narrow hn, ((va_T.moved hW.alike h6).kept hS.2.1).narrow hn, nestK_warm hW h7⟩
  rw [hG _ (by omega)]
  exact vk_R.warm hW (h2 i hi)
theorem XTA_XT {G : Gx} {sh : List Sh} {U : State} (h : XTA G (AX sh G U.heap.size) U U.heap) : XT G sh U := ⟨h.1, h.2.1, h.2.2.1, h.2.2.2.1, h.2.2.2.2.1, h.2.2.2.2.2.1⟩
section IWS
variable {X : Cx} {G : Gx} {A : Nat → Prop} {Q : State → Prop} {nL : Nat} {ws : va_W} {cells slots pc : Nat} {lo : List (Nat × Value)} {st : List Value} {cc : ByteArray} {own : String} {rm : Room}
theorem IW.pick {lo' : List (Nat × Value)} (ks : List Nat) (h : lv_pick lo ks = lo') (k : IW X G A Q nL ws cells slots pc lo' st) : IW X G A Q nL ws cells slots pc lo st := by
  obtain ⟨p, l, en, R, s, m, args, below, meth, c⟩ := X
  intro H locs ls hP hD hS hl
  exact k H locs ls hP hD hS (lv_sub hl ks h)
theorem IW_to {ws' : va_W} (h : ws = ws') (k : IW X G A Q nL ws' cells slots pc lo st) : IW X G A Q nL ws cells slots pc lo st := h ▸ k
theorem i_aload {j : Fin 4} {i x : Nat} (a q : Nat) (hF : FI X G A nL cc own rm) (hd : decode cc pc = .ok (.aload_n j, 1)) (hq : pc + 1 = q) (hi : (j : Nat) = i) (hlo : lo[a]? = some (i, .ref x)) (k : IW X G A Q nL ws cells slots q lo (.ref x :: st)) : IW X G A Q nL ws cells slots pc lo st := by
  obtain ⟨p, l, en, R, s, m, args, below, meth, c⟩ := X
  subst hq
  intro H locs ls hP hD hS hl
  obtain ⟨hx, hb, hown, hts, hK, hml, hR, hA⟩ := hF
  exact lv_aload_n hx hb hd hi (lv_at hl a hlo) (k H locs ls hP hD hS hl)
theorem i_iload {j : Fin 4} {i : Nat} {x : Int32} (a q : Nat) (hF : FI X G A nL cc own rm) (hd : decode cc pc = .ok (.iload_n j, 1)) (hq : pc + 1 = q) (hi : (j : Nat) = i) (hlo : lo[a]? = some (i, .int x)) (k : IW X G A Q nL ws cells slots q lo (.int x :: st)) : IW X G A Q nL ws cells slots pc lo st := by
  obtain ⟨p, l, en, R, s, m, args, below, meth, c⟩ := X
  subst hq
  intro H locs ls hP hD hS hl
  obtain ⟨hx, hb, hown, hts, hK, hml, hR, hA⟩ := hF
  exact lv_iload_n hx hb hd hi (lv_at hl a hlo) (k H locs ls hP hD hS hl)
theorem i_iconst {n : Int} (v : Int32) (q : Nat) (hF : FI X G A nL cc own rm) (hd : decode cc pc = .ok (.iconst n, 1)) (hq : pc + 1 = q) (hv : Int32.ofInt n = v) (k : IW X G A Q nL ws cells slots q lo (.int v :: st)) : IW X G A Q nL ws cells slots pc lo st := by
  obtain ⟨p, l, en, R, s, m, args, below, meth, c⟩ := X
  subst hq
  intro H locs ls hP hD hS hl
  obtain ⟨hx, hb, hown, hts, hK, hml, hR, hA⟩ := hF
  exact lv_iconst hx hb hd hv (k H locs ls hP hD hS hl)
theorem i_bipush {n : Int} (v : Int32) (q : Nat) (hF : FI X G A nL cc own rm) (hd : decode cc pc = .ok (.bipush n, 2)) (hq : pc + 2 = q) (hv : (Int8.ofInt n).toInt32 = v) (k : IW X G A Q nL ws cells slots q lo (.int v :: st)) : IW X G A Q nL ws cells slots pc lo st := by
  obtain ⟨p, l, en, R, s, m, args, below, meth, c⟩ := X
  subst hq
  intro H locs ls hP hD hS hl
  obtain ⟨hx, hb, hown, hts, hK, hml, hR, hA⟩ := hF
  exact lv_bipush hx hb hd hv (k H locs ls hP hD hS hl)
theorem i_sipush {n : Int} (v : Int32) (q : Nat) (hF : FI X G A nL cc own rm) (hd : decode cc pc = .ok (.sipush n, 3)) (hq : pc + 3 = q) (hv : (Int16.ofInt n).toInt32 = v) (k : IW X G A Q nL ws cells slots q lo (.int v :: st)) : IW X G A Q nL ws cells slots pc lo st := by
  obtain ⟨p, l, en, R, s, m, args, below, meth, c⟩ := X
  subst hq
  intro H locs ls hP hD hS hl
  obtain ⟨hx, hb, hown, hts, hK, hml, hR, hA⟩ := hF
  exact lv_sipush hx hb hd hv (k H locs ls hP hD hS hl)
theorem i_dup {x : Nat} (q : Nat) (hF : FI X G A nL cc own rm) (hd : decode cc pc = .ok (.dup, 1)) (hq : pc + 1 = q) (k : IW X G A Q nL ws cells slots q lo (.ref x :: .ref x :: st)) : IW X G A Q nL ws cells slots pc lo (.ref x :: st) := by
  obtain ⟨p, l, en, R, s, m, args, below, meth, c⟩ := X
  subst hq
  intro H locs ls hP hD hS hl
  obtain ⟨hx, hb, hown, hts, hK, hml, hR, hA⟩ := hF
  exact lv_dup hx hb hd rfl (k H locs ls hP hD hS hl)
theorem i_pop {x : Int32} (q : Nat) (hF : FI X G A nL cc own rm) (hd : decode cc pc = .ok (.pop, 1)) (hq : pc + 1 = q) (k : IW X G A Q nL ws cells slots q lo st) : IW X G A Q nL ws cells slots pc lo (.int x :: st) := by
  obtain ⟨p, l, en, R, s, m, args, below, meth, c⟩ := X
  subst hq
  intro H locs ls hP hD hS hl
  obtain ⟨hx, hb, hown, hts, hK, hml, hR, hA⟩ := hF
  exact lv_pop hx hb hd rfl (k H locs ls hP hD hS hl)
theorem i_astore {j : Fin 4} {i x : Nat} {lo' : List (Nat × Value)} (q : Nat) (hF : FI X G A nL cc own rm) (hd : decode cc pc = .ok (.astore_n j, 1)) (hq : pc + 1 = q) (hi : (j : Nat) = i) (hn : i < nL) (hlo : (i, Value.ref x) :: lo.filter (fun q => !(q.1 == i) && !(q.1 + 1 == i && q.2.category == 2)) = lo') (k : IW X G A Q nL ws cells slots q lo' st) : IW X G A Q nL ws cells slots pc lo (.ref x :: st) := by
  obtain ⟨p, l, en, R, s, m, args, below, meth, c⟩ := X
  subst hq
  intro H locs ls hP hD hS hl
  obtain ⟨hx, hb, hown, hts, hK, hml, hR, hA⟩ := hF
  exact lv_astore_n hx hb hd hi hl hn hlo (fun ls hl => k H locs ls hP hD hS hl)
theorem i_istore {j : Fin 4} {i : Nat} {x : Int32} {lo' : List (Nat × Value)} (q : Nat) (hF : FI X G A nL cc own rm) (hd : decode cc pc = .ok (.istore_n j, 1)) (hq : pc + 1 = q) (hi : (j : Nat) = i) (hn : i < nL) (hlo : (i, Value.int x) :: lo.filter (fun q => !(q.1 == i) && !(q.1 + 1 == i && q.2.category == 2)) = lo') (k : IW X G A Q nL ws cells slots q lo' st) : IW X G A Q nL ws cells slots pc lo (.int x :: st) := by
  obtain ⟨p, l, en, R, s, m, args, below, meth, c⟩ := X
  subst hq
  intro H locs ls hP hD hS hl
  obtain ⟨hx, hb, hown, hts, hK, hml, hR, hA⟩ := hF
  exact lv_istore_n hx hb hd hi hl hn hlo (fun ls hl => k H locs ls hP hD hS hl)
theorem i_iinc {i : Nat} {n : Int} {x : Int32} (v : Int32) {lo' : List (Nat × Value)} (a q : Nat) (hF : FI X G A nL cc own rm) (hd : decode cc pc = .ok (.iinc i n, 3)) (hq : pc + 3 = q) (hk : lo[a]? = some (i, .int x)) (hv : x + Int32.ofInt n = v) (hn : i < nL) (hlo : (i, Value.int v) :: lo.filter (fun q => !(q.1 == i) && !(q.1 + 1 == i && q.2.category == 2)) = lo') (k : IW X G A Q nL ws cells slots q lo' st) : IW X G A Q nL ws cells slots pc lo st := by
  obtain ⟨p, l, en, R, s, m, args, below, meth, c⟩ := X
  subst hq
  intro H locs ls hP hD hS hl
  obtain ⟨hx, hb, hown, hts, hK, hml, hR, hA⟩ := hF
  exact lv_iinc hx hb hd hl hk hv hn hlo (fun ls hl => k H locs ls hP hD hS hl)
theorem i_goto {off : Int} (t : Nat) (hF : FI X G A nL cc own rm) (hd : decode cc pc = .ok (.goto off, 3)) (ht : (pc : Int) + off = (t : Int)) (k : IW X G A Q nL ws cells slots t lo st) : IW X G A Q nL ws cells slots pc lo st := by
  obtain ⟨p, l, en, R, s, m, args, below, meth, c⟩ := X
  intro H locs ls hP hD hS hl
  obtain ⟨hx, hb, hown, hts, hK, hml, hR, hA⟩ := hF
  exact lv_goto hx hb hd ht (k H locs ls hP hD hS hl)
theorem i_ge {x y : Int32} {off : Int} (q t : Nat) (hF : FI X G A nL cc own rm) (hd : decode cc pc = .ok (.if_icmp .ge off, 3)) (hq : pc + 3 = q) (ht : (pc : Int) + off = (t : Int)) (kt : y ≤ x → IW X G A Q nL ws cells slots t lo st) (kf : ¬ y ≤ x → IW X G A Q nL ws cells slots q lo st) : IW X G A Q nL ws cells slots pc lo (.int y :: .int x :: st) := by
  obtain ⟨p, l, en, R, s, m, args, below, meth, c⟩ := X
  subst hq
  intro H locs ls hP hD hS hl
  obtain ⟨hx, hb, hown, hts, hK, hml, hR, hA⟩ := hF
  exact lv_icmp_ge hx hb hd ht (fun h => kt h H locs ls hP hD hS hl) (fun h => kf h H locs ls hP hD hS hl)
theorem i_obj {idx : Nat} {x : Nat} (q : Nat) (hF : FI X G A nL cc own rm) (hd : decode cc pc = .ok (.invokespecial idx, 3)) (hq : pc + 3 = q) (w1 : Cond.methodLink own idx Lib.objectInit ∈ gT) (w2 : Cond.instanceMethod Lib.objectInit ∈ gT) (w3 : Cond.code Lib.objectInit ⟨#[0xb1]⟩ 1 none ∈ gT) (hr : 1 ≤ rm.frames ∧ 20 ≤ rm.locals) (k : IW X G A Q nL ws cells slots q lo []) : IW X G A Q nL ws cells slots pc lo [.ref x] := by
  obtain ⟨p, l, en, R, s, m, args, below, meth, c⟩ := X
  subst hq
  intro H locs ls hP hD hS hl
  obtain ⟨hx, hb, hown, hts, hK, hml, hR, hA⟩ := hF
  subst hR
  refine W.objInit hx hb hown (hts _ w1) (hts _ w2) (hts _ w3) rfl (by rw [hml]; exact hl.1) rfl hd hr.1 ?_ ?_
  · have h2 := hr.2
    show 2 * 0 + 0 + 12 ≤ R.locals
    omega
  · exact k H locs ls hP hD hS hl
theorem i_new {idx ci N : Nat} {C : String} {T : u_T} {ty : Nat → FieldType} (fs : List Value) (q : Nat) (hF : FI X G A nL cc own rm) (hd : decode cc pc = .ok (.new idx, 3)) (hq : pc + 3 = q) (hin : ∀ w ∈ u_ws C T N, w ∈ gT) (hty : ∀ k, k < N → parseFieldDescriptor (T k).2.2.1 = some (ty k)) (w1 : Cond.classLink own idx C ∈ gT) (w2 : Cond.instantiable C N ∈ gT) (w3 : Cond.initialized C ∈ gT) (hc : vwCl[ci]? = some (C, T, N)) (hfs : ∀ j, j < N → defaultValue (ty j) = vp_V fs j) (hr : cells + 1 ≤ rm.cells ∧ slots + N ≤ rm.slots) (k : ∀ q0, IW X G A Q nL (ws ++ [(q0, .inr (ci, fs))]) (cells + 1) (slots + N) q lo (.ref q0 :: st)) : IW X G A Q nL ws cells slots pc lo st := by
  obtain ⟨p, l, en, R, s, m, args, below, meth, c⟩ := X
  subst hq
  intro H locs ls hP hD hS hl
  obtain ⟨hx, hb, hown, hts, hK, hml, hR, hA⟩ := hF
  subst hR
  exact va_new hx hb hts hin ty hty hown (hts _ w1) (hts _ w2) (hts _ w3) hK hP hD hS hA hc hfs hr.1 hr.2 hd (fun q0 H1 hP1 hD1 hS1 => k q0 H1 locs ls hP1 hD1 hS1 hl)
theorem arr_same {D : va_G} {cl : List vw_C} {tys : List (ClassId × FieldType)} {s : State} {cA cB : ClassId} {ty : FieldType} (i j : Nat) (hK : va_K D cl tys s) (h1 : tys[i]? = some (cA, ty)) (h2 : tys[j]? = some (cB, ty)) : cA = cB := by
  have a := (hK.2 i _ h1).2
  have b := (hK.2 j _ h2).2
  cases ty with
  | object C =>
    obtain ⟨kA, comp, -, -, -, h⟩ := a
    obtain ⟨kB, comp', -, -, -, h'⟩ := b
    exact Option.some.inj (h.symm.trans h')
  | _ => exact Option.some.inj (Eq.trans (Eq.symm a) b)
theorem i_newI {n : Int32} (N : Nat) (q : Nat) (hF : FI X G A nL cc own rm) (hd : decode cc pc = .ok (.newarray .int, 2)) (hq : pc + 2 = q) (w1 : Cond.arrayClass .int ∈ gT) (hn : n = nI N) (hN : N ≤ 1000) (hr : cells + 1 ≤ rm.cells ∧ slots + N ≤ rm.slots) (k : ∀ q0, IW X G A Q nL (ws ++ [(q0, .inl (G.2.1, N, .inl (fun _ => 0)))]) (cells + 1) (slots + N) q lo (.ref q0 :: st)) : IW X G A Q nL ws cells slots pc lo (.int n :: st) := by
  obtain ⟨p, l, en, R, s, m, args, below, meth, c⟩ := X
  subst hq
  intro H locs ls hP hD hS hl
  obtain ⟨hx, hb, hown, hts, hK, hml, hR, hA⟩ := hF
  subst hR hn
  refine va_newa (atype := .int) (a0 := (N, .inl (fun _ => 0))) hx hb (hts _ w1) rfl hK hP hD hS hA (fun _ => rfl) (nI_pos (by omega)) (nI_clamp (by omega)) (by show N * 4 ≤ _; omega) hr.1 hr.2 hd (fun q0 cA H1 hK1 hP1 hD1 hS1 => ?_)
  have e : cA = G.2.1 := arr_same 3 0 hK1 rfl rfl
  subst e
  exact k q0 H1 locs ls hP1 hD1 hS1 hl
theorem i_newZ {n : Int32} (N : Nat) (q : Nat) (hF : FI X G A nL cc own rm) (hd : decode cc pc = .ok (.newarray .boolean, 2)) (hq : pc + 2 = q) (w1 : Cond.arrayClass .boolean ∈ gT) (hn : n = nI N) (hN : N ≤ 1000) (hr : cells + 1 ≤ rm.cells ∧ slots + N ≤ rm.slots) (k : ∀ q0, IW X G A Q nL (ws ++ [(q0, .inl (G.2.2.1, N, .inl (fun _ => 0)))]) (cells + 1) (slots + N) q lo (.ref q0 :: st)) : IW X G A Q nL ws cells slots pc lo (.int n :: st) := by
  obtain ⟨p, l, en, R, s, m, args, below, meth, c⟩ := X
  subst hq
  intro H locs ls hP hD hS hl
  obtain ⟨hx, hb, hown, hts, hK, hml, hR, hA⟩ := hF
  subst hR hn
  refine va_newa (atype := .boolean) (a0 := (N, .inl (fun _ => 0))) hx hb (hts _ w1) rfl hK hP hD hS hA (fun _ => rfl) (nI_pos (by omega)) (nI_clamp (by omega)) (by show N * 1 ≤ _; omega) hr.1 hr.2 hd (fun q0 cA H1 hK1 hP1 hD1 hS1 => ?_)
  have e : cA = G.2.2.1 := arr_same 3 1 hK1 rfl rfl
  subst e
  exact k q0 H1 locs ls hP1 hD1 hS1 hl
theorem i_newQ {n : Int32} {idx : Nat} (N : Nat) (q : Nat) (hF : FI X G A nL cc own rm) (hd : decode cc pc = .ok (.anewarray idx, 3)) (hq : pc + 3 = q) (hX : XTA G A X.2.2.2.2.1 X.2.2.2.2.1.heap) (w1 : Cond.classLink own idx RX0 ∈ gT) (hn : n = nI N) (hN : N ≤ 1000) (hr : cells + 1 ≤ rm.cells ∧ slots + N ≤ rm.slots) (k : ∀ q0, IW X G A Q nL (ws ++ [(q0, .inl (G.2.2.2.1, N, .inr (.inr (.inr (.inr (fun _ => none))))))]) (cells + 1) (slots + N) q lo (.ref q0 :: st)) : IW X G A Q nL ws cells slots pc lo (.int n :: st) := by
  obtain ⟨p, l, en, R, s, m, args, below, meth, c⟩ := X
  subst hq
  intro H locs ls hP hD hS hl
  obtain ⟨hx, hb, hown, hts, hK, hml, hR, hA⟩ := hF
  subst hR hn
  refine va_newq hx hb hown (hts _ w1) hX.2.2.2.2.2.2.2 hK hP hD hS hA (nI_pos (by omega)) (nI_clamp (by omega)) (by omega) hr.1 hr.2 hd (fun q0 cA H1 hK1 hP1 hD1 hS1 => ?_)
  have e : cA = G.2.2.2.1 := arr_same 3 2 hK1 rfl rfl
  subst e
  exact k q0 H1 locs ls hP1 hD1 hS1 hl
theorem i_put {idx ci j a N : Nat} {C : String} {T : u_T} {ty0 : Nat → FieldType} {ty : FieldType} {fs : List Value} {v : Value} {ws' : va_W} (q0 q : Nat) (hF : FI X G A nL cc own rm) (hd : decode cc pc = .ok (.putfield idx, 3)) (hq : pc + 3 = q) (hin : ∀ w ∈ u_ws C T N, w ∈ gT) (hty : ∀ k, k < N → parseFieldDescriptor (T k).2.2.1 = some (ty0 k)) (hnm : ∀ a, a < N → ∀ b, b < N → a ≠ b → (T a).2.1 ≠ (T b).2.1) (he : ws[q0]? = some (a, .inr (ci, fs))) (hc : vwCl[ci]? = some (C, T, N)) (hk : j < N) (hlink : Cond.fieldLink own idx C (T j).2.1 (T j).2.2.1 ∈ gT) (hT : (T j).1 = C) (hfin : (T j).2.2.2 = false) (hdd : parseFieldDescriptor (T j).2.2.1 = some ty) (hn : narrow ty v = v) (hfit : fits ty v = true) (hl : j < fs.length) (hws : ws.set q0 (a, .inr (ci, fs.set j v)) = ws') (k : IW X G A Q nL ws' cells slots q lo st) : IW X G A Q nL ws cells slots pc lo (v :: .ref a :: st) := by
  obtain ⟨p, l, en, R, s, m, args, below, meth, c⟩ := X
  subst hq hws
  intro H locs ls hP hD hS hlh
  obtain ⟨hx, hb, hown, hts, hK, hml, hR, hA⟩ := hF
  exact va_put hx hb hts hin ty0 hty hnm hown hK hP hD hS q0 he hc j hk (hts _ hlink) (by rw [hT]; exact fun _ h9 => h9) hfin hdd hn hfit hl hd (fun H1 locs1 hP1 hD1 hS1 => k H1 locs1 ls hP1 hD1 hS1 hlh)
theorem i_putF {idx ci j a N : Nat} {C : String} {T : u_T} {ty0 : Nat → FieldType} {ty : FieldType} {fs : List Value} {v : Value} {ws' : va_W} (q0 q : Nat) (hF : FI X G A nL cc own rm) (hini : X.2.2.2.2.2.2.2.2.1.name = "<init>") (hd : decode cc pc = .ok (.putfield idx, 3)) (hq : pc + 3 = q) (hin : ∀ w ∈ u_ws C T N, w ∈ gT) (hty : ∀ k, k < N → parseFieldDescriptor (T k).2.2.1 = some (ty0 k)) (hnm : ∀ a, a < N → ∀ b, b < N → a ≠ b → (T a).2.1 ≠ (T b).2.1) (he : ws[q0]? = some (a, .inr (ci, fs))) (hc : vwCl[ci]? = some (C, T, N)) (hk : j < N) (hlink : Cond.fieldLink own idx C (T j).2.1 (T j).2.2.1 ∈ gT) (hT : (T j).1 = C) (hdecl : C = own) (hfin : (T j).2.2.2 = true) (hdd : parseFieldDescriptor (T j).2.2.1 = some ty) (hn : narrow ty v = v) (hfit : fits ty v = true) (hl : j < fs.length) (hws : ws.set q0 (a, .inr (ci, fs.set j v)) = ws') (k : IW X G A Q nL ws' cells slots q lo st) : IW X G A Q nL ws cells slots pc lo (v :: .ref a :: st) := by
  obtain ⟨p, l, en, R, s, m, args, below, meth, c⟩ := X
  subst hq hws
  intro H locs ls hP hD hS hlh
  obtain ⟨hx, hb, hown, hts, hK, hml, hR, hA⟩ := hF
  exact va_putF hx hb hts hin ty0 hty hnm hown hK hP hD hS q0 he hc j hk (hts _ hlink) (by rw [hT]; exact fun _ h9 => h9) hfin hini (by rw [hT]; exact hdecl) hdd hn hfit hl hd (fun H1 locs1 hP1 hD1 hS1 => k H1 locs1 ls hP1 hD1 hS1 hlh)
theorem i_get {idx ci j a N : Nat} {C : String} {T : u_T} {fs : List Value} (v : Value) (q0 q : Nat) (hF : FI X G A nL cc own rm) (hd : decode cc pc = .ok (.getfield idx, 3)) (hq : pc + 3 = q) (hin : ∀ w ∈ u_ws C T N, w ∈ gT) (he : ws[q0]? = some (a, .inr (ci, fs))) (hc : vwCl[ci]? = some (C, T, N)) (hk : j < N) (hlink : Cond.fieldLink own idx C (T j).2.1 (T j).2.2.1 ∈ gT) (hT : (T j).1 = C) (hv : fs[j]? = some v) (k : IW X G A Q nL ws cells slots q lo (v :: st)) : IW X G A Q nL ws cells slots pc lo (.ref a :: st) := by
  obtain ⟨p, l, en, R, s, m, args, below, meth, c⟩ := X
  subst hq
  intro H locs ls hP hD hS hlh
  obtain ⟨hx, hb, hown, hts, hK, hml, hR, hA⟩ := hF
  exact va_get hx hb hts hin hown hK hP q0 he hc j hk (hts _ hlink) (by rw [hT]; exact fun _ h9 => h9) hv hd (k H locs ls hP hD hS hlh)
/-- a constructor's contract -/
def PGi (G : Gx) (A0 : Nat → Prop) (wc : va_W) (sz : Nat) (U : State) : Prop := U.heap.size = sz ∧ va_P G.1 vwCl wc U.heap ∧ va_K G.1 vwCl (tys3 G) U ∧ va_D (fun _ => True) wc ∧ (∀ (k : Nat) (q : Nat × va_E), wc[k]? = some q → A0 q.1) ∧ (∀ q, sz ≤ q → A0 q) ∧ XTA G A0 U U.heap
def MI (y : MethodName) (cc : ByteArray) (maxL : Nat) (rmI : Room) (G : Gx) (b : Nat) (As : List Value) (wc : va_W) (w1 : (Nat → Nat) → va_W) (post : (Nat → Nat) → Prop) (mc ms : Nat) : Prop :=
  ∀ (A0 : Nat → Prop) (l : Launch) (sz : Nat), Met l y (Cond.code y cc maxL none :: gT) rmI (va_Pc (.ref b :: As) (PGi G A0 wc sz)) (va_Qv post (fun (u : Nat → Nat) t => va_P G.1 vwCl (w1 u) t.heap ∧ va_D (va_A wc sz) (w1 u)) (va_A wc sz)) mc ms (va_A wc sz)
theorem i_callI {idx n b maxL mc ms : Nat} {y : MethodName} {cc2 : ByteArray} {rmI : Room} {As rest : List Value} {wc wr : va_W} {w1 : (Nat → Nat) → va_W} {post : (Nat → Nat) → Prop} (q : Nat) (isC isR : List Nat) (hF : FI X G A nL cc own rm) (hX : XTA G A X.2.2.2.2.1 X.2.2.2.2.1.heap) (hd : decode cc pc = .ok (.invokespecial idx, 3)) (hq : pc + 3 = q) (hM : MI y cc2 maxL rmI G b As wc w1 post mc ms) (hy : y.name = "<init>") (hn : As.length = n) (hdd : y.cls ≠ "java/lang/invoke/MethodHandle" ∧ y.cls ≠ "java/lang/invoke/VarHandle" ∧ (parseMethodDescriptor y.desc).map (fun d => d.parameters.length) = some n) (v1 : Cond.methodLink own idx y ∈ gT ∨ ∃ host, Cond.methodLinkNest own idx y host ∈ nestL) (v2 : Cond.instanceMethod y ∈ gT) (v3 : Cond.initialized y.cls ∈ gT) (v4 : Cond.code y cc2 maxL none ∈ gT) (hst : st = As.reverse ++ .ref b :: rest) (hw : (rest.map fun v => v.category).sum ≤ 8) (hrm : rmI.cells = mc ∧ rmI.slots = ms ∧ rmI.frames + 1 ≤ rm.frames ∧ 8 + (maxL + 11) + rmI.locals ≤ rm.locals) (hr : cells + mc ≤ rm.cells ∧ slots + ms ≤ rm.slots) (hC : isC.map (fun i => ws[i]?) = wc.map some) (hR : isR.map (fun i => ws[i]?) = wr.map some) (hnd : va_nd isC = true) (hnR : va_nd isR = true) (hdis : ∀ i ∈ isR, i ∉ isC) (k : ∀ u, post u → IW X G A Q nL (wr ++ w1 u) (cells + mc) (slots + ms) q lo rest) : IW X G A Q nL ws cells slots pc lo st := by
  obtain ⟨p, l, en, R, s, m, args, below, meth, c⟩ := X
  subst hq
  intro H locs ls hP hD hS hl
  obtain ⟨hx, hb, hown, hts, hK, hml, hRm, hA⟩ := hF
  subst hRm
  have hPc : va_P G.1 vwCl wc H := by
    intro k q hk
    have h1 : (isC.map (fun i => ws[i]?))[k]? = some (some q) := by rw [hC, List.getElem?_map, hk]; rfl
    rw [List.getElem?_map] at h1
    cases hi : isC[k]? with
    | none => rw [hi] at h1; cases h1
    | some i => rw [hi] at h1; exact hP i q (Option.some.inj h1)
  have hDc : va_D A wc := hD.sub isC hnd hC
  have hFc := va_free (wc := wc) hD hS hA isC hC
  have hp : PreS s H (va_Pc (.ref b :: As) (PGi G A wc H.size)) (.ref b :: As) := by
    refine ⟨fun a U g mk z => ?_, fun U hU hW => ⟨rfl, by rw [hU], by rw [hU]; exact hPc, va_K.moved hW.alike hK, hDc.weaken (fun _ _ _ _ => trivial), fun k q hk => hDc.2 k q hk, fun q hq => hA q (Nat.le_trans hS.1 hq), ?_⟩⟩
    · obtain ⟨z0, z1, z2, z3, z4, z5, z6, z7⟩ := z
      obtain ⟨g1, g2, g3, g4, g5, g6, g7⟩ := z7
      exact ⟨z0, z1, z2, va_K.moved (u := U) (U := U.calling g mk a) (Vm.Alike.refl U.vm) z3, z4, z5, z6, vk_S.moved (u := U) (U := U.calling g mk a) (Vm.Alike.refl U.vm) g1, fun i hi => vk_R.same (u := U) (U := U.calling g mk a) rfl (g2 i hi), va_Z.moved (u := U) (U := U.calling g mk a) (Vm.Alike.refl U.vm) g3, va_Zq.moved (u := U) (U := U.calling g mk a) (Vm.Alike.refl U.vm) g4, va_Z.moved (u := U) (U := U.calling g mk a) (Vm.Alike.refl U.vm) g5, va_T.moved (u := U) (U := U.calling g mk a) (Vm.Alike.refl U.vm) g6, nestK_same (s := U) (U := U.calling g mk a) rfl g7⟩
    · rw [hU]
      exact XTA_moved (fun _ _ => rfl) hX hS hU hW (fun _ h => h)
  have run : va_Run p l en R s m args below meth c H locs cells slots mc ms (F0 m pc ls st) rest (va_Qv post (fun (u : Nat → Nat) t => va_P G.1 vwCl (w1 u) t.heap ∧ va_D (va_A wc H.size) (w1 u)) (va_A wc H.size) (Value.ref b :: As).toArray) (va_A wc H.size) := by
    rcases v1 with v1 | ⟨host, v1⟩
    · exact va_runI (As := As) (rest := rest) ⟨hx, hb, hml, hown, hts⟩ (hM A l H.size) (cwI n hts (gT_goodC v4) rfl hrm.1 hrm.2.1 (hts _ v3) (hts _ v1) (hts _ v2) hy hdd hrm.2.2) hp rfl hn hl.1 hst (lv_room hw) hd hr
    · exact va_runIN (As := As) (rest := rest) ⟨hx, hb, hml, hown, hts⟩ (hM A l H.size) ⟨va_cnB n hts (gT_goodC v4) rfl hrm.1 hrm.2.1 (hX.2.2.2.2.2.2.1 _ v1) (hts _ v3) hdd hrm.2.2, hy, hts _ v2⟩ hp rfl hn hl.1 hst (lv_room hw) hd hr
  refine va_callv run hS (fun q _ h => hFc q h) hFc (fun u t H1 locs1 ht hvm hpu hB hz1 hk1 hS1 => ?_)
  obtain ⟨hP1, hD1⟩ := hB
  rw [ht] at hP1
  obtain ⟨hPj, hDj⟩ := va_join hP hD isC isR hC hR hnR hdis hk1 hFc hP1 hD1
  exact k u hpu H1 locs1 ls hPj hDj hS1 hl
end IWS
/-- a world of the same addresses -/
theorem va_D_fst {A : Nat → Prop} {ws ws' : va_W} (h : ∀ k : Nat, ws'[k]?.map Prod.fst = ws[k]?.map Prod.fst) (hD : va_D A ws) : va_D A ws' := by
  have key : ∀ (k : Nat) (q : Nat × va_E), ws'[k]? = some q → ∃ e, ws[k]? = some (q.1, e) := by
    intro k q hk
    have h1 := h k
    rw [hk] at h1
    cases h2 : ws[k]? with
    | none => rw [h2] at h1; cases h1
    | some x =>
      rw [h2] at h1
      have : q.1 = x.1 := Option.some.inj h1
      exact ⟨x.2, by rw [this]⟩
  refine ⟨fun i j p q hp hq e => ?_, fun k q hk => ?_⟩
  · obtain ⟨e1, h1⟩ := key i p hp
    obtain ⟨e2, h2⟩ := key j q hq
    exact hD.1 i j _ _ h1 h2 e
  · obtain ⟨e1, h1⟩ := key k q hk
    exact hD.2 k (q.1, e1) h1
theorem wl_len {sh : List Sh} {G : Gx} {M : Mm} : (wl sh G M).length = sh.length := by simp [wl]
theorem wl_fst {sh : List Sh} {G : Gx} {M M' : Mm} (k : Nat) : (wl sh G M')[k]?.map Prod.fst = (wl sh G M)[k]?.map Prod.fst := by
  simp only [wl, List.getElem?_mapIdx]
  cases sh[k]? <;> rfl
theorem app_fst {wa w w' wb : va_W} (hl : w'.length = w.length) (h : ∀ k : Nat, w'[k]?.map Prod.fst = w[k]?.map Prod.fst) (k : Nat) : (wa ++ (w' ++ wb))[k]?.map Prod.fst = (wa ++ (w ++ wb))[k]?.map Prod.fst := by
  by_cases h1 : k < wa.length
  · have e1 : (wa ++ (w' ++ wb))[k]? = wa[k]? := List.getElem?_append_left h1
    have e2 : (wa ++ (w ++ wb))[k]? = wa[k]? := List.getElem?_append_left h1
    rw [e1, e2]
  · have e1 : (wa ++ (w' ++ wb))[k]? = (w' ++ wb)[k - wa.length]? := List.getElem?_append_right (by omega)
    have e2 : (wa ++ (w ++ wb))[k]? = (w ++ wb)[k - wa.length]? := List.getElem?_append_right (by omega)
    rw [e1, e2]
    by_cases h2 : k - wa.length < w.length
    · have e3 : (w' ++ wb)[k - wa.length]? = w'[k - wa.length]? := List.getElem?_append_left (by omega)
      have e4 : (w ++ wb)[k - wa.length]? = w[k - wa.length]? := List.getElem?_append_left h2
      rw [e3, e4]
      exact h _
    · have e3 : (w' ++ wb)[k - wa.length]? = wb[k - wa.length - w'.length]? := List.getElem?_append_right (by omega)
      have e4 : (w ++ wb)[k - wa.length]? = wb[k - wa.length - w.length]? := List.getElem?_append_right (by omega)
      rw [e3, e4, hl]
section IWC
variable {X : Cx} {G Gc : Gx} {A : Nat → Prop} {Q : State → Prop} {nL : Nat} {wa wb : va_W} {cells slots pc : Nat} {lo : List (Nat × Value)} {st : List Value} {cc : ByteArray} {own : String} {rm : Room} {sh : List Sh} {M : Mm}
theorem i_callC {β : Type} {y : MethodName} {cc2 : ByteArray} {maxL idx n ci b : Nat} {ret2 : Option FieldType} {rc : Room} {C : String} {T : u_T} {N : Nat} {rest : List Value} {rv2 : β → Option Value} {e1 : Option (β × Mm)} {ts : List Nat} {r2 : β} {M2 : Mm} (As : List Value) (q : Nat) (hF : FI X G A nL cc own rm) (hX : XTA G A X.2.2.2.2.1 X.2.2.2.2.1.heap) (hG : Gc.1 = G.1 ∧ tys3 Gc = tys3 G ∧ ∀ k, 1000 ≤ k → Gc.2.2.2.2 k = G.2.2.2.2 k) (hd : decode cc pc = .ok (.invokevirtual idx, 3)) (hq : pc + 3 = q) (hcw : CWv own idx C y cc2 maxL ret2 n) (hC : vwCl[ci]? = some (C, T, N)) (hs : sh[b]? = some (.inr (ci, ts))) (hct : CT y cc2 maxL ret2 rc Gc sh (.ref (Gc.2.2.2.2 b) :: As) rv2 M e1) (he : e1 = some (r2, M2)) (hrm : rmok rc rm maxL) (hst : st = As.reverse ++ .ref (Gc.2.2.2.2 b) :: rest) (hn : As.length = n) (hw : (rest.map fun v => v.category).sum ≤ 8) (hr : cells ≤ rm.cells ∧ slots ≤ rm.slots) (k : IW X G A Q nL (wa ++ (wl sh Gc M2 ++ wb)) cells slots q lo ((rv2 r2).toList ++ rest)) : IW X G A Q nL (wa ++ (wl sh Gc M ++ wb)) cells slots pc lo st := by
  obtain ⟨p, l, en, R, s, m, args, below, meth, c⟩ := X
  subst hq
  intro H locs ls hP hD hS hl
  obtain ⟨hx, hb, hown, hts, hK, hml, hRm, hA⟩ := hF
  obtain ⟨hG1, hG2, hG3⟩ := hG
  subst hRm
  have hM := hct l r2 M2 H.size he
  obtain ⟨hy, w1, w2, w3, w4, w5⟩ := hcw
  have hGo : GoodIn gT (wsV own idx C y (Cond.code y cc2 maxL ret2 :: gT)) := by
    intro w hw
    unfold wsV at hw
    rcases List.mem_append.mp hw with h | h
    · simp only [List.mem_cons, List.not_mem_nil, or_false] at h
      rcases h with rfl | rfl | rfl | rfl
      · exact gT_good _ w1
      · exact gT_good _ w2
      · exact gT_good _ w3
      · exact gT_good _ w4
    · exact gT_goodC w5 w h
  have at1 : ∀ (k : Nat) (x : Nat × va_E), (wl sh Gc M)[k]? = some x → (wa ++ (wl sh Gc M ++ wb))[wa.length + k]? = some x := by
    intro k x hk
    have hk' : k < (wl sh Gc M).length := (List.getElem?_eq_some_iff.mp hk).1
    rw [List.getElem?_append_right (by omega), show wa.length + k - wa.length = k by omega, List.getElem?_append_left hk']
    exact hk
  have hPc : va_P Gc.1 vwCl (wl sh Gc M) H := by
    rw [hG1]
    exact fun k x hk => hP _ x (at1 k x hk)
  have hDc : va_D A (wl sh Gc M) := by
    refine ⟨fun i j x z hx hz e => ?_, fun k x hk => hD.2 _ x (at1 k x hk)⟩
    have := hD.1 _ _ _ _ (at1 i x hx) (at1 j z hz) e
    omega
  have hKc : va_K Gc.1 vwCl (tys3 Gc) s := by rw [hG1, hG2]; exact hK
  have hAX : ∀ z, AX sh Gc H.size z → A z := by
    intro z hz
    rcases hz with ⟨k, k1, k2⟩ | hz
    · obtain ⟨c0, hc0⟩ : ∃ c0, sh[k]? = some c0 := ⟨sh[k], List.getElem?_eq_getElem k1⟩
      have := hDc.2 k _ (wl_get hc0)
      rw [k2]
      exact this
    · exact hA z (Nat.le_trans hS.1 hz)
  have run := va_runV (p := p) (l := l) (e := en) (R := R) (s := s) (m := m) (args := args) (below := below) (meth := meth) (c := c) (H := H) (locs := locs) (cells := cells) (slots := slots) (g := F0 m pc ls st) (b := Gc.2.2.2.2 b) (As := As) (rest := rest) ⟨hx, hb, hml, hown, hts⟩ hM (cwV n hts hGo rfl hrm.1 hrm.2.1 hy hrm.2.2) ⟨fun a U g mk z => ⟨z.1, z.2.1, z.2.2.1, va_K.moved (u := U) (U := U.calling g mk a) (Vm.Alike.refl U.vm) z.2.2.2.1, z.2.2.2.2.1, XT_calling z.2.2.2.2.2⟩, va_recv hKc hPc hC (wl_get hs), fun U hU hW => ⟨rfl, by rw [hU], by rw [hU]; exact hPc, va_K.moved hW.alike hKc, hDc.weaken (fun _ _ _ _ => trivial), by
    refine XTA_XT ?_
    rw [hU]
    exact XTA_moved hG3 hX hS hU hW hAX⟩⟩ rfl hn hl.1 hst (lv_room hw) hd ⟨hr.1, hr.2⟩
  intro T0 hT Xs
  obtain ⟨v, st₀, t, T', L, h0, X', hL, e1', e2, ⟨⟨hv, hP2⟩, hz, hk2⟩, stp⟩ := run T0 hT Xs
  cases hv
  rw [h0] at hz hk2
  have keepA : ∀ (i : Nat) (x : Nat × va_E), (wa ++ (wl sh Gc M ++ wb))[i]? = some x → (i < wa.length ∨ wa.length + sh.length ≤ i) → T'.heap[x.1]? = H[x.1]? := by
    intro i x hi hr2
    rw [e1']
    have lt := (hP i x hi).lt
    refine hk2 x.1 lt (fun hz2 => ?_)
    rcases hz2 with ⟨k, k1, k2⟩ | hz2
    · obtain ⟨c0, hc0⟩ : ∃ c0, sh[k]? = some c0 := ⟨sh[k], List.getElem?_eq_getElem k1⟩
      have := hD.1 _ _ _ _ hi (at1 k _ (wl_get hc0)) k2
      omega
    · omega
  have hP3 : va_P G.1 vwCl (wa ++ (wl sh Gc M2 ++ wb)) T'.heap := by
    refine va_P.app (fun k x hk => ?_) (va_P.app (by rw [← hG1, e1']; exact hP2) (fun k x hk => ?_))
    · have hk' : k < wa.length := (List.getElem?_eq_some_iff.mp hk).1
      have hi : (wa ++ (wl sh Gc M ++ wb))[k]? = some x := by rw [List.getElem?_append_left hk']; exact hk
      exact (hP k x hi).kept (keepA k x hi (Or.inl hk'))
    · have hi : (wa ++ (wl sh Gc M ++ wb))[wa.length + (sh.length + k)]? = some x := by
        rw [List.getElem?_append_right (by omega), List.getElem?_append_right (by rw [wl_len]; omega), wl_len, show wa.length + (sh.length + k) - wa.length - sh.length = k by omega]
        exact hk
      exact (hP _ x hi).kept (keepA _ x hi (Or.inr (by omega)))
  have hD3 : va_D A (wa ++ (wl sh Gc M2 ++ wb)) := va_D_fst (app_fst (by rw [wl_len, wl_len]) wl_fst) hD
  obtain ⟨t2, a1, b1⟩ := k T'.heap (locs ++ L) ls hP3 hD3 ⟨Nat.le_trans hS.1 (by rw [e1']; exact hz), fun z h1 h2 => by rw [e1', hk2 z (Nat.lt_of_lt_of_le h1 hS.1) (fun w => h2 (hAX z w))]; exact hS.2.1 z h1 h2, fun z hz2 => by
      rcases List.mem_append.mp hz2 with h | h
      · exact hS.2.2 z h
      · exact hAX _ (hL z h)⟩ hl T' rfl X'
  exact ⟨t2, stp t2 a1, b1⟩
end IWC
theorem MI.of {y : MethodName} {cc : ByteArray} {maxL : Nat} {rmI : Room} {G : Gx} {b : Nat} {As : List Value} {wc : va_W} {w1 : (Nat → Nat) → va_W} {post : (Nat → Nat) → Prop} {mc ms : Nat} (hy : plainName y.cls = true) (hn : (lg_sl (.ref b :: As)).length ≤ maxL) (h : ∀ (X : Cx) (A : Nat → Prop) (Q : State → Prop), FI X G A maxL cc y.cls rmI → XTA G A X.2.2.2.2.1 X.2.2.2.2.1.heap → X.2.2.2.2.2.2.2.2.1.name = "<init>" → (∀ (u : Nat → Nat) (lo : List (Nat × Value)) (pc : Nat), post u → decode cc pc = .ok (.return_, 1) → IW X G A Q maxL (w1 u) mc ms pc lo []) → IW X G A Q maxL wc 0 0 0 (lv_args 0 (.ref b :: As)) []) (hy2 : y.name = "<init>") : MI y cc maxL rmI G b As wc w1 post mc ms := by
  intro A0 l sz
  refine Met.ofW (cc := cc) (maxL := maxL) (ret := none) hy rfl ?_
  intro p en s m args below meth c s₁ B hml hv
  obtain ⟨rfl, hsz, hP, hK, hD0, hc0, hs0, hX⟩ := hv
  have hts := atoms_spec (ws := Cond.code y cc maxL none :: gT) B.pre
  subst hsz
  have hin : meth.name = "<init>" := (name_of_methodNamed B.named B.method).1.trans hy2
  have hnar : ∀ q, va_A wc s.heap.size q → A0 q := by
    intro q hq
    rcases hq with ⟨k, e, hk⟩ | hq
    · exact hc0 k _ hk
    · exact hs0 q hq
  have hXA : XTA G (va_A wc s.heap.size) s s.heap := by
    obtain ⟨h1, h2, h3, h4, h5, h6, h7⟩ := hX
    exact ⟨h1.narrow hnar, h2, h3.narrow hnar, va_Zq_narrow h4 hnar, h5.narrow hnar, h6.narrow hnar, h7⟩
  have k := h (p, l, en, rmI, s, m, (.ref b :: As : List Value).toArray, below, meth, c) (va_A wc s.heap.size) (MQ below (va_Qv post (fun (u : Nat → Nat) t => va_P G.1 vwCl (w1 u) t.heap ∧ va_D (va_A wc s.heap.size) (w1 u)) (va_A wc s.heap.size)) (.ref b :: As : List Value).toArray s mc ms (va_A wc s.heap.size)) ⟨B.exec, B.bytes, findClass_of_methodNamed B.named, fun w hw => hts w (List.mem_cons_of_mem _ hw), hK, hml, rfl, fun q hq => Or.inr hq⟩ hXA hin (fun u lo pc hp hd H locs ls hP1 hD1 hS1 hl1 => W.vret B.exec B.bytes B.returns (fun t ht hW => ⟨⟨u, rfl, hp, by rw [ht]; exact hP1, hD1⟩, hS1.F ht⟩) hS1.2.2 hd B.notSynchronized) s.heap [] ((lg_sl (.ref b :: As) ++ List.replicate (maxL - (lg_sl (.ref b :: As)).length) Slot.unset).toArray) hP hD0.self va_S.rf (lv_entry (.ref b :: As) hn)
  rw [lg_entry_eq]
  exact k
