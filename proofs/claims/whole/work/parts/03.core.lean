/-! THE CORE: a typed memory over the kit's worlds: every cell of the system has a fixed shape; what changes is one map of ints. -/
abbrev Mm : Type := Nat → Nat → Int32
abbrev Sh : Type := (Nat × Nat) ⊕ (Nat × List Nat)
abbrev Gx : Type := va_G × ClassId × ClassId × ClassId × (Nat → Nat)
/-- the words of the tables that hold for good -/
def gT : List Cond := lw_tbl.filter goodWord
theorem gT_in {w : Cond} (i : Nat) (h : lw_tbl[i]? = some w) (hg : goodWord w = true) : w ∈ gT := List.mem_filter.mpr ⟨List.mem_of_getElem? h, hg⟩
theorem gT_good : GoodIn gT gT := fun w h => ⟨h, good_of_word (List.mem_filter.mp h).2⟩
theorem gT_goodC {w : Cond} (hw : w ∈ gT) : GoodIn gT (w :: gT) := fun v h => (List.mem_cons.mp h).elim (fun e => by rw [e]; exact gT_good w hw) (gT_good v)
def up (M : Mm) (k j : Nat) (x : Int32) : Mm := fun a b => if a = k then (if b = j then x else M a b) else M a b
def cfv (G : Gx) (M : Mm) (k j t : Nat) : Value := match t with
  | 0 => .int (M k j)
  | 1 => .long (M k j).toInt64
  | 2 => .null
  | r + 3 => .ref (G.2.2.2.2 (r + 1))
def ccl (G : Gx) (M : Mm) (k : Nat) (c : Sh) : va_E := match c with
  | .inl (0, n) => .inl (G.2.1, n, .inl (M k))
  | .inl (1, n) => .inl (G.2.2.1, n, .inl (M k))
  | .inl (b + 2, n) => .inl (G.2.2.2.1, n, .inr (.inr (.inr (.inr (fun i => some (G.2.2.2.2 (b + 2 * i)))))))
  | .inr (ci, ts) => .inr (ci, ts.mapIdx (fun j t => cfv G M k j t))
def wl (sh : List Sh) (G : Gx) (M : Mm) : va_W := sh.mapIdx (fun k c => (G.2.2.2.2 k, ccl G M k c))
theorem wl_get {sh : List Sh} {G : Gx} {M : Mm} {k : Nat} {c : Sh} (h : sh[k]? = some c) : (wl sh G M)[k]? = some (G.2.2.2.2 k, ccl G M k c) := by
  simp [wl, h]
theorem wl_inv {sh : List Sh} {G : Gx} {M : Mm} {k : Nat} {q : Nat × va_E} (h : (wl sh G M)[k]? = some q) : ∃ c, sh[k]? = some c ∧ q = (G.2.2.2.2 k, ccl G M k c) := by
  simp only [wl, List.getElem?_mapIdx] at h
  cases hc : sh[k]? with
  | none => rw [hc] at h; cases h
  | some c => rw [hc] at h; exact ⟨c, rfl, (Option.some.inj h).symm⟩
theorem up_ne {M : Mm} {k j a : Nat} {x : Int32} (h : a ≠ k) : up M k j x a = M a := by
  funext b; simp [up, h]
theorem up_eq {M : Mm} {k j : Nat} {x : Int32} : up M k j x k = fun b => if b = j then x else M k b := by
  funext b; simp [up]
theorem ccl_ne {G : Gx} {M : Mm} {k j i : Nat} {x : Int32} {c : Sh} (h : i ≠ k) : ccl G (up M k j x) i c = ccl G M i c := by
  rcases c with ⟨t, n⟩ | ⟨ci, ts⟩
  · match t with
    | 0 => simp only [ccl, up_ne h]
    | 1 => simp only [ccl, up_ne h]
    | b + 2 => rfl
  · simp only [ccl]
    congr 2
    refine congrArg (fun f => ts.mapIdx f) ?_
    funext j2 t2
    match t2 with
    | 0 => simp only [cfv, up_ne h]
    | 1 => simp only [cfv, up_ne h]
    | 2 => rfl
    | r + 3 => rfl
theorem wl_set {sh : List Sh} {G : Gx} {M : Mm} {k j : Nat} {x : Int32} {c : Sh} {e : va_E} (h : sh[k]? = some c) (he : e = ccl G (up M k j x) k c) : (wl sh G M).set k (G.2.2.2.2 k, e) = wl sh G (up M k j x) := by
  apply List.ext_getElem?
  intro i
  rw [List.getElem?_set]
  have hk : k < sh.length := (List.getElem?_eq_some_iff.mp h).1
  by_cases hi : k = i
  · subst hi
    rw [if_pos rfl, if_pos (by simp [wl, hk]), he, wl_get h]
  · rw [if_neg hi]
    simp only [wl, List.getElem?_mapIdx]
    cases hc : sh[i]? with
    | none => rfl
    | some c => simp only [Option.map, ccl_ne (fun q => hi q.symm)]
theorem cfv_set {G : Gx} {M : Mm} {k j : Nat} {x : Int32} {v : Value} {ts : List Nat} (hv : ∀ t, ts[j]? = some t → v = cfv G (up M k j x) k j t) (hr : ∀ (j2 t : Nat), j2 ≠ j → cfv G M k j2 t = cfv G (up M k j x) k j2 t) : (ts.mapIdx (fun j t => cfv G M k j t)).set j v = ts.mapIdx (fun j2 t => cfv G (up M k j x) k j2 t) := by
  apply List.ext_getElem?
  intro i
  rw [List.getElem?_set]
  simp only [List.getElem?_mapIdx, List.length_mapIdx]
  by_cases hi : j = i
  · subst hi
    rw [if_pos rfl]
    cases hc : ts[j]? with
    | none => rw [if_neg (by have := List.getElem?_eq_none_iff.mp hc; omega)]; rfl
    | some t => rw [if_pos (List.getElem?_eq_some_iff.mp hc).1]; exact congrArg some (hv t hc)
  · rw [if_neg hi]
    cases hc : ts[i]? with
    | none => rfl
    | some t => exact congrArg some (hr i t (fun q => hi q.symm))
theorem cfv_oth {G : Gx} {M : Mm} {k j j2 t : Nat} {x : Int32} (h : j2 ≠ j) : cfv G M k j2 t = cfv G (up M k j x) k j2 t := by
  match t with
  | 0 => simp [cfv, up, h]
  | 1 => simp [cfv, up, h]
  | 2 => rfl
  | r + 3 => rfl
theorem wl_setF {sh : List Sh} {G : Gx} {M : Mm} {k j ci : Nat} {x : Int32} {ts : List Nat} (h : sh[k]? = some (.inr (ci, ts))) (ht : ts[j]? = some 0) : (wl sh G M).set k (G.2.2.2.2 k, .inr (ci, (ts.mapIdx (fun j t => cfv G M k j t)).set j (.int x))) = wl sh G (up M k j x) := by
  refine wl_set h ?_
  simp only [ccl]
  congr 2
  refine cfv_set (fun t h1 => ?_) (fun j2 t h1 => cfv_oth h1)
  rw [ht] at h1
  cases h1
  simp [cfv, up]
theorem wl_setL {sh : List Sh} {G : Gx} {M : Mm} {k j ci : Nat} {x : Int64} {ts : List Nat} (h : sh[k]? = some (.inr (ci, ts))) (ht : ts[j]? = some 1) (hx : x.toInt32.toInt64 = x) : (wl sh G M).set k (G.2.2.2.2 k, .inr (ci, (ts.mapIdx (fun j t => cfv G M k j t)).set j (.long x))) = wl sh G (up M k j x.toInt32) := by
  refine wl_set h ?_
  simp only [ccl]
  congr 2
  refine cfv_set (fun t h1 => ?_) (fun j2 t h1 => cfv_oth h1)
  rw [ht] at h1
  cases h1
  simp [cfv, up, hx]
theorem wl_setA {sh : List Sh} {G : Gx} {M : Mm} {k n i : Nat} {x : Int32} (h : sh[k]? = some (.inl (0, n))) : (wl sh G M).set k (G.2.2.2.2 k, .inl (G.2.1, n, .inl (upd (M k) i x))) = wl sh G (up M k i x) := by
  refine wl_set h ?_
  simp only [ccl]
  congr 3
  rw [up_eq]
  rfl
theorem wl_setZ {sh : List Sh} {G : Gx} {M : Mm} {k n i : Nat} {x : Int32} (h : sh[k]? = some (.inl (1, n))) : (wl sh G M).set k (G.2.2.2.2 k, .inl (G.2.2.1, n, .inl (upd (M k) i x))) = wl sh G (up M k i x) := by
  refine wl_set h ?_
  simp only [ccl]
  congr 3
  rw [up_eq]
  rfl
/-- a row replaced whole -/
def upr (M : Mm) (k : Nat) (g : Nat → Int32) : Mm := fun a => if a = k then g else M a
theorem upr_ne {M : Mm} {k a : Nat} {g : Nat → Int32} (h : a ≠ k) : upr M k g a = M a := by simp [upr, h]
theorem ccl_neR {G : Gx} {M : Mm} {k i : Nat} {g : Nat → Int32} {c : Sh} (h : i ≠ k) : ccl G (upr M k g) i c = ccl G M i c := by
  rcases c with ⟨t, n⟩ | ⟨ci, ts⟩
  · match t with
    | 0 => simp only [ccl, upr_ne h]
    | 1 => simp only [ccl, upr_ne h]
    | b + 2 => rfl
  · simp only [ccl]
    congr 2
    refine congrArg (fun f => ts.mapIdx f) ?_
    funext j2 t2
    match t2 with
    | 0 => simp only [cfv, upr_ne h]
    | 1 => simp only [cfv, upr_ne h]
    | 2 => rfl
    | r + 3 => rfl
theorem wl_setR {sh : List Sh} {G : Gx} {M : Mm} {k n : Nat} {g : Nat → Int32} (h : sh[k]? = some (.inl (0, n))) : (wl sh G M).set k (G.2.2.2.2 k, .inl (G.2.1, n, .inl g)) = wl sh G (upr M k g) := by
  apply List.ext_getElem?
  intro i
  rw [List.getElem?_set]
  have hk : k < sh.length := (List.getElem?_eq_some_iff.mp h).1
  by_cases hi : k = i
  · subst hi
    rw [if_pos rfl, if_pos (by simp [wl, hk]), wl_get h]
    simp [ccl, upr]
  · rw [if_neg hi]
    simp only [wl, List.getElem?_mapIdx]
    cases hc : sh[i]? with
    | none => rfl
    | some c => simp only [Option.map, ccl_neR (fun q => hi q.symm)]
theorem wl_D {sh : List Sh} {G : Gx} {M M' : Mm} {A : Nat → Prop} (h : va_D A (wl sh G M)) : va_D A (wl sh G M') := by
  refine ⟨fun i j p q hp hq e => ?_, fun k q hk => ?_⟩
  · obtain ⟨c, h1, rfl⟩ := wl_inv hp
    obtain ⟨d, h2, rfl⟩ := wl_inv hq
    exact h.1 i j _ _ (wl_get h1) (wl_get h2) e
  · obtain ⟨c, h1, rfl⟩ := wl_inv hk
    have h3 := h.2 k _ (wl_get (G := G) (M := M) h1)
    exact h3
/-- the cells that a method may change: the world's, and new ones -/
def AX (sh : List Sh) (G : Gx) (sz : Nat) : Nat → Prop := fun q => (∃ k, k < sh.length ∧ q = G.2.2.2.2 k) ∨ sz ≤ q
theorem AX_D {sh : List Sh} {G : Gx} {M : Mm} {A : Nat → Prop} {sz : Nat} (h : va_D A (wl sh G M)) : va_D (AX sh G sz) (wl sh G M) :=
  ⟨h.1, fun k q hk => by obtain ⟨c, h1, rfl⟩ := wl_inv hk; exact Or.inl ⟨k, (List.getElem?_eq_some_iff.mp h1).1, rfl⟩⟩
theorem AX_le {sh : List Sh} {G : Gx} {a b : Nat} (h : a ≤ b) {q : Nat} (hq : AX sh G b q) : AX sh G a q := hq.elim Or.inl (fun z => Or.inr (Nat.le_trans h z))
abbrev tys3 (G : Gx) : List (ClassId × FieldType) := [(G.2.1, .int), (G.2.2.1, .boolean), (G.2.2.2.1, .object RX0)]
/-- the class's own texts, by number: their lengths, bytes, places; the row of kinds above kinds -/
def sLens : List Nat := [4, 5, 6, 3, 4, 4, 7, 7, 6, 2, 3, 3, 35]
def sByts : List (List Int32) := [[116, 111, 110, 101], [104, 111, 117, 115, 101], [110, 117, 109, 98, 101, 114], [100, 97, 121], [114, 101, 97, 100], [109, 105, 110, 101], [99, 97, 114, 114, 105, 101, 115], [115, 111, 102, 116, 101, 110, 115], [119, 114, 105, 116, 101, 115], [111, 114], [97, 110, 100], [110, 111, 116], [99, 97, 114, 114, 105, 101, 115, 32, 49, 32, 59, 32, 115, 111, 102, 116, 101, 110, 115, 32, 53, 32, 59, 32, 119, 114, 105, 116, 101, 115, 32, 52, 48, 32, 59]]
def sRef (i : Nat) : String × Nat × String := ([("NextHouseUp$Tape", 126, "tone"), ("NextHouseUp$Tape", 128, "house"), ("NextHouseUp$Tape", 130, "number"), ("NextHouseUp$Tape", 131, "day"), ("NextHouseUp$Tape", 133, "read"), ("NextHouseUp$Tape", 135, "mine"), ("NextHouseUp$Tape", 137, "carries"), ("NextHouseUp$Tape", 139, "softens"), ("NextHouseUp$Tape", 141, "writes"), ("NextHouseUp$Tape", 143, "or"), ("NextHouseUp$Tape", 145, "and"), ("NextHouseUp$Tape", 147, "not"), ("NextHouseUp", 25, "carries 1 ; softens 5 ; writes 40 ;")] : List (String × Nat × String)).getD i ("", 0, "")
def slen (w : Nat) : Nat := sLens.getD (w - 1000) 0
def sbyt (w : Nat) (j : Nat) : Int32 := (sByts.getD (w - 1000) []).getD j 0
def abv (j : Nat) : Int32 := ([-1, 0, 0, 1, 2, 0] : List Int32).getD j 0
def StOk (w : Nat) : Prop := 1000 ≤ w ∧ w < 1013
/-- what is known besides of a state: the texts, and three statics -/
def XT (G : Gx) (sh : List Sh) (U : State) : Prop :=
  vk_S 13 sLens sByts (fun i => G.2.2.2.2 (1000 + i)) (fun i => G.2.2.2.2 (2000 + i)) (AX sh G U.heap.size) U U.heap ∧
  (∀ i, i < 13 → vk_R (sRef i).1 (sRef i).2.1 (sRef i).2.2 (G.2.2.2.2 (1000 + i)) U) ∧
  va_Z "java/lang/String" "COMPACT_STRINGS" "Z" (.int 1) (AX sh G U.heap.size) U U.heap ∧
  va_Zq "jdk/internal/util/Preconditions" "SIOOBE_FORMATTER" "Ljava/util/function/BiFunction;" (AX sh G U.heap.size) U U.heap ∧
  va_Z "NextHouseUp$Village" "ABOVE" "[I" (.ref (G.2.2.2.2 3000)) (AX sh G U.heap.size) U U.heap ∧
  va_T .int (G.2.2.2.2 3000) 6 (fun j => .int (abv j)) (AX sh G U.heap.size) U U.heap
theorem va_Zq_kept {C n d : String} {A : Nat → Prop} {U : State} {H H1 : Heap} (h : va_Zq C n d A U H) (hq : ∀ a : Nat, a < H.size → ¬ A a → H1[a]? = H[a]?) : va_Zq C n d A U H1 := by
  rcases h with h | ⟨t, h⟩
  · exact Or.inl (h.kept hq)
  · exact Or.inr ⟨t, h.kept hq⟩
theorem va_Zq_narrow {C n d : String} {A B : Nat → Prop} {U : State} {H : Heap} (h : va_Zq C n d A U H) (hAB : ∀ q, B q → A q) : va_Zq C n d B U H := by
  rcases h with h | ⟨t, h⟩
  · exact Or.inl (h.narrow hAB)
  · exact Or.inr ⟨t, h.narrow hAB⟩
theorem XT_moved {G : Gx} {sh : List Sh} {s U : State} {H : Heap} {locs : List Loc} (h : XT G sh s) (hS : va_S (AX sh G s.heap.size) s.heap H locs) (hU : U.heap = H) (hW : s.WarmedH U.vm) : XT G sh U := by
  obtain ⟨h1, h2, h3, h4, h5, h6⟩ := h
  subst hU
  have hn : ∀ q, AX sh G U.heap.size q → AX sh G s.heap.size q := fun q z => AX_le hS.1 z
  exact ⟨((h1.moved hW.alike).kept hS.2.1).narrow hn, fun i hi => vk_R.warm hW (h2 i hi), ((va_Z.moved hW.alike h3).kept hS.2.1).narrow hn, va_Zq_narrow (va_Zq_kept (va_Zq.moved hW.alike h4) hS.2.1) hn, ((va_Z.moved hW.alike h5).kept hS.2.1).narrow hn, ((va_T.moved hW.alike h6).kept hS.2.1).narrow hn⟩
theorem XT_calling {G : Gx} {sh : List Sh} {U : State} {g : JFrame} {mk : MethodId} {a : Array Value} (h : XT G sh U) : XT G sh (U.calling g mk a) := by
  obtain ⟨h1, h2, h3, h4, h5, h6⟩ := h
  exact ⟨vk_S.moved (u := U) (U := U.calling g mk a) (Vm.Alike.refl U.vm) h1, fun i hi => vk_R.same (u := U) (U := U.calling g mk a) rfl (h2 i hi), va_Z.moved (u := U) (U := U.calling g mk a) (Vm.Alike.refl U.vm) h3, va_Zq.moved (u := U) (U := U.calling g mk a) (Vm.Alike.refl U.vm) h4, va_Z.moved (u := U) (U := U.calling g mk a) (Vm.Alike.refl U.vm) h5, va_T.moved (u := U) (U := U.calling g mk a) (Vm.Alike.refl U.vm) h6⟩
def PG (G : Gx) (sh : List Sh) (M : Mm) (sz : Nat) (U : State) : Prop := U.heap.size = sz ∧ va_P G.1 vwCl (wl sh G M) U.heap ∧ va_K G.1 vwCl (tys3 G) U ∧ va_D (fun _ => True) (wl sh G M) ∧ XT G sh U
def QG (v : Option Value) (G : Gx) (sh : List Sh) (M' : Mm) (sz : Nat) : Array Value → State → Outcome → State → Prop := fun _ st oc t => (oc = .returned v ∧ va_P G.1 vwCl (wl sh G M') t.heap) ∧ va_F (AX sh G sz) st t
/-- a method's contract: whatever answer and memory e foretells, it returns with them -/
def CT {α : Type} (y : MethodName) (cc : ByteArray) (maxL : Nat) (ret : Option FieldType) (rm : Room) (G : Gx) (sh : List Sh) (argv : List Value) (rv : α → Option Value) (M : Mm) (e : Option (α × Mm)) : Prop :=
  ∀ (l : Launch) (r : α) (M' : Mm) (sz : Nat), e = some (r, M') → Met l y (Cond.code y cc maxL ret :: gT) rm (va_Pc argv (PG G sh M sz)) (QG (rv r) G sh M' sz) 0 0 (AX sh G sz)
abbrev Cx : Type := Program × Launch × Env × Room × State × MethodId × Array Value × List Frame × Method × Code
def VW (X : Cx) (G : Gx) (sh : List Sh) (nL : Nat) (Q : State → Prop) (M : Mm) (pc : Nat) (lo : List (Nat × Value)) (st : List Value) : Prop := match X with
  | (p, l, e, R, s, m, args, below, meth, c) => ∀ (H : Heap) (locs : List Loc) (ls : Array Slot), va_P G.1 vwCl (wl sh G M) H → va_D (AX sh G s.heap.size) (wl sh G M) → va_S (AX sh G s.heap.size) s.heap H locs → lv_has ls nL lo → W p l e R s m args below meth c H locs 0 0 Q (F0 m pc ls st)
def VQ (X : Cx) (G : Gx) (sh : List Sh) (v : Option Value) (M' : Mm) : State → Prop := match X with
  | (_, _, _, _, s, _, args, below, _, _) => MQ below (QG v G sh M' s.heap.size) args s 0 0 (AX sh G s.heap.size)
def FX (X : Cx) (G : Gx) (sh : List Sh) (nL : Nat) (cc : ByteArray) (own : String) (ret : Option FieldType) (rm : Room) : Prop := match X with
  | (p, _, _, R, s, m, args, _, meth, c) => p.tables.exec = Jvm.exec ∧ c.code = cc ∧ s.vm.findClass own = some m.cls ∧ (∀ w ∈ gT, w.before args s = true) ∧ va_K G.1 vwCl (tys3 G) s ∧ c.maxLocals = nL ∧ meth.sig.returnType = ret ∧ meth.locks = false ∧ R = rm ∧ XT G sh s
def VR {α : Type} (X : Cx) (G : Gx) (sh : List Sh) (nL : Nat) (rv : α → Option Value) (M : Mm) (pc : Nat) (lo : List (Nat × Value)) (st : List Value) (e : Option (α × Mm)) : Prop :=
  ∀ (r : α) (M' : Mm), e = some (r, M') → VW X G sh nL (VQ X G sh (rv r) M') M pc lo st
def rvI : Int32 → Option Value := fun r => some (.int r)
def rvJ : Int64 → Option Value := fun r => some (.long r)
def rvV : Unit → Option Value := fun _ => none
def rvR (G : Gx) : Option Nat → Option Value := fun r => match r with
  | some k => some (.ref (G.2.2.2.2 k))
  | none => some .null
def gd {β : Type} (b : Bool) (e : Option β) : Option β := match b with
  | true => e
  | false => none
def bd {α β : Type} (o : Option (α × Mm)) (f : α → Mm → Option β) : Option β := match o with
  | some x => f x.1 x.2
  | none => none
def lt1 {α β : Type} (x : α) (f : α → β) : β := f x
def inr (i : Int32) (n : Nat) : Bool := !(decide (i < 0) || decide (n ≤ i.toNatClampNeg))
def z01 (x : Int32) : Bool := decide (x = 0) || decide (x = 1)
def ushr (x y : Int32) : Int32 := (x.toUInt32 >>> (y.toUInt32 &&& Int32.toUInt32 31)).toInt32
def shl (x y : Int32) : Int32 := x <<< (y &&& 31)
def shr (x y : Int32) : Int32 := x >>> (y &&& 31)
def irm (x y : Int32) : Int32 := x - x / y * y
def lrm (x y : Int64) : Int64 := x - x / y * y
def FU : Nat := 1000000
def rcase {β : Type} (f0 : Mm → β) (f1 : Nat → Mm → β) : Option Nat → Mm → β := fun r M => match r with
  | none => f0 M
  | some a => f1 a M
def cpok (sp dp n : Int32) (n0 n1 : Nat) : Bool := !(decide (sp < 0)) && !(decide (dp < 0)) && !(decide (n < 0)) && decide (sp.toNatClampNeg + n.toNatClampNeg ≤ n0) && decide (dp.toNatClampNeg + n.toNatClampNeg ≤ n1)
def mmin (x y : Int32) : Int32 := if y < x then y else x
def mmax (x y : Int32) : Int32 := if x < y then y else x
theorem inr_in {i : Int32} {n : Nat} (h : inr i n = true) : vp_in i n := by
  intro q
  simp only [inr, Bool.not_eq_true', Bool.or_eq_false_iff, decide_eq_false_iff_not] at h
  exact q.elim h.1 h.2
theorem CT.of {α : Type} {y : MethodName} {cc : ByteArray} {maxL : Nat} {ret : Option FieldType} {rm : Room} {G : Gx} {sh : List Sh} {argv : List Value} {rv : α → Option Value} {M : Mm} {e : Option (α × Mm)} (hy : plainName y.cls = true) (hn : (lg_sl argv).length ≤ maxL) (h : ∀ X : Cx, FX X G sh maxL cc y.cls ret rm → VR X G sh maxL rv M 0 (lv_args 0 argv) [] e) : CT y cc maxL ret rm G sh argv rv M e := by
  intro l r M' sz he
  refine Met.ofW (cc := cc) (maxL := maxL) (ret := ret) hy rfl ?_
  intro p en s m args below meth c s₁ B hml hv
  obtain ⟨rfl, hsz, hP, hK, hD0, hX⟩ := hv
  have hts := atoms_spec (ws := Cond.code y cc maxL ret :: gT) B.pre
  have hF : FX (p, l, en, rm, s, m, argv.toArray, below, meth, c) G sh maxL cc y.cls ret rm := ⟨B.exec, B.bytes, findClass_of_methodNamed B.named, fun w hw => hts w (List.mem_cons_of_mem _ hw), hK, hml, B.returns, B.notSynchronized, rfl, hX⟩
  have k := h _ hF r M' he s.heap [] ((lg_sl argv ++ List.replicate (maxL - (lg_sl argv).length) Slot.unset).toArray) hP (AX_D hD0) va_S.rf (lv_entry argv hn)
  rw [lg_entry_eq]
  subst hsz
  exact k
section VRS
variable {α : Type} {X : Cx} {G : Gx} {sh : List Sh} {nL : Nat} {rv : α → Option Value} {M : Mm} {pc q : Nat} {lo : List (Nat × Value)} {st : List Value} {e : Option (α × Mm)} {cc : ByteArray} {own : String} {ret : Option FieldType} {rm : Room}
theorem VR.none : VR X G sh nL rv M pc lo st (Option.none : Option (α × Mm)) := fun _ _ h => by cases h
theorem VR.pick {lo' : List (Nat × Value)} (ks : List Nat) (h : lv_pick lo ks = lo') (k : VR X G sh nL rv M pc lo' st e) : VR X G sh nL rv M pc lo st e := by
  obtain ⟨p, l, en, R, s, m, args, below, meth, c⟩ := X
  intro r M' he H locs ls hP hD hS hl
  exact k r M' he H locs ls hP hD hS (lv_sub hl ks h)
theorem v_gd {b : Bool} (k : b = true → VR X G sh nL rv M pc lo st e) : VR X G sh nL rv M pc lo st (gd b e) := by
  cases b with
  | true => exact k rfl
  | false => exact VR.none
theorem v_iconst {n : Int} (v : Int32) (q : Nat) (hF : FX X G sh nL cc own ret rm) (hd : decode cc pc = .ok (.iconst n, 1)) (hq : pc + 1 = q) (hv : Int32.ofInt n = v) (k : VR X G sh nL rv M q lo (.int v :: st) e) : VR X G sh nL rv M pc lo st e := by
  obtain ⟨p, l, en, R, s, m, args, below, meth, c⟩ := X
  subst hq
  intro r M' he H locs ls hP hD hS hl
  obtain ⟨hx, hb, hown, hts, hK, hml, hr, hlk, hR, hXT⟩ := hF
  exact lv_iconst hx hb hd hv (k r M' he H locs ls hP hD hS hl)
theorem v_bipush {n : Int} (v : Int32) (q : Nat) (hF : FX X G sh nL cc own ret rm) (hd : decode cc pc = .ok (.bipush n, 2)) (hq : pc + 2 = q) (hv : (Int8.ofInt n).toInt32 = v) (k : VR X G sh nL rv M q lo (.int v :: st) e) : VR X G sh nL rv M pc lo st e := by
  obtain ⟨p, l, en, R, s, m, args, below, meth, c⟩ := X
  subst hq
  intro r M' he H locs ls hP hD hS hl
  obtain ⟨hx, hb, hown, hts, hK, hml, hr, hlk, hR, hXT⟩ := hF
  exact lv_bipush hx hb hd hv (k r M' he H locs ls hP hD hS hl)
theorem v_sipush {n : Int} (v : Int32) (q : Nat) (hF : FX X G sh nL cc own ret rm) (hd : decode cc pc = .ok (.sipush n, 3)) (hq : pc + 3 = q) (hv : (Int16.ofInt n).toInt32 = v) (k : VR X G sh nL rv M q lo (.int v :: st) e) : VR X G sh nL rv M pc lo st e := by
  obtain ⟨p, l, en, R, s, m, args, below, meth, c⟩ := X
  subst hq
  intro r M' he H locs ls hP hD hS hl
  obtain ⟨hx, hb, hown, hts, hK, hml, hr, hlk, hR, hXT⟩ := hF
  exact lv_sipush hx hb hd hv (k r M' he H locs ls hP hD hS hl)
theorem v_lconst {n : Fin 2} (v : Int64) (q : Nat) (hF : FX X G sh nL cc own ret rm) (hd : decode cc pc = .ok (.lconst n, 1)) (hq : pc + 1 = q) (hv : Int64.ofNat (n : Nat) = v) (k : VR X G sh nL rv M q lo (.long v :: st) e) : VR X G sh nL rv M pc lo st e := by
  obtain ⟨p, l, en, R, s, m, args, below, meth, c⟩ := X
  subst hq
  intro r M' he H locs ls hP hD hS hl
  obtain ⟨hx, hb, hown, hts, hK, hml, hr, hlk, hR, hXT⟩ := hF
  exact lv_lconst hx hb hd hv (k r M' he H locs ls hP hD hS hl)
theorem v_ldc {index : Nat} (v : Int32) (q : Nat) (hF : FX X G sh nL cc own ret rm) (hd : decode cc pc = .ok (.ldc index, 2)) (hq : pc + 2 = q) (hc : Cond.constant own index v ∈ gT) (k : VR X G sh nL rv M q lo (.int v :: st) e) : VR X G sh nL rv M pc lo st e := by
  obtain ⟨p, l, en, R, s, m, args, below, meth, c⟩ := X
  subst hq
  intro r M' he H locs ls hP hD hS hl
  obtain ⟨hx, hb, hown, hts, hK, hml, hr, hlk, hR, hXT⟩ := hF
  exact lv_ldc hx hb hown (hts _ hc) hd (k r M' he H locs ls hP hD hS hl)
theorem v_ldcw {index : Nat} (v : Int32) (q : Nat) (hF : FX X G sh nL cc own ret rm) (hd : decode cc pc = .ok (.ldc_w index, 3)) (hq : pc + 3 = q) (hc : Cond.constant own index v ∈ gT) (k : VR X G sh nL rv M q lo (.int v :: st) e) : VR X G sh nL rv M pc lo st e := by
  obtain ⟨p, l, en, R, s, m, args, below, meth, c⟩ := X
  subst hq
  intro r M' he H locs ls hP hD hS hl
  obtain ⟨hx, hb, hown, hts, hK, hml, hr, hlk, hR, hXT⟩ := hF
  exact lv_ldcw hx hb hown (hts _ hc) hd (k r M' he H locs ls hP hD hS hl)
theorem v_ldc2 {index : Nat} (v : Int64) (q : Nat) (hF : FX X G sh nL cc own ret rm) (hd : decode cc pc = .ok (.ldc2_w index, 3)) (hq : pc + 3 = q) (hc : Cond.constantLong own index v ∈ gT) (k : VR X G sh nL rv M q lo (.long v :: st) e) : VR X G sh nL rv M pc lo st e := by
  obtain ⟨p, l, en, R, s, m, args, below, meth, c⟩ := X
  subst hq
  intro r M' he H locs ls hP hD hS hl
  obtain ⟨hx, hb, hown, hts, hK, hml, hr, hlk, hR, hXT⟩ := hF
  exact lv_ldc2 hx hb hown (hts _ hc) hd (k r M' he H locs ls hP hD hS hl)
theorem v_null  (q : Nat) (hF : FX X G sh nL cc own ret rm) (hd : decode cc pc = .ok (.aconst_null, 1)) (hq : pc + 1 = q) (k : VR X G sh nL rv M q lo (.null :: st) e) : VR X G sh nL rv M pc lo st e := by
  obtain ⟨p, l, en, R, s, m, args, below, meth, c⟩ := X
  subst hq
  intro r M' he H locs ls hP hD hS hl
  obtain ⟨hx, hb, hown, hts, hK, hml, hr, hlk, hR, hXT⟩ := hF
  exact lv_null hx hb hd (k r M' he H locs ls hP hD hS hl)
theorem v_iload_n {j : Fin 4} {i : Nat} {x : Int32} (a : Nat) (q : Nat) (hF : FX X G sh nL cc own ret rm) (hd : decode cc pc = .ok (.iload_n j, 1)) (hq : pc + 1 = q) (hi : (j : Nat) = i) (hlo : lo[a]? = some (i, .int x)) (k : VR X G sh nL rv M q lo (.int x :: st) e) : VR X G sh nL rv M pc lo st e := by
  obtain ⟨p, l, en, R, s, m, args, below, meth, c⟩ := X
  subst hq
  intro r M' he H locs ls hP hD hS hl
  obtain ⟨hx, hb, hown, hts, hK, hml, hr, hlk, hR, hXT⟩ := hF
  exact lv_iload_n hx hb hd hi (lv_at hl a hlo) (k r M' he H locs ls hP hD hS hl)
theorem v_iload {i : Nat} {x : Int32} (a : Nat) (q : Nat) (hF : FX X G sh nL cc own ret rm) (hd : decode cc pc = .ok (.iload i, 2)) (hq : pc + 2 = q) (hlo : lo[a]? = some (i, .int x)) (k : VR X G sh nL rv M q lo (.int x :: st) e) : VR X G sh nL rv M pc lo st e := by
  obtain ⟨p, l, en, R, s, m, args, below, meth, c⟩ := X
  subst hq
  intro r M' he H locs ls hP hD hS hl
  obtain ⟨hx, hb, hown, hts, hK, hml, hr, hlk, hR, hXT⟩ := hF
  exact lv_iload hx hb hd (lv_at hl a hlo) (k r M' he H locs ls hP hD hS hl)
theorem v_lload_n {j : Fin 4} {i : Nat} {x : Int64} (a : Nat) (q : Nat) (hF : FX X G sh nL cc own ret rm) (hd : decode cc pc = .ok (.lload_n j, 1)) (hq : pc + 1 = q) (hi : (j : Nat) = i) (hlo : lo[a]? = some (i, .long x)) (k : VR X G sh nL rv M q lo (.long x :: st) e) : VR X G sh nL rv M pc lo st e := by
  obtain ⟨p, l, en, R, s, m, args, below, meth, c⟩ := X
  subst hq
  intro r M' he H locs ls hP hD hS hl
  obtain ⟨hx, hb, hown, hts, hK, hml, hr, hlk, hR, hXT⟩ := hF
  exact lv_lload_n hx hb hd hi (lv_at hl a hlo) (k r M' he H locs ls hP hD hS hl)
theorem v_lload {i : Nat} {x : Int64} (a : Nat) (q : Nat) (hF : FX X G sh nL cc own ret rm) (hd : decode cc pc = .ok (.lload i, 2)) (hq : pc + 2 = q) (hlo : lo[a]? = some (i, .long x)) (k : VR X G sh nL rv M q lo (.long x :: st) e) : VR X G sh nL rv M pc lo st e := by
  obtain ⟨p, l, en, R, s, m, args, below, meth, c⟩ := X
  subst hq
  intro r M' he H locs ls hP hD hS hl
  obtain ⟨hx, hb, hown, hts, hK, hml, hr, hlk, hR, hXT⟩ := hF
  exact lv_lload hx hb hd (lv_at hl a hlo) (k r M' he H locs ls hP hD hS hl)
theorem v_aload_n {j : Fin 4} {i : Nat} {x : Nat} (a : Nat) (q : Nat) (hF : FX X G sh nL cc own ret rm) (hd : decode cc pc = .ok (.aload_n j, 1)) (hq : pc + 1 = q) (hi : (j : Nat) = i) (hlo : lo[a]? = some (i, .ref x)) (k : VR X G sh nL rv M q lo (.ref x :: st) e) : VR X G sh nL rv M pc lo st e := by
  obtain ⟨p, l, en, R, s, m, args, below, meth, c⟩ := X
  subst hq
  intro r M' he H locs ls hP hD hS hl
  obtain ⟨hx, hb, hown, hts, hK, hml, hr, hlk, hR, hXT⟩ := hF
  exact lv_aload_n hx hb hd hi (lv_at hl a hlo) (k r M' he H locs ls hP hD hS hl)
theorem v_aload {i : Nat} {x : Nat} (a : Nat) (q : Nat) (hF : FX X G sh nL cc own ret rm) (hd : decode cc pc = .ok (.aload i, 2)) (hq : pc + 2 = q) (hlo : lo[a]? = some (i, .ref x)) (k : VR X G sh nL rv M q lo (.ref x :: st) e) : VR X G sh nL rv M pc lo st e := by
  obtain ⟨p, l, en, R, s, m, args, below, meth, c⟩ := X
  subst hq
  intro r M' he H locs ls hP hD hS hl
  obtain ⟨hx, hb, hown, hts, hK, hml, hr, hlk, hR, hXT⟩ := hF
  exact lv_aload hx hb hd (lv_at hl a hlo) (k r M' he H locs ls hP hD hS hl)
theorem v_aload_nN {j : Fin 4} {i : Nat} (a : Nat) (q : Nat) (hF : FX X G sh nL cc own ret rm) (hd : decode cc pc = .ok (.aload_n j, 1)) (hq : pc + 1 = q) (hi : (j : Nat) = i) (hlo : lo[a]? = some (i, .null)) (k : VR X G sh nL rv M q lo (.null :: st) e) : VR X G sh nL rv M pc lo st e := by
  obtain ⟨p, l, en, R, s, m, args, below, meth, c⟩ := X
  subst hq
  intro r M' he H locs ls hP hD hS hl
  obtain ⟨hx, hb, hown, hts, hK, hml, hr, hlk, hR, hXT⟩ := hF
  exact lv_aload_nN hx hb hd hi (lv_at hl a hlo) (k r M' he H locs ls hP hD hS hl)
theorem v_aloadN {i : Nat} (a : Nat) (q : Nat) (hF : FX X G sh nL cc own ret rm) (hd : decode cc pc = .ok (.aload i, 2)) (hq : pc + 2 = q) (hlo : lo[a]? = some (i, .null)) (k : VR X G sh nL rv M q lo (.null :: st) e) : VR X G sh nL rv M pc lo st e := by
  obtain ⟨p, l, en, R, s, m, args, below, meth, c⟩ := X
  subst hq
  intro r M' he H locs ls hP hD hS hl
  obtain ⟨hx, hb, hown, hts, hK, hml, hr, hlk, hR, hXT⟩ := hF
  exact lv_aloadN hx hb hd (lv_at hl a hlo) (k r M' he H locs ls hP hD hS hl)
theorem v_istore_n {j : Fin 4} {i : Nat} {x : Int32} {lo' : Int32 → List (Nat × Value)} {f : Int32 → Option (α × Mm)} (q : Nat) (hF : FX X G sh nL cc own ret rm) (hd : decode cc pc = .ok (.istore_n j, 1)) (hq : pc + 1 = q) (hi : (j : Nat) = i) (hn : i < nL) (hlo : ∀ y, (i, Value.int y) :: lo.filter (fun q => !(q.1 == i) && !(q.1 + 1 == i && q.2.category == 2)) = lo' y) (k : ∀ y, VR X G sh nL rv M q (lo' y) st (f y)) : VR X G sh nL rv M pc lo (.int x :: st) (lt1 x f) := by
  obtain ⟨p, l, en, R, s, m, args, below, meth, c⟩ := X
  subst hq
  intro r M' he H locs ls hP hD hS hl
  obtain ⟨hx, hb, hown, hts, hK, hml, hr, hlk, hR, hXT⟩ := hF
  exact lv_istore_n hx hb hd hi hl hn (hlo x) (fun ls hl => k x r M' he H locs ls hP hD hS hl)
theorem v_lstore_n {j : Fin 4} {i : Nat} {x : Int64} {lo' : Int64 → List (Nat × Value)} {f : Int64 → Option (α × Mm)} (q : Nat) (hF : FX X G sh nL cc own ret rm) (hd : decode cc pc = .ok (.lstore_n j, 1)) (hq : pc + 1 = q) (hi : (j : Nat) = i) (hn : i + 1 < nL) (hlo : ∀ y, (i, Value.long y) :: lo.filter (fun q => !(q.1 == i) && (!(q.1 == i + 1) && !(q.1 + 1 == i && q.2.category == 2))) = lo' y) (k : ∀ y, VR X G sh nL rv M q (lo' y) st (f y)) : VR X G sh nL rv M pc lo (.long x :: st) (lt1 x f) := by
  obtain ⟨p, l, en, R, s, m, args, below, meth, c⟩ := X
  subst hq
  intro r M' he H locs ls hP hD hS hl
  obtain ⟨hx, hb, hown, hts, hK, hml, hr, hlk, hR, hXT⟩ := hF
  exact lv_lstore_n hx hb hd hi hl hn (hlo x) (fun ls hl => k x r M' he H locs ls hP hD hS hl)
theorem v_astore_n {j : Fin 4} {i : Nat} {x : Nat} {lo' : List (Nat × Value)} (q : Nat) (hF : FX X G sh nL cc own ret rm) (hd : decode cc pc = .ok (.astore_n j, 1)) (hq : pc + 1 = q) (hi : (j : Nat) = i) (hn : i < nL) (hlo : (i, Value.ref x) :: lo.filter (fun q => !(q.1 == i) && !(q.1 + 1 == i && q.2.category == 2)) = lo') (k : VR X G sh nL rv M q lo' st e) : VR X G sh nL rv M pc lo (.ref x :: st) e := by
  obtain ⟨p, l, en, R, s, m, args, below, meth, c⟩ := X
  subst hq
  intro r M' he H locs ls hP hD hS hl
  obtain ⟨hx, hb, hown, hts, hK, hml, hr, hlk, hR, hXT⟩ := hF
  exact lv_astore_n hx hb hd hi hl hn hlo (fun ls hl => k r M' he H locs ls hP hD hS hl)
theorem v_astore_nN {j : Fin 4} {i : Nat} {lo' : List (Nat × Value)} (q : Nat) (hF : FX X G sh nL cc own ret rm) (hd : decode cc pc = .ok (.astore_n j, 1)) (hq : pc + 1 = q) (hi : (j : Nat) = i) (hn : i < nL) (hlo : (i, Value.null) :: lo.filter (fun q => !(q.1 == i) && !(q.1 + 1 == i && q.2.category == 2)) = lo') (k : VR X G sh nL rv M q lo' st e) : VR X G sh nL rv M pc lo (.null :: st) e := by
  obtain ⟨p, l, en, R, s, m, args, below, meth, c⟩ := X
  subst hq
  intro r M' he H locs ls hP hD hS hl
  obtain ⟨hx, hb, hown, hts, hK, hml, hr, hlk, hR, hXT⟩ := hF
  exact lv_astore_nN hx hb hd hi hl hn hlo (fun ls hl => k r M' he H locs ls hP hD hS hl)
theorem v_istore {i : Nat} {x : Int32} {lo' : Int32 → List (Nat × Value)} {f : Int32 → Option (α × Mm)} (q : Nat) (hF : FX X G sh nL cc own ret rm) (hd : decode cc pc = .ok (.istore i, 2)) (hq : pc + 2 = q) (hn : i < nL) (hlo : ∀ y, (i, Value.int y) :: lo.filter (fun q => !(q.1 == i) && !(q.1 + 1 == i && q.2.category == 2)) = lo' y) (k : ∀ y, VR X G sh nL rv M q (lo' y) st (f y)) : VR X G sh nL rv M pc lo (.int x :: st) (lt1 x f) := by
  obtain ⟨p, l, en, R, s, m, args, below, meth, c⟩ := X
  subst hq
  intro r M' he H locs ls hP hD hS hl
  obtain ⟨hx, hb, hown, hts, hK, hml, hr, hlk, hR, hXT⟩ := hF
  exact lv_istore hx hb hd hl hn (hlo x) (fun ls hl => k x r M' he H locs ls hP hD hS hl)
theorem v_lstore {i : Nat} {x : Int64} {lo' : Int64 → List (Nat × Value)} {f : Int64 → Option (α × Mm)} (q : Nat) (hF : FX X G sh nL cc own ret rm) (hd : decode cc pc = .ok (.lstore i, 2)) (hq : pc + 2 = q) (hn : i + 1 < nL) (hlo : ∀ y, (i, Value.long y) :: lo.filter (fun q => !(q.1 == i) && (!(q.1 == i + 1) && !(q.1 + 1 == i && q.2.category == 2))) = lo' y) (k : ∀ y, VR X G sh nL rv M q (lo' y) st (f y)) : VR X G sh nL rv M pc lo (.long x :: st) (lt1 x f) := by
  obtain ⟨p, l, en, R, s, m, args, below, meth, c⟩ := X
  subst hq
  intro r M' he H locs ls hP hD hS hl
  obtain ⟨hx, hb, hown, hts, hK, hml, hr, hlk, hR, hXT⟩ := hF
  exact lv_lstore hx hb hd hl hn (hlo x) (fun ls hl => k x r M' he H locs ls hP hD hS hl)
theorem v_astore {i : Nat} {x : Nat} {lo' : List (Nat × Value)} (q : Nat) (hF : FX X G sh nL cc own ret rm) (hd : decode cc pc = .ok (.astore i, 2)) (hq : pc + 2 = q) (hn : i < nL) (hlo : (i, Value.ref x) :: lo.filter (fun q => !(q.1 == i) && !(q.1 + 1 == i && q.2.category == 2)) = lo') (k : VR X G sh nL rv M q lo' st e) : VR X G sh nL rv M pc lo (.ref x :: st) e := by
  obtain ⟨p, l, en, R, s, m, args, below, meth, c⟩ := X
  subst hq
  intro r M' he H locs ls hP hD hS hl
  obtain ⟨hx, hb, hown, hts, hK, hml, hr, hlk, hR, hXT⟩ := hF
  exact lv_astore hx hb hd hl hn hlo (fun ls hl => k r M' he H locs ls hP hD hS hl)
theorem v_astoreN {i : Nat} {lo' : List (Nat × Value)} (q : Nat) (hF : FX X G sh nL cc own ret rm) (hd : decode cc pc = .ok (.astore i, 2)) (hq : pc + 2 = q) (hn : i < nL) (hlo : (i, Value.null) :: lo.filter (fun q => !(q.1 == i) && !(q.1 + 1 == i && q.2.category == 2)) = lo') (k : VR X G sh nL rv M q lo' st e) : VR X G sh nL rv M pc lo (.null :: st) e := by
  obtain ⟨p, l, en, R, s, m, args, below, meth, c⟩ := X
  subst hq
  intro r M' he H locs ls hP hD hS hl
  obtain ⟨hx, hb, hown, hts, hK, hml, hr, hlk, hR, hXT⟩ := hF
  exact lv_astoreN hx hb hd hl hn hlo (fun ls hl => k r M' he H locs ls hP hD hS hl)
theorem v_iinc {i : Nat} {n : Int} {x v : Int32} {lo' : Int32 → List (Nat × Value)} {f : Int32 → Option (α × Mm)} (a : Nat) (q : Nat) (hF : FX X G sh nL cc own ret rm) (hd : decode cc pc = .ok (.iinc i n, 3)) (hq : pc + 3 = q) (hk : lo[a]? = some (i, .int x)) (hv : x + Int32.ofInt n = v) (hn : i < nL) (hlo : ∀ y, (i, Value.int y) :: lo.filter (fun q => !(q.1 == i) && !(q.1 + 1 == i && q.2.category == 2)) = lo' y) (k : ∀ y, VR X G sh nL rv M q (lo' y) st (f y)) : VR X G sh nL rv M pc lo st (lt1 v f) := by
  obtain ⟨p, l, en, R, s, m, args, below, meth, c⟩ := X
  subst hq
  intro r M' he H locs ls hP hD hS hl
  obtain ⟨hx, hb, hown, hts, hK, hml, hr, hlk, hR, hXT⟩ := hF
  exact lv_iinc hx hb hd hl hk hv hn (hlo v) (fun ls hl => k v r M' he H locs ls hP hD hS hl)
theorem v_iadd {x y : Int32} (q : Nat) (hF : FX X G sh nL cc own ret rm) (hd : decode cc pc = .ok (.iadd, 1)) (hq : pc + 1 = q) (k : VR X G sh nL rv M q lo (.int (x + y) :: st) e) : VR X G sh nL rv M pc lo (.int y :: .int x :: st) e := by
  obtain ⟨p, l, en, R, s, m, args, below, meth, c⟩ := X
  subst hq
  intro r M' he H locs ls hP hD hS hl
  obtain ⟨hx, hb, hown, hts, hK, hml, hr, hlk, hR, hXT⟩ := hF
  exact lv_iadd hx hb hd (k r M' he H locs ls hP hD hS hl)
theorem v_isub {x y : Int32} (q : Nat) (hF : FX X G sh nL cc own ret rm) (hd : decode cc pc = .ok (.isub, 1)) (hq : pc + 1 = q) (k : VR X G sh nL rv M q lo (.int (x - y) :: st) e) : VR X G sh nL rv M pc lo (.int y :: .int x :: st) e := by
  obtain ⟨p, l, en, R, s, m, args, below, meth, c⟩ := X
  subst hq
  intro r M' he H locs ls hP hD hS hl
  obtain ⟨hx, hb, hown, hts, hK, hml, hr, hlk, hR, hXT⟩ := hF
  exact lv_isub hx hb hd (k r M' he H locs ls hP hD hS hl)
theorem v_imul {x y : Int32} (q : Nat) (hF : FX X G sh nL cc own ret rm) (hd : decode cc pc = .ok (.imul, 1)) (hq : pc + 1 = q) (k : VR X G sh nL rv M q lo (.int (x * y) :: st) e) : VR X G sh nL rv M pc lo (.int y :: .int x :: st) e := by
  obtain ⟨p, l, en, R, s, m, args, below, meth, c⟩ := X
  subst hq
  intro r M' he H locs ls hP hD hS hl
  obtain ⟨hx, hb, hown, hts, hK, hml, hr, hlk, hR, hXT⟩ := hF
  exact lv_imul hx hb hd (k r M' he H locs ls hP hD hS hl)
theorem v_iand {x y : Int32} (q : Nat) (hF : FX X G sh nL cc own ret rm) (hd : decode cc pc = .ok (.iand, 1)) (hq : pc + 1 = q) (k : VR X G sh nL rv M q lo (.int (x &&& y) :: st) e) : VR X G sh nL rv M pc lo (.int y :: .int x :: st) e := by
  obtain ⟨p, l, en, R, s, m, args, below, meth, c⟩ := X
  subst hq
  intro r M' he H locs ls hP hD hS hl
  obtain ⟨hx, hb, hown, hts, hK, hml, hr, hlk, hR, hXT⟩ := hF
  exact lv_iand hx hb hd (k r M' he H locs ls hP hD hS hl)
theorem v_ior {x y : Int32} (q : Nat) (hF : FX X G sh nL cc own ret rm) (hd : decode cc pc = .ok (.ior, 1)) (hq : pc + 1 = q) (k : VR X G sh nL rv M q lo (.int (x ||| y) :: st) e) : VR X G sh nL rv M pc lo (.int y :: .int x :: st) e := by
  obtain ⟨p, l, en, R, s, m, args, below, meth, c⟩ := X
  subst hq
  intro r M' he H locs ls hP hD hS hl
  obtain ⟨hx, hb, hown, hts, hK, hml, hr, hlk, hR, hXT⟩ := hF
  exact lv_ior hx hb hd (k r M' he H locs ls hP hD hS hl)
theorem v_ixor {x y : Int32} (q : Nat) (hF : FX X G sh nL cc own ret rm) (hd : decode cc pc = .ok (.ixor, 1)) (hq : pc + 1 = q) (k : VR X G sh nL rv M q lo (.int (x ^^^ y) :: st) e) : VR X G sh nL rv M pc lo (.int y :: .int x :: st) e := by
  obtain ⟨p, l, en, R, s, m, args, below, meth, c⟩ := X
  subst hq
  intro r M' he H locs ls hP hD hS hl
  obtain ⟨hx, hb, hown, hts, hK, hml, hr, hlk, hR, hXT⟩ := hF
  exact lv_ixor hx hb hd (k r M' he H locs ls hP hD hS hl)
theorem v_ishl {x y : Int32} (q : Nat) (hF : FX X G sh nL cc own ret rm) (hd : decode cc pc = .ok (.ishl, 1)) (hq : pc + 1 = q) (k : VR X G sh nL rv M q lo (.int (shl x y) :: st) e) : VR X G sh nL rv M pc lo (.int y :: .int x :: st) e := by
  obtain ⟨p, l, en, R, s, m, args, below, meth, c⟩ := X
  subst hq
  intro r M' he H locs ls hP hD hS hl
  obtain ⟨hx, hb, hown, hts, hK, hml, hr, hlk, hR, hXT⟩ := hF
  exact lv_ishl hx hb hd (k r M' he H locs ls hP hD hS hl)
theorem v_ishr {x y : Int32} (q : Nat) (hF : FX X G sh nL cc own ret rm) (hd : decode cc pc = .ok (.ishr, 1)) (hq : pc + 1 = q) (k : VR X G sh nL rv M q lo (.int (shr x y) :: st) e) : VR X G sh nL rv M pc lo (.int y :: .int x :: st) e := by
  obtain ⟨p, l, en, R, s, m, args, below, meth, c⟩ := X
  subst hq
  intro r M' he H locs ls hP hD hS hl
  obtain ⟨hx, hb, hown, hts, hK, hml, hr, hlk, hR, hXT⟩ := hF
  exact lv_ishr hx hb hd (k r M' he H locs ls hP hD hS hl)
theorem v_ladd {x y : Int64} (q : Nat) (hF : FX X G sh nL cc own ret rm) (hd : decode cc pc = .ok (.ladd, 1)) (hq : pc + 1 = q) (k : VR X G sh nL rv M q lo (.long (x + y) :: st) e) : VR X G sh nL rv M pc lo (.long y :: .long x :: st) e := by
  obtain ⟨p, l, en, R, s, m, args, below, meth, c⟩ := X
  subst hq
  intro r M' he H locs ls hP hD hS hl
  obtain ⟨hx, hb, hown, hts, hK, hml, hr, hlk, hR, hXT⟩ := hF
  exact lv_ladd hx hb hd (k r M' he H locs ls hP hD hS hl)
theorem v_lsub {x y : Int64} (q : Nat) (hF : FX X G sh nL cc own ret rm) (hd : decode cc pc = .ok (.lsub, 1)) (hq : pc + 1 = q) (k : VR X G sh nL rv M q lo (.long (x - y) :: st) e) : VR X G sh nL rv M pc lo (.long y :: .long x :: st) e := by
  obtain ⟨p, l, en, R, s, m, args, below, meth, c⟩ := X
  subst hq
  intro r M' he H locs ls hP hD hS hl
  obtain ⟨hx, hb, hown, hts, hK, hml, hr, hlk, hR, hXT⟩ := hF
  exact lv_lsub hx hb hd (k r M' he H locs ls hP hD hS hl)
theorem v_lmul {x y : Int64} (q : Nat) (hF : FX X G sh nL cc own ret rm) (hd : decode cc pc = .ok (.lmul, 1)) (hq : pc + 1 = q) (k : VR X G sh nL rv M q lo (.long (x * y) :: st) e) : VR X G sh nL rv M pc lo (.long y :: .long x :: st) e := by
  obtain ⟨p, l, en, R, s, m, args, below, meth, c⟩ := X
  subst hq
  intro r M' he H locs ls hP hD hS hl
  obtain ⟨hx, hb, hown, hts, hK, hml, hr, hlk, hR, hXT⟩ := hF
  exact lv_lmul hx hb hd (k r M' he H locs ls hP hD hS hl)
theorem v_iushr {x y : Int32} (q : Nat) (hF : FX X G sh nL cc own ret rm) (hd : decode cc pc = .ok (.iushr, 1)) (hq : pc + 1 = q) (k : VR X G sh nL rv M q lo (.int (ushr x y) :: st) e) : VR X G sh nL rv M pc lo (.int y :: .int x :: st) e := by
  obtain ⟨p, l, en, R, s, m, args, below, meth, c⟩ := X
  subst hq
  intro r M' he H locs ls hP hD hS hl
  obtain ⟨hx, hb, hown, hts, hK, hml, hr, hlk, hR, hXT⟩ := hF
  exact lv_iushr hx hb hd rfl (k r M' he H locs ls hP hD hS hl)
theorem v_ineg {x : Int32} (q : Nat) (hF : FX X G sh nL cc own ret rm) (hd : decode cc pc = .ok (.ineg, 1)) (hq : pc + 1 = q) (k : VR X G sh nL rv M q lo (.int (-x) :: st) e) : VR X G sh nL rv M pc lo (.int x :: st) e := by
  obtain ⟨p, l, en, R, s, m, args, below, meth, c⟩ := X
  subst hq
  intro r M' he H locs ls hP hD hS hl
  obtain ⟨hx, hb, hown, hts, hK, hml, hr, hlk, hR, hXT⟩ := hF
  exact lv_ineg hx hb hd (k r M' he H locs ls hP hD hS hl)
theorem v_lcmp {x y : Int64} (q : Nat) (hF : FX X G sh nL cc own ret rm) (hd : decode cc pc = .ok (.lcmp, 1)) (hq : pc + 1 = q) (k : VR X G sh nL rv M q lo (.int (lg_cmp x y) :: st) e) : VR X G sh nL rv M pc lo (.long y :: .long x :: st) e := by
  obtain ⟨p, l, en, R, s, m, args, below, meth, c⟩ := X
  subst hq
  intro r M' he H locs ls hP hD hS hl
  obtain ⟨hx, hb, hown, hts, hK, hml, hr, hlk, hR, hXT⟩ := hF
  exact W.lcmp hx hb hd (k r M' he H locs ls hP hD hS hl)
theorem v_idiv {x y : Int32} (q : Nat) (hF : FX X G sh nL cc own ret rm) (hd : decode cc pc = .ok (.idiv, 1)) (hq : pc + 1 = q) (k : VR X G sh nL rv M q lo (.int (x / y) :: st) e) : VR X G sh nL rv M pc lo (.int y :: .int x :: st) (gd (!(decide (y = 0))) e) := by
  refine v_gd (fun hy => ?_)
  have hy : ¬ y = 0 := by simpa using hy
  obtain ⟨p, l, en, R, s, m, args, below, meth, c⟩ := X
  subst hq
  intro r M' he H locs ls hP hD hS hl
  obtain ⟨hx, hb, hown, hts, hK, hml, hr, hlk, hR, hXT⟩ := hF
  exact lv_idiv hx hb hd hy (k r M' he H locs ls hP hD hS hl)
theorem v_irem {x y : Int32} (q : Nat) (hF : FX X G sh nL cc own ret rm) (hd : decode cc pc = .ok (.irem, 1)) (hq : pc + 1 = q) (k : VR X G sh nL rv M q lo (.int (irm x y) :: st) e) : VR X G sh nL rv M pc lo (.int y :: .int x :: st) (gd (!(decide (y = 0))) e) := by
  refine v_gd (fun hy => ?_)
  have hy : ¬ y = 0 := by simpa using hy
  obtain ⟨p, l, en, R, s, m, args, below, meth, c⟩ := X
  subst hq
  intro r M' he H locs ls hP hD hS hl
  obtain ⟨hx, hb, hown, hts, hK, hml, hr, hlk, hR, hXT⟩ := hF
  exact lv_irem hx hb hd hy (k r M' he H locs ls hP hD hS hl)
theorem v_ldiv {x y : Int64} (q : Nat) (hF : FX X G sh nL cc own ret rm) (hd : decode cc pc = .ok (.ldiv, 1)) (hq : pc + 1 = q) (k : VR X G sh nL rv M q lo (.long (x / y) :: st) e) : VR X G sh nL rv M pc lo (.long y :: .long x :: st) (gd (!(decide (y = 0))) e) := by
  refine v_gd (fun hy => ?_)
  have hy : ¬ y = 0 := by simpa using hy
  obtain ⟨p, l, en, R, s, m, args, below, meth, c⟩ := X
  subst hq
  intro r M' he H locs ls hP hD hS hl
  obtain ⟨hx, hb, hown, hts, hK, hml, hr, hlk, hR, hXT⟩ := hF
  exact lv_ldiv hx hb hd hy (k r M' he H locs ls hP hD hS hl)
theorem v_lrem {x y : Int64} (q : Nat) (hF : FX X G sh nL cc own ret rm) (hd : decode cc pc = .ok (.lrem, 1)) (hq : pc + 1 = q) (k : VR X G sh nL rv M q lo (.long (lrm x y) :: st) e) : VR X G sh nL rv M pc lo (.long y :: .long x :: st) (gd (!(decide (y = 0))) e) := by
  refine v_gd (fun hy => ?_)
  have hy : ¬ y = 0 := by simpa using hy
  obtain ⟨p, l, en, R, s, m, args, below, meth, c⟩ := X
  subst hq
  intro r M' he H locs ls hP hD hS hl
  obtain ⟨hx, hb, hown, hts, hK, hml, hr, hlk, hR, hXT⟩ := hF
  exact lv_lrem hx hb hd hy (k r M' he H locs ls hP hD hS hl)
theorem v_i2l {x : Int32} (q : Nat) (hF : FX X G sh nL cc own ret rm) (hd : decode cc pc = .ok (.i2l, 1)) (hq : pc + 1 = q) (k : VR X G sh nL rv M q lo (.long x.toInt64 :: st) e) : VR X G sh nL rv M pc lo (.int x :: st) e := by
  obtain ⟨p, l, en, R, s, m, args, below, meth, c⟩ := X
  subst hq
  intro r M' he H locs ls hP hD hS hl
  obtain ⟨hx, hb, hown, hts, hK, hml, hr, hlk, hR, hXT⟩ := hF
  exact lv_i2l hx hb hd rfl (k r M' he H locs ls hP hD hS hl)
theorem v_l2i {x : Int64} (q : Nat) (hF : FX X G sh nL cc own ret rm) (hd : decode cc pc = .ok (.l2i, 1)) (hq : pc + 1 = q) (k : VR X G sh nL rv M q lo (.int x.toInt32 :: st) e) : VR X G sh nL rv M pc lo (.long x :: st) e := by
  obtain ⟨p, l, en, R, s, m, args, below, meth, c⟩ := X
  subst hq
  intro r M' he H locs ls hP hD hS hl
  obtain ⟨hx, hb, hown, hts, hK, hml, hr, hlk, hR, hXT⟩ := hF
  exact lv_l2i hx hb hd rfl (k r M' he H locs ls hP hD hS hl)
theorem v_i2b {x : Int32} (q : Nat) (hF : FX X G sh nL cc own ret rm) (hd : decode cc pc = .ok (.i2b, 1)) (hq : pc + 1 = q) (k : VR X G sh nL rv M q lo (.int x.toInt8.toInt32 :: st) e) : VR X G sh nL rv M pc lo (.int x :: st) e := by
  obtain ⟨p, l, en, R, s, m, args, below, meth, c⟩ := X
  subst hq
  intro r M' he H locs ls hP hD hS hl
  obtain ⟨hx, hb, hown, hts, hK, hml, hr, hlk, hR, hXT⟩ := hF
  exact lv_i2b hx hb hd rfl (k r M' he H locs ls hP hD hS hl)
theorem v_i2s {x : Int32} (q : Nat) (hF : FX X G sh nL cc own ret rm) (hd : decode cc pc = .ok (.i2s, 1)) (hq : pc + 1 = q) (k : VR X G sh nL rv M q lo (.int x.toInt16.toInt32 :: st) e) : VR X G sh nL rv M pc lo (.int x :: st) e := by
  obtain ⟨p, l, en, R, s, m, args, below, meth, c⟩ := X
  subst hq
  intro r M' he H locs ls hP hD hS hl
  obtain ⟨hx, hb, hown, hts, hK, hml, hr, hlk, hR, hXT⟩ := hF
  exact lv_i2s hx hb hd rfl (k r M' he H locs ls hP hD hS hl)
theorem v_dupI {x : Int32} (q : Nat) (hF : FX X G sh nL cc own ret rm) (hd : decode cc pc = .ok (.dup, 1)) (hq : pc + 1 = q) (k : VR X G sh nL rv M q lo (.int x :: .int x :: st) e) : VR X G sh nL rv M pc lo (.int x :: st) e := by
  obtain ⟨p, l, en, R, s, m, args, below, meth, c⟩ := X
  subst hq
  intro r M' he H locs ls hP hD hS hl
  obtain ⟨hx, hb, hown, hts, hK, hml, hr, hlk, hR, hXT⟩ := hF
  exact lv_dup hx hb hd rfl (k r M' he H locs ls hP hD hS hl)
theorem v_popI {x : Int32} (q : Nat) (hF : FX X G sh nL cc own ret rm) (hd : decode cc pc = .ok (.pop, 1)) (hq : pc + 1 = q) (k : VR X G sh nL rv M q lo st e) : VR X G sh nL rv M pc lo (.int x :: st) e := by
  obtain ⟨p, l, en, R, s, m, args, below, meth, c⟩ := X
  subst hq
  intro r M' he H locs ls hP hD hS hl
  obtain ⟨hx, hb, hown, hts, hK, hml, hr, hlk, hR, hXT⟩ := hF
  exact lv_pop hx hb hd rfl (k r M' he H locs ls hP hD hS hl)
theorem v_dupR {x : Nat} (q : Nat) (hF : FX X G sh nL cc own ret rm) (hd : decode cc pc = .ok (.dup, 1)) (hq : pc + 1 = q) (k : VR X G sh nL rv M q lo (.ref x :: .ref x :: st) e) : VR X G sh nL rv M pc lo (.ref x :: st) e := by
  obtain ⟨p, l, en, R, s, m, args, below, meth, c⟩ := X
  subst hq
  intro r M' he H locs ls hP hD hS hl
  obtain ⟨hx, hb, hown, hts, hK, hml, hr, hlk, hR, hXT⟩ := hF
  exact lv_dup hx hb hd rfl (k r M' he H locs ls hP hD hS hl)
theorem v_popR {x : Nat} (q : Nat) (hF : FX X G sh nL cc own ret rm) (hd : decode cc pc = .ok (.pop, 1)) (hq : pc + 1 = q) (k : VR X G sh nL rv M q lo st e) : VR X G sh nL rv M pc lo (.ref x :: st) e := by
  obtain ⟨p, l, en, R, s, m, args, below, meth, c⟩ := X
  subst hq
  intro r M' he H locs ls hP hD hS hl
  obtain ⟨hx, hb, hown, hts, hK, hml, hr, hlk, hR, hXT⟩ := hF
  exact lv_pop hx hb hd rfl (k r M' he H locs ls hP hD hS hl)
theorem v_dup2 {x : Int32} {a : Nat} (q : Nat) (hF : FX X G sh nL cc own ret rm) (hd : decode cc pc = .ok (.dup2, 1)) (hq : pc + 1 = q) (k : VR X G sh nL rv M q lo (.int x :: .ref a :: .int x :: .ref a :: st) e) : VR X G sh nL rv M pc lo (.int x :: .ref a :: st) e := by
  obtain ⟨p, l, en, R, s, m, args, below, meth, c⟩ := X
  subst hq
  intro r M' he H locs ls hP hD hS hl
  obtain ⟨hx, hb, hown, hts, hK, hml, hr, hlk, hR, hXT⟩ := hF
  exact lv_dup2_11 hx hb hd rfl rfl (k r M' he H locs ls hP hD hS hl)
theorem v_icmp_eq {x y : Int32} {off : Int} {e1 e2 : Option (α × Mm)} (q t : Nat) (hF : FX X G sh nL cc own ret rm) (hd : decode cc pc = .ok (.if_icmp .eq off, 3)) (hq : pc + 3 = q) (ht : (pc : Int) + off = (t : Int)) (kt : x = y → VR X G sh nL rv M t lo st e1) (kf : ¬ x = y → VR X G sh nL rv M q lo st e2) : VR X G sh nL rv M pc lo (.int y :: .int x :: st) (if x = y then e1 else e2) := by
  by_cases hc : x = y
  · rw [if_pos hc]
    obtain ⟨p, l, en, R, s, m, args, below, meth, c⟩ := X
    subst hq
    intro r M' he H locs ls hP hD hS hl
    obtain ⟨hx, hb, hown, hts, hK, hml, hr, hlk, hR, hXT⟩ := hF
    exact lv_icmp_eq hx hb hd ht (fun h => kt h r M' he H locs ls hP hD hS hl) (fun h => absurd hc h)
  · rw [if_neg hc]
    obtain ⟨p, l, en, R, s, m, args, below, meth, c⟩ := X
    subst hq
    intro r M' he H locs ls hP hD hS hl
    obtain ⟨hx, hb, hown, hts, hK, hml, hr, hlk, hR, hXT⟩ := hF
    exact lv_icmp_eq hx hb hd ht (fun h => absurd h hc) (fun h => kf h r M' he H locs ls hP hD hS hl)
theorem v_if_eq {x : Int32} {off : Int} {e1 e2 : Option (α × Mm)} (q t : Nat) (hF : FX X G sh nL cc own ret rm) (hd : decode cc pc = .ok (.ifCond .eq off, 3)) (hq : pc + 3 = q) (ht : (pc : Int) + off = (t : Int)) (kt : x = 0 → VR X G sh nL rv M t lo st e1) (kf : ¬ x = 0 → VR X G sh nL rv M q lo st e2) : VR X G sh nL rv M pc lo (.int x :: st) (if x = 0 then e1 else e2) := by
  by_cases hc : x = 0
  · rw [if_pos hc]
    obtain ⟨p, l, en, R, s, m, args, below, meth, c⟩ := X
    subst hq
    intro r M' he H locs ls hP hD hS hl
    obtain ⟨hx, hb, hown, hts, hK, hml, hr, hlk, hR, hXT⟩ := hF
    exact lv_if_eq hx hb hd ht (fun h => kt h r M' he H locs ls hP hD hS hl) (fun h => absurd hc h)
  · rw [if_neg hc]
    obtain ⟨p, l, en, R, s, m, args, below, meth, c⟩ := X
    subst hq
    intro r M' he H locs ls hP hD hS hl
    obtain ⟨hx, hb, hown, hts, hK, hml, hr, hlk, hR, hXT⟩ := hF
    exact lv_if_eq hx hb hd ht (fun h => absurd h hc) (fun h => kf h r M' he H locs ls hP hD hS hl)
theorem v_icmp_ne {x y : Int32} {off : Int} {e1 e2 : Option (α × Mm)} (q t : Nat) (hF : FX X G sh nL cc own ret rm) (hd : decode cc pc = .ok (.if_icmp .ne off, 3)) (hq : pc + 3 = q) (ht : (pc : Int) + off = (t : Int)) (kt : ¬ x = y → VR X G sh nL rv M t lo st e2) (kf : x = y → VR X G sh nL rv M q lo st e1) : VR X G sh nL rv M pc lo (.int y :: .int x :: st) (if x = y then e1 else e2) := by
  by_cases hc : x = y
  · rw [if_pos hc]
    obtain ⟨p, l, en, R, s, m, args, below, meth, c⟩ := X
    subst hq
    intro r M' he H locs ls hP hD hS hl
    obtain ⟨hx, hb, hown, hts, hK, hml, hr, hlk, hR, hXT⟩ := hF
    exact lv_icmp_ne hx hb hd ht (fun h => absurd hc h) (fun h => kf h r M' he H locs ls hP hD hS hl)
  · rw [if_neg hc]
    obtain ⟨p, l, en, R, s, m, args, below, meth, c⟩ := X
    subst hq
    intro r M' he H locs ls hP hD hS hl
    obtain ⟨hx, hb, hown, hts, hK, hml, hr, hlk, hR, hXT⟩ := hF
    exact lv_icmp_ne hx hb hd ht (fun h => kt h r M' he H locs ls hP hD hS hl) (fun h => absurd h hc)
theorem v_if_ne {x : Int32} {off : Int} {e1 e2 : Option (α × Mm)} (q t : Nat) (hF : FX X G sh nL cc own ret rm) (hd : decode cc pc = .ok (.ifCond .ne off, 3)) (hq : pc + 3 = q) (ht : (pc : Int) + off = (t : Int)) (kt : ¬ x = 0 → VR X G sh nL rv M t lo st e2) (kf : x = 0 → VR X G sh nL rv M q lo st e1) : VR X G sh nL rv M pc lo (.int x :: st) (if x = 0 then e1 else e2) := by
  by_cases hc : x = 0
  · rw [if_pos hc]
    obtain ⟨p, l, en, R, s, m, args, below, meth, c⟩ := X
    subst hq
    intro r M' he H locs ls hP hD hS hl
    obtain ⟨hx, hb, hown, hts, hK, hml, hr, hlk, hR, hXT⟩ := hF
    exact lv_if_ne hx hb hd ht (fun h => absurd hc h) (fun h => kf h r M' he H locs ls hP hD hS hl)
  · rw [if_neg hc]
    obtain ⟨p, l, en, R, s, m, args, below, meth, c⟩ := X
    subst hq
    intro r M' he H locs ls hP hD hS hl
    obtain ⟨hx, hb, hown, hts, hK, hml, hr, hlk, hR, hXT⟩ := hF
    exact lv_if_ne hx hb hd ht (fun h => kt h r M' he H locs ls hP hD hS hl) (fun h => absurd h hc)
theorem v_icmp_lt {x y : Int32} {off : Int} {e1 e2 : Option (α × Mm)} (q t : Nat) (hF : FX X G sh nL cc own ret rm) (hd : decode cc pc = .ok (.if_icmp .lt off, 3)) (hq : pc + 3 = q) (ht : (pc : Int) + off = (t : Int)) (kt : x < y → VR X G sh nL rv M t lo st e1) (kf : ¬ x < y → VR X G sh nL rv M q lo st e2) : VR X G sh nL rv M pc lo (.int y :: .int x :: st) (if x < y then e1 else e2) := by
  by_cases hc : x < y
  · rw [if_pos hc]
    obtain ⟨p, l, en, R, s, m, args, below, meth, c⟩ := X
    subst hq
    intro r M' he H locs ls hP hD hS hl
    obtain ⟨hx, hb, hown, hts, hK, hml, hr, hlk, hR, hXT⟩ := hF
    exact lv_icmp_lt hx hb hd ht (fun h => kt h r M' he H locs ls hP hD hS hl) (fun h => absurd hc h)
  · rw [if_neg hc]
    obtain ⟨p, l, en, R, s, m, args, below, meth, c⟩ := X
    subst hq
    intro r M' he H locs ls hP hD hS hl
    obtain ⟨hx, hb, hown, hts, hK, hml, hr, hlk, hR, hXT⟩ := hF
    exact lv_icmp_lt hx hb hd ht (fun h => absurd h hc) (fun h => kf h r M' he H locs ls hP hD hS hl)
theorem v_if_lt {x : Int32} {off : Int} {e1 e2 : Option (α × Mm)} (q t : Nat) (hF : FX X G sh nL cc own ret rm) (hd : decode cc pc = .ok (.ifCond .lt off, 3)) (hq : pc + 3 = q) (ht : (pc : Int) + off = (t : Int)) (kt : x < 0 → VR X G sh nL rv M t lo st e1) (kf : ¬ x < 0 → VR X G sh nL rv M q lo st e2) : VR X G sh nL rv M pc lo (.int x :: st) (if x < 0 then e1 else e2) := by
  by_cases hc : x < 0
  · rw [if_pos hc]
    obtain ⟨p, l, en, R, s, m, args, below, meth, c⟩ := X
    subst hq
    intro r M' he H locs ls hP hD hS hl
    obtain ⟨hx, hb, hown, hts, hK, hml, hr, hlk, hR, hXT⟩ := hF
    exact lv_if_lt hx hb hd ht (fun h => kt h r M' he H locs ls hP hD hS hl) (fun h => absurd hc h)
  · rw [if_neg hc]
    obtain ⟨p, l, en, R, s, m, args, below, meth, c⟩ := X
    subst hq
    intro r M' he H locs ls hP hD hS hl
    obtain ⟨hx, hb, hown, hts, hK, hml, hr, hlk, hR, hXT⟩ := hF
    exact lv_if_lt hx hb hd ht (fun h => absurd h hc) (fun h => kf h r M' he H locs ls hP hD hS hl)
theorem v_icmp_ge {x y : Int32} {off : Int} {e1 e2 : Option (α × Mm)} (q t : Nat) (hF : FX X G sh nL cc own ret rm) (hd : decode cc pc = .ok (.if_icmp .ge off, 3)) (hq : pc + 3 = q) (ht : (pc : Int) + off = (t : Int)) (kt : y ≤ x → VR X G sh nL rv M t lo st e1) (kf : ¬ y ≤ x → VR X G sh nL rv M q lo st e2) : VR X G sh nL rv M pc lo (.int y :: .int x :: st) (if y ≤ x then e1 else e2) := by
  by_cases hc : y ≤ x
  · rw [if_pos hc]
    obtain ⟨p, l, en, R, s, m, args, below, meth, c⟩ := X
    subst hq
    intro r M' he H locs ls hP hD hS hl
    obtain ⟨hx, hb, hown, hts, hK, hml, hr, hlk, hR, hXT⟩ := hF
    exact lv_icmp_ge hx hb hd ht (fun h => kt h r M' he H locs ls hP hD hS hl) (fun h => absurd hc h)
  · rw [if_neg hc]
    obtain ⟨p, l, en, R, s, m, args, below, meth, c⟩ := X
    subst hq
    intro r M' he H locs ls hP hD hS hl
    obtain ⟨hx, hb, hown, hts, hK, hml, hr, hlk, hR, hXT⟩ := hF
    exact lv_icmp_ge hx hb hd ht (fun h => absurd h hc) (fun h => kf h r M' he H locs ls hP hD hS hl)
theorem v_if_ge {x : Int32} {off : Int} {e1 e2 : Option (α × Mm)} (q t : Nat) (hF : FX X G sh nL cc own ret rm) (hd : decode cc pc = .ok (.ifCond .ge off, 3)) (hq : pc + 3 = q) (ht : (pc : Int) + off = (t : Int)) (kt : 0 ≤ x → VR X G sh nL rv M t lo st e1) (kf : ¬ 0 ≤ x → VR X G sh nL rv M q lo st e2) : VR X G sh nL rv M pc lo (.int x :: st) (if 0 ≤ x then e1 else e2) := by
  by_cases hc : 0 ≤ x
  · rw [if_pos hc]
    obtain ⟨p, l, en, R, s, m, args, below, meth, c⟩ := X
    subst hq
    intro r M' he H locs ls hP hD hS hl
    obtain ⟨hx, hb, hown, hts, hK, hml, hr, hlk, hR, hXT⟩ := hF
    exact lv_if_ge hx hb hd ht (fun h => kt h r M' he H locs ls hP hD hS hl) (fun h => absurd hc h)
  · rw [if_neg hc]
    obtain ⟨p, l, en, R, s, m, args, below, meth, c⟩ := X
    subst hq
    intro r M' he H locs ls hP hD hS hl
    obtain ⟨hx, hb, hown, hts, hK, hml, hr, hlk, hR, hXT⟩ := hF
    exact lv_if_ge hx hb hd ht (fun h => absurd h hc) (fun h => kf h r M' he H locs ls hP hD hS hl)
theorem v_icmp_gt {x y : Int32} {off : Int} {e1 e2 : Option (α × Mm)} (q t : Nat) (hF : FX X G sh nL cc own ret rm) (hd : decode cc pc = .ok (.if_icmp .gt off, 3)) (hq : pc + 3 = q) (ht : (pc : Int) + off = (t : Int)) (kt : y < x → VR X G sh nL rv M t lo st e1) (kf : ¬ y < x → VR X G sh nL rv M q lo st e2) : VR X G sh nL rv M pc lo (.int y :: .int x :: st) (if y < x then e1 else e2) := by
  by_cases hc : y < x
  · rw [if_pos hc]
    obtain ⟨p, l, en, R, s, m, args, below, meth, c⟩ := X
    subst hq
    intro r M' he H locs ls hP hD hS hl
    obtain ⟨hx, hb, hown, hts, hK, hml, hr, hlk, hR, hXT⟩ := hF
    exact lv_icmp_gt hx hb hd ht (fun h => kt h r M' he H locs ls hP hD hS hl) (fun h => absurd hc h)
  · rw [if_neg hc]
    obtain ⟨p, l, en, R, s, m, args, below, meth, c⟩ := X
    subst hq
    intro r M' he H locs ls hP hD hS hl
    obtain ⟨hx, hb, hown, hts, hK, hml, hr, hlk, hR, hXT⟩ := hF
    exact lv_icmp_gt hx hb hd ht (fun h => absurd h hc) (fun h => kf h r M' he H locs ls hP hD hS hl)
theorem v_if_gt {x : Int32} {off : Int} {e1 e2 : Option (α × Mm)} (q t : Nat) (hF : FX X G sh nL cc own ret rm) (hd : decode cc pc = .ok (.ifCond .gt off, 3)) (hq : pc + 3 = q) (ht : (pc : Int) + off = (t : Int)) (kt : 0 < x → VR X G sh nL rv M t lo st e1) (kf : ¬ 0 < x → VR X G sh nL rv M q lo st e2) : VR X G sh nL rv M pc lo (.int x :: st) (if 0 < x then e1 else e2) := by
  by_cases hc : 0 < x
  · rw [if_pos hc]
    obtain ⟨p, l, en, R, s, m, args, below, meth, c⟩ := X
    subst hq
    intro r M' he H locs ls hP hD hS hl
    obtain ⟨hx, hb, hown, hts, hK, hml, hr, hlk, hR, hXT⟩ := hF
    exact lv_if_gt hx hb hd ht (fun h => kt h r M' he H locs ls hP hD hS hl) (fun h => absurd hc h)
  · rw [if_neg hc]
    obtain ⟨p, l, en, R, s, m, args, below, meth, c⟩ := X
    subst hq
    intro r M' he H locs ls hP hD hS hl
    obtain ⟨hx, hb, hown, hts, hK, hml, hr, hlk, hR, hXT⟩ := hF
    exact lv_if_gt hx hb hd ht (fun h => absurd h hc) (fun h => kf h r M' he H locs ls hP hD hS hl)
theorem v_icmp_le {x y : Int32} {off : Int} {e1 e2 : Option (α × Mm)} (q t : Nat) (hF : FX X G sh nL cc own ret rm) (hd : decode cc pc = .ok (.if_icmp .le off, 3)) (hq : pc + 3 = q) (ht : (pc : Int) + off = (t : Int)) (kt : x ≤ y → VR X G sh nL rv M t lo st e1) (kf : ¬ x ≤ y → VR X G sh nL rv M q lo st e2) : VR X G sh nL rv M pc lo (.int y :: .int x :: st) (if x ≤ y then e1 else e2) := by
  by_cases hc : x ≤ y
  · rw [if_pos hc]
    obtain ⟨p, l, en, R, s, m, args, below, meth, c⟩ := X
    subst hq
    intro r M' he H locs ls hP hD hS hl
    obtain ⟨hx, hb, hown, hts, hK, hml, hr, hlk, hR, hXT⟩ := hF
    exact lv_icmp_le hx hb hd ht (fun h => kt h r M' he H locs ls hP hD hS hl) (fun h => absurd hc h)
  · rw [if_neg hc]
    obtain ⟨p, l, en, R, s, m, args, below, meth, c⟩ := X
    subst hq
    intro r M' he H locs ls hP hD hS hl
    obtain ⟨hx, hb, hown, hts, hK, hml, hr, hlk, hR, hXT⟩ := hF
    exact lv_icmp_le hx hb hd ht (fun h => absurd h hc) (fun h => kf h r M' he H locs ls hP hD hS hl)
theorem v_if_le {x : Int32} {off : Int} {e1 e2 : Option (α × Mm)} (q t : Nat) (hF : FX X G sh nL cc own ret rm) (hd : decode cc pc = .ok (.ifCond .le off, 3)) (hq : pc + 3 = q) (ht : (pc : Int) + off = (t : Int)) (kt : x ≤ 0 → VR X G sh nL rv M t lo st e1) (kf : ¬ x ≤ 0 → VR X G sh nL rv M q lo st e2) : VR X G sh nL rv M pc lo (.int x :: st) (if x ≤ 0 then e1 else e2) := by
  by_cases hc : x ≤ 0
  · rw [if_pos hc]
    obtain ⟨p, l, en, R, s, m, args, below, meth, c⟩ := X
    subst hq
    intro r M' he H locs ls hP hD hS hl
    obtain ⟨hx, hb, hown, hts, hK, hml, hr, hlk, hR, hXT⟩ := hF
    exact lv_if_le hx hb hd ht (fun h => kt h r M' he H locs ls hP hD hS hl) (fun h => absurd hc h)
  · rw [if_neg hc]
    obtain ⟨p, l, en, R, s, m, args, below, meth, c⟩ := X
    subst hq
    intro r M' he H locs ls hP hD hS hl
    obtain ⟨hx, hb, hown, hts, hK, hml, hr, hlk, hR, hXT⟩ := hF
    exact lv_if_le hx hb hd ht (fun h => absurd h hc) (fun h => kf h r M' he H locs ls hP hD hS hl)
theorem v_goto {off : Int} (t : Nat) (hF : FX X G sh nL cc own ret rm) (hd : decode cc pc = .ok (.goto off, 3)) (ht : (pc : Int) + off = (t : Int)) (k : VR X G sh nL rv M t lo st e) : VR X G sh nL rv M pc lo st e := by
  obtain ⟨p, l, en, R, s, m, args, below, meth, c⟩ := X
  intro r M' he H locs ls hP hD hS hl
  obtain ⟨hx, hb, hown, hts, hK, hml, hr, hlk, hR, hXT⟩ := hF
  exact lv_goto hx hb hd ht (k r M' he H locs ls hP hD hS hl)
theorem v_ifnullR {a : Nat} {off : Int} (q : Nat) (hF : FX X G sh nL cc own ret rm) (hd : decode cc pc = .ok (.ifnull off, 3)) (hq : pc + 3 = q) (k : VR X G sh nL rv M q lo st e) : VR X G sh nL rv M pc lo (.ref a :: st) e := by
  obtain ⟨p, l, en, R, s, m, args, below, meth, c⟩ := X
  subst hq
  intro r M' he H locs ls hP hD hS hl
  obtain ⟨hx, hb, hown, hts, hK, hml, hr, hlk, hR, hXT⟩ := hF
  exact lv_ifnull hx hb hd (k r M' he H locs ls hP hD hS hl)
theorem v_ifnonnullN {off : Int} (q : Nat) (hF : FX X G sh nL cc own ret rm) (hd : decode cc pc = .ok (.ifnonnull off, 3)) (hq : pc + 3 = q) (k : VR X G sh nL rv M q lo st e) : VR X G sh nL rv M pc lo (.null :: st) e := by
  obtain ⟨p, l, en, R, s, m, args, below, meth, c⟩ := X
  subst hq
  intro r M' he H locs ls hP hD hS hl
  obtain ⟨hx, hb, hown, hts, hK, hml, hr, hlk, hR, hXT⟩ := hF
  exact lv_ifnonnullN hx hb hd (k r M' he H locs ls hP hD hS hl)
theorem v_ifnullN {off : Int} (t : Nat) (hF : FX X G sh nL cc own ret rm) (hd : decode cc pc = .ok (.ifnull off, 3)) (ht : (pc : Int) + off = (t : Int)) (k : VR X G sh nL rv M t lo st e) : VR X G sh nL rv M pc lo (.null :: st) e := by
  obtain ⟨p, l, en, R, s, m, args, below, meth, c⟩ := X
  intro r M' he H locs ls hP hD hS hl
  obtain ⟨hx, hb, hown, hts, hK, hml, hr, hlk, hR, hXT⟩ := hF
  exact lv_ifnullN hx hb hd ht (k r M' he H locs ls hP hD hS hl)
theorem v_ifnonnullR {a : Nat} {off : Int} (t : Nat) (hF : FX X G sh nL cc own ret rm) (hd : decode cc pc = .ok (.ifnonnull off, 3)) (ht : (pc : Int) + off = (t : Int)) (k : VR X G sh nL rv M t lo st e) : VR X G sh nL rv M pc lo (.ref a :: st) e := by
  obtain ⟨p, l, en, R, s, m, args, below, meth, c⟩ := X
  intro r M' he H locs ls hP hD hS hl
  obtain ⟨hx, hb, hown, hts, hK, hml, hr, hlk, hR, hXT⟩ := hF
  exact lv_ifnonnull hx hb hd ht (k r M' he H locs ls hP hD hS hl)
theorem v_tsIn {dflt lo1 hi1 : Int} {offs : Array Int} {len : Nat} {x : Int32} (w : Int32) (off : Int) (t : Nat) (hF : FX X G sh nL cc own ret rm) (hd : decode cc pc = .ok (.tableswitch dflt lo1 hi1 offs, len)) (hw : x = w) (hl1 : (decide (lo1 ≤ w.toInt) && decide (w.toInt ≤ hi1)) = true) (ho : offs[(w.toInt - lo1).toNat]? = some off) (ht : (pc : Int) + off = (t : Int)) (k : VR X G sh nL rv M t lo st e) : VR X G sh nL rv M pc lo (.int x :: st) e := by
  obtain ⟨p, l, en, R, s, m, args, below, meth, c⟩ := X
  intro r M' he H locs ls hP hD hS hl
  obtain ⟨hx, hb, hown, hts, hK, hml, hr, hlk, hR, hXT⟩ := hF
  subst hw
  simp only [Bool.and_eq_true, decide_eq_true_eq] at hl1
  exact lv_tableIn hx hb hd (by omega) (by omega) ho ht (k r M' he H locs ls hP hD hS hl)
theorem v_tsOut {dflt lo1 hi1 : Int} {offs : Array Int} {len : Nat} {x : Int32} (t : Nat) (hF : FX X G sh nL cc own ret rm) (hd : decode cc pc = .ok (.tableswitch dflt lo1 hi1 offs, len)) (hw : x.toInt < lo1 ∨ hi1 < x.toInt) (ht : (pc : Int) + dflt = (t : Int)) (k : VR X G sh nL rv M t lo st e) : VR X G sh nL rv M pc lo (.int x :: st) e := by
  obtain ⟨p, l, en, R, s, m, args, below, meth, c⟩ := X
  intro r M' he H locs ls hP hD hS hl
  obtain ⟨hx, hb, hown, hts, hK, hml, hr, hlk, hR, hXT⟩ := hF
  exact lv_tableOut hx hb hd hw ht (k r M' he H locs ls hP hD hS hl)
theorem v_lks {dflt : Int} {ps : Array (Int × Int)} {len : Nat} {x : Int32} (off : Int) (t : Nat) (hF : FX X G sh nL cc own ret rm) (hd : decode cc pc = .ok (.lookupswitch dflt ps, len)) (hp : (ps.toList.zip (ps.toList.drop 1)).all (fun (a, next) => a.1 < next.1) = true) (ho : Op.lookupswitch.offset ps.toList dflt x.toInt = off) (ht : (pc : Int) + off = (t : Int)) (k : VR X G sh nL rv M t lo st e) : VR X G sh nL rv M pc lo (.int x :: st) e := by
  obtain ⟨p, l, en, R, s, m, args, below, meth, c⟩ := X
  intro r M' he H locs ls hP hD hS hl
  obtain ⟨hx, hb, hown, hts, hK, hml, hr, hlk, hR, hXT⟩ := hF
  exact lv_lookup hx hb hd hp ho ht (k r M' he H locs ls hP hD hS hl)
theorem v_ite {c : Prop} [Decidable c] {e1 e2 : Option (α × Mm)} (h1 : c → VR X G sh nL rv M pc lo st e1) (h2 : ¬ c → VR X G sh nL rv M pc lo st e2) : VR X G sh nL rv M pc lo st (if c then e1 else e2) := by
  by_cases hc : c
  · rw [if_pos hc]; exact h1 hc
  · rw [if_neg hc]; exact h2 hc
/-- a field at a place of a method: which class, which slot, and that the link is among the words -/
def FLd (own : String) (idx ci j : Nat) : Prop := ∃ (C : String) (T : u_T) (N : Nat), vwCl[ci]? = some (C, T, N) ∧ j < N ∧ (∀ w ∈ u_ws C T N, w ∈ gT) ∧ (T j).1 = C ∧ Cond.fieldLink own idx C (T j).2.1 (T j).2.2.1 ∈ gT
theorem v_getI {idx ci j a : Nat} {ts : List Nat} (q : Nat) (hF : FX X G sh nL cc own ret rm) (hd : decode cc pc = .ok (.getfield idx, 3)) (hq : pc + 3 = q) (hf : FLd own idx ci j) (hs : sh[a]? = some (.inr (ci, ts))) (ht : ts[j]? = some 0) (k : VR X G sh nL rv M q lo (.int (M a j) :: st) e) : VR X G sh nL rv M pc lo (.ref (G.2.2.2.2 a) :: st) e := by
  obtain ⟨p, l, en, R, s, m, args, below, meth, c⟩ := X
  subst hq
  intro r M' he H locs ls hP hD hS hl
  obtain ⟨hx, hb, hown, hts, hK, hml, hr, hlk, hR, hXT⟩ := hF
  obtain ⟨C, T, N, hc, hk, hin, hT, hlink⟩ := hf
  subst hT
  have hv : (ts.mapIdx (fun j t => cfv G M a j t))[j]? = some (.int (M a j)) := by simp [ht, cfv]
  exact va_get hx hb hts hin hown hK hP a (wl_get hs) hc j hk (hts _ hlink) (fun _ h9 => h9) hv hd (k r M' he H locs ls hP hD hS hl)
theorem v_getJ {idx ci j a : Nat} {ts : List Nat} (q : Nat) (hF : FX X G sh nL cc own ret rm) (hd : decode cc pc = .ok (.getfield idx, 3)) (hq : pc + 3 = q) (hf : FLd own idx ci j) (hs : sh[a]? = some (.inr (ci, ts))) (ht : ts[j]? = some 1) (k : VR X G sh nL rv M q lo (.long (M a j).toInt64 :: st) e) : VR X G sh nL rv M pc lo (.ref (G.2.2.2.2 a) :: st) e := by
  obtain ⟨p, l, en, R, s, m, args, below, meth, c⟩ := X
  subst hq
  intro r M' he H locs ls hP hD hS hl
  obtain ⟨hx, hb, hown, hts, hK, hml, hr, hlk, hR, hXT⟩ := hF
  obtain ⟨C, T, N, hc, hk, hin, hT, hlink⟩ := hf
  subst hT
  have hv : (ts.mapIdx (fun j t => cfv G M a j t))[j]? = some (.long (M a j).toInt64) := by simp [ht, cfv]
  exact va_get hx hb hts hin hown hK hP a (wl_get hs) hc j hk (hts _ hlink) (fun _ h9 => h9) hv hd (k r M' he H locs ls hP hD hS hl)
theorem v_getR {idx ci j a b : Nat} {ts : List Nat} (q : Nat) (hF : FX X G sh nL cc own ret rm) (hd : decode cc pc = .ok (.getfield idx, 3)) (hq : pc + 3 = q) (hf : FLd own idx ci j) (hs : sh[a]? = some (.inr (ci, ts))) (ht : ts[j]? = some (b + 2)) (k : VR X G sh nL rv M q lo (.ref (G.2.2.2.2 b) :: st) e) (hb0 : 0 < b := by omega) : VR X G sh nL rv M pc lo (.ref (G.2.2.2.2 a) :: st) e := by
  obtain ⟨b, rfl⟩ : ∃ z, b = z + 1 := ⟨b - 1, by omega⟩
  obtain ⟨p, l, en, R, s, m, args, below, meth, c⟩ := X
  subst hq
  intro r M' he H locs ls hP hD hS hl
  obtain ⟨hx, hb, hown, hts, hK, hml, hr, hlk, hR, hXT⟩ := hF
  obtain ⟨C, T, N, hc, hk, hin, hT, hlink⟩ := hf
  subst hT
  have hv : (ts.mapIdx (fun j t => cfv G M a j t))[j]? = some (.ref (G.2.2.2.2 (b + 1))) := by simp [ht, cfv]
  exact va_get hx hb hts hin hown hK hP a (wl_get hs) hc j hk (hts _ hlink) (fun _ h9 => h9) hv hd (k r M' he H locs ls hP hD hS hl)
/-- a field that may be written: its class's tables, not final, of that type -/
def FPt (ci j : Nat) (ty : FieldType) : Prop := ∃ (C : String) (T : u_T) (N : Nat) (ty0 : Nat → FieldType), vwCl[ci]? = some (C, T, N) ∧ (∀ k, k < N → parseFieldDescriptor (T k).2.2.1 = some (ty0 k)) ∧ (∀ a, a < N → ∀ b, b < N → a ≠ b → (T a).2.1 ≠ (T b).2.1) ∧ (T j).2.2.2 = false ∧ parseFieldDescriptor (T j).2.2.1 = some ty
theorem v_putI {idx ci j a : Nat} {ts : List Nat} {x : Int32} {f : Mm → Option (α × Mm)} (q : Nat) (hF : FX X G sh nL cc own ret rm) (hd : decode cc pc = .ok (.putfield idx, 3)) (hq : pc + 3 = q) (hf : FLd own idx ci j) (hp : FPt ci j .int) (hs : sh[a]? = some (.inr (ci, ts))) (ht : ts[j]? = some 0) (k : ∀ M2, VR X G sh nL rv M2 q lo st (f M2)) : VR X G sh nL rv M pc lo (.int x :: .ref (G.2.2.2.2 a) :: st) (lt1 (up M a j x) f) := by
  obtain ⟨p, l, en, R, s, m, args, below, meth, c⟩ := X
  subst hq
  intro r M' he H locs ls hP hD hS hl
  obtain ⟨hx, hb, hown, hts, hK, hml, hr, hlk, hR, hXT⟩ := hF
  obtain ⟨C, T, N, hc, hk, hin, hT, hlink⟩ := hf
  obtain ⟨C', T', N', ty0, hc', hty, hnm, hfin, hpd⟩ := hp
  cases (hc.symm.trans hc')
  subst hT
  have hlen : j < (ts.mapIdx (fun j t => cfv G M a j t)).length := by rw [List.length_mapIdx]; exact (List.getElem?_eq_some_iff.mp ht).1
  refine va_put (ty := .int) hx hb hts hin ty0 hty hnm hown hK hP hD hS a (wl_get hs) hc j hk (hts _ hlink) (fun _ h9 => h9) hfin hpd rfl rfl hlen hd (fun H1 locs1 hP1 hD1 hS1 => ?_)
  rw [wl_setF hs ht] at hP1
  exact k _ r M' he H1 locs1 ls hP1 (wl_D hD) hS1 hl
theorem v_putZ {idx ci j a : Nat} {ts : List Nat} {x : Int32} {f : Mm → Option (α × Mm)} (q : Nat) (hF : FX X G sh nL cc own ret rm) (hd : decode cc pc = .ok (.putfield idx, 3)) (hq : pc + 3 = q) (hf : FLd own idx ci j) (hp : FPt ci j .boolean) (hs : sh[a]? = some (.inr (ci, ts))) (ht : ts[j]? = some 0) (hz : narrow .boolean (.int x) = .int x ∧ fits .boolean (.int x) = true) (k : ∀ M2, VR X G sh nL rv M2 q lo st (f M2)) : VR X G sh nL rv M pc lo (.int x :: .ref (G.2.2.2.2 a) :: st) (lt1 (up M a j x) f) := by
  obtain ⟨p, l, en, R, s, m, args, below, meth, c⟩ := X
  subst hq
  intro r M' he H locs ls hP hD hS hl
  obtain ⟨hx, hb, hown, hts, hK, hml, hr, hlk, hR, hXT⟩ := hF
  obtain ⟨C, T, N, hc, hk, hin, hT, hlink⟩ := hf
  obtain ⟨C', T', N', ty0, hc', hty, hnm, hfin, hpd⟩ := hp
  cases (hc.symm.trans hc')
  subst hT
  have hlen : j < (ts.mapIdx (fun j t => cfv G M a j t)).length := by rw [List.length_mapIdx]; exact (List.getElem?_eq_some_iff.mp ht).1
  refine va_put (ty := .boolean) hx hb hts hin ty0 hty hnm hown hK hP hD hS a (wl_get hs) hc j hk (hts _ hlink) (fun _ h9 => h9) hfin hpd hz.1 hz.2 hlen hd (fun H1 locs1 hP1 hD1 hS1 => ?_)
  rw [wl_setF hs ht] at hP1
  exact k _ r M' he H1 locs1 ls hP1 (wl_D hD) hS1 hl
theorem v_putJ0 {idx ci j a : Nat} {ts : List Nat} {x : Int64} {f : Mm → Option (α × Mm)} (q : Nat) (hF : FX X G sh nL cc own ret rm) (hd : decode cc pc = .ok (.putfield idx, 3)) (hq : pc + 3 = q) (hf : FLd own idx ci j) (hp : FPt ci j .long) (hs : sh[a]? = some (.inr (ci, ts))) (ht : ts[j]? = some 1) (hz : x.toInt32.toInt64 = x) (k : ∀ M2, VR X G sh nL rv M2 q lo st (f M2)) : VR X G sh nL rv M pc lo (.long x :: .ref (G.2.2.2.2 a) :: st) (lt1 (up M a j x.toInt32) f) := by
  obtain ⟨p, l, en, R, s, m, args, below, meth, c⟩ := X
  subst hq
  intro r M' he H locs ls hP hD hS hl
  obtain ⟨hx, hb, hown, hts, hK, hml, hr, hlk, hR, hXT⟩ := hF
  obtain ⟨C, T, N, hc, hk, hin, hT, hlink⟩ := hf
  obtain ⟨C', T', N', ty0, hc', hty, hnm, hfin, hpd⟩ := hp
  cases (hc.symm.trans hc')
  subst hT
  have hlen : j < (ts.mapIdx (fun j t => cfv G M a j t)).length := by rw [List.length_mapIdx]; exact (List.getElem?_eq_some_iff.mp ht).1
  refine va_put (ty := .long) hx hb hts hin ty0 hty hnm hown hK hP hD hS a (wl_get hs) hc j hk (hts _ hlink) (fun _ h9 => h9) hfin hpd rfl rfl hlen hd (fun H1 locs1 hP1 hD1 hS1 => ?_)
  rw [wl_setL hs ht hz] at hP1
  exact k _ r M' he H1 locs1 ls hP1 (wl_D hD) hS1 hl
theorem v_putJ {idx ci j a : Nat} {ts : List Nat} {x : Int64} {f : Mm → Option (α × Mm)} (q : Nat) (hF : FX X G sh nL cc own ret rm) (hd : decode cc pc = .ok (.putfield idx, 3)) (hq : pc + 3 = q) (hf : FLd own idx ci j) (hp : FPt ci j .long) (hs : sh[a]? = some (.inr (ci, ts))) (ht : ts[j]? = some 1) (k : ∀ M2, VR X G sh nL rv M2 q lo st (f M2)) : VR X G sh nL rv M pc lo (.long x :: .ref (G.2.2.2.2 a) :: st) (gd (decide (x.toInt32.toInt64 = x)) (lt1 (up M a j x.toInt32) f)) :=
  v_gd (fun h => v_putJ0 q hF hd hq hf hp hs ht (by simpa using h) k)
theorem v_iald {a n : Nat} {i : Int32} (q : Nat) (hF : FX X G sh nL cc own ret rm) (hd : decode cc pc = .ok (.iaload, 1)) (hq : pc + 1 = q) (hs : sh[a]? = some (.inl (0, n))) (k : VR X G sh nL rv M q lo (.int (M a i.toNatClampNeg) :: st) e) : VR X G sh nL rv M pc lo (.int i :: .ref (G.2.2.2.2 a) :: st) (gd (inr i n) e) := by
  refine v_gd (fun hi => ?_)
  obtain ⟨p, l, en, R, s, m, args, below, meth, c⟩ := X
  subst hq
  intro r M' he H locs ls hP hD hS hl
  obtain ⟨hx, hb, hown, hts, hK, hml, hr, hlk, hR, hXT⟩ := hF
  exact va_iald hx hb hK hP a 0 (wl_get hs) rfl (inr_in hi) hd (k r M' he H locs ls hP hD hS hl)
theorem v_zald {a n : Nat} {i : Int32} (q : Nat) (hF : FX X G sh nL cc own ret rm) (hd : decode cc pc = .ok (.baload, 1)) (hq : pc + 1 = q) (hs : sh[a]? = some (.inl (1, n))) (k : VR X G sh nL rv M q lo (.int (M a i.toNatClampNeg) :: st) e) : VR X G sh nL rv M pc lo (.int i :: .ref (G.2.2.2.2 a) :: st) (gd (inr i n) e) := by
  refine v_gd (fun hi => ?_)
  obtain ⟨p, l, en, R, s, m, args, below, meth, c⟩ := X
  subst hq
  intro r M' he H locs ls hP hD hS hl
  obtain ⟨hx, hb, hown, hts, hK, hml, hr, hlk, hR, hXT⟩ := hF
  exact va_zald hx hb hK hP a 1 (wl_get hs) rfl (inr_in hi) hd (k r M' he H locs ls hP hD hS hl)
theorem v_aald {a n b : Nat} {i : Int32} (q : Nat) (hF : FX X G sh nL cc own ret rm) (hd : decode cc pc = .ok (.aaload, 1)) (hq : pc + 1 = q) (hs : sh[a]? = some (.inl (b + 2, n))) (k : VR X G sh nL rv M q lo (.ref (G.2.2.2.2 (b + 2 * i.toNatClampNeg)) :: st) e) : VR X G sh nL rv M pc lo (.int i :: .ref (G.2.2.2.2 a) :: st) (gd (inr i n) e) := by
  refine v_gd (fun hi => ?_)
  obtain ⟨p, l, en, R, s, m, args, below, meth, c⟩ := X
  subst hq
  intro r M' he H locs ls hP hD hS hl
  obtain ⟨hx, hb, hown, hts, hK, hml, hr, hlk, hR, hXT⟩ := hF
  exact va_aldq (C := RX0) hx hb hK hP a 2 (wl_get hs) rfl (inr_in hi) hd (k r M' he H locs ls hP hD hS hl)
theorem v_alen {a n t : Nat} (v : Int32) (q : Nat) (hF : FX X G sh nL cc own ret rm) (hd : decode cc pc = .ok (.arraylength, 1)) (hq : pc + 1 = q) (hs : sh[a]? = some (.inl (t, n))) (ht : t = 0 ∨ ∃ b, t = b + 2) (hv : Int32.ofNat n = v) (k : VR X G sh nL rv M q lo (.int v :: st) e) : VR X G sh nL rv M pc lo (.ref (G.2.2.2.2 a) :: st) e := by
  obtain ⟨p, l, en, R, s, m, args, below, meth, c⟩ := X
  subst hq
  intro r M' he H locs ls hP hD hS hl
  obtain ⟨hx, hb, hown, hts, hK, hml, hr, hlk, hR, hXT⟩ := hF
  rcases ht with rfl | ⟨b, rfl⟩
  · exact va_alen hx hb hK hP a 0 (wl_get hs) rfl hv hd (k r M' he H locs ls hP hD hS hl)
  · exact va_alen hx hb hK hP a 2 (wl_get hs) rfl hv hd (k r M' he H locs ls hP hD hS hl)
theorem v_iast {a n : Nat} {i x : Int32} {f : Mm → Option (α × Mm)} (q : Nat) (hF : FX X G sh nL cc own ret rm) (hd : decode cc pc = .ok (.iastore, 1)) (hq : pc + 1 = q) (hs : sh[a]? = some (.inl (0, n))) (k : ∀ M2, VR X G sh nL rv M2 q lo st (f M2)) : VR X G sh nL rv M pc lo (.int x :: .int i :: .ref (G.2.2.2.2 a) :: st) (gd (inr i n) (lt1 (up M a i.toNatClampNeg x) f)) := by
  refine v_gd (fun hi => ?_)
  obtain ⟨p, l, en, R, s, m, args, below, meth, c⟩ := X
  subst hq
  intro r M' he H locs ls hP hD hS hl
  obtain ⟨hx, hb, hown, hts, hK, hml, hr, hlk, hR, hXT⟩ := hF
  refine va_iast hx hb hK hP hD hS a 0 (wl_get hs) rfl (inr_in hi) hd (fun H1 locs1 hP1 hD1 hS1 => ?_)
  rw [wl_setA hs] at hP1
  exact k _ r M' he H1 locs1 ls hP1 (wl_D hD) hS1 hl
theorem v_zast {a n : Nat} {i x : Int32} {f : Mm → Option (α × Mm)} (q : Nat) (hF : FX X G sh nL cc own ret rm) (hd : decode cc pc = .ok (.bastore, 1)) (hq : pc + 1 = q) (hs : sh[a]? = some (.inl (1, n))) (k : ∀ M2, VR X G sh nL rv M2 q lo st (f M2)) : VR X G sh nL rv M pc lo (.int x :: .int i :: .ref (G.2.2.2.2 a) :: st) (gd (inr i n) (lt1 (up M a i.toNatClampNeg (vp_nar .boolean x)) f)) := by
  refine v_gd (fun hi => ?_)
  obtain ⟨p, l, en, R, s, m, args, below, meth, c⟩ := X
  subst hq
  intro r M' he H locs ls hP hD hS hl
  obtain ⟨hx, hb, hown, hts, hK, hml, hr, hlk, hR, hXT⟩ := hF
  refine va_zast hx hb hK hP hD hS a 1 (wl_get hs) rfl (inr_in hi) hd (fun H1 locs1 hP1 hD1 hS1 => ?_)
  rw [wl_setZ hs] at hP1
  exact k _ r M' he H1 locs1 ls hP1 (wl_D hD) hS1 hl
theorem v_mmax {x y : Int32} {idx : Nat} (q : Nat) (hF : FX X G sh nL cc own ret rm) (hd : decode cc pc = .ok (.invokestatic idx, 3)) (hq : pc + 3 = q) (hw : Cond.methodLink own idx Lib.Math.max.name ∈ gT ∧ Cond.static Lib.Math.max.name ∈ gT ∧ Cond.initialized "java/lang/Math" ∈ gT ∧ Cond.code Lib.Math.max.name Lib.Math.max.code 2 (some .int) ∈ gT) (hrm : 1 ≤ rm.frames ∧ (st.map fun v => v.category).sum + 13 ≤ rm.locals) (k : VR X G sh nL rv M q lo (.int (mmax x y) :: st) e) : VR X G sh nL rv M pc lo (.int y :: .int x :: st) e := by
  obtain ⟨p, l, en, R, s, m, args, below, meth, c⟩ := X
  subst hq
  intro r M' he H locs ls hP hD hS hl
  obtain ⟨hx, hb, hown, hts, hK, hml, hr, hlk, hR, hXT⟩ := hF
  subst hR
  obtain ⟨w1, w2, w3, w4⟩ := hw
  exact va_mmax hx hb (hml.trans hl.1.symm) hown (hts _ w1) (hts _ w2) (hts _ w3) (hts _ w4) hrm.1 hrm.2 (Nat.zero_le _) (Nat.zero_le _) hd (k r M' he H locs ls hP hD hS hl)
theorem v_mmin {x y : Int32} {idx : Nat} (q : Nat) (hF : FX X G sh nL cc own ret rm) (hd : decode cc pc = .ok (.invokestatic idx, 3)) (hq : pc + 3 = q) (hw : Cond.methodLink own idx Lib.Math.min.name ∈ gT ∧ Cond.static Lib.Math.min.name ∈ gT ∧ Cond.initialized "java/lang/Math" ∈ gT ∧ Cond.code Lib.Math.min.name Lib.Math.min.code 2 (some .int) ∈ gT) (hrm : 1 ≤ rm.frames ∧ (st.map fun v => v.category).sum + 13 ≤ rm.locals) (k : VR X G sh nL rv M q lo (.int (mmin x y) :: st) e) : VR X G sh nL rv M pc lo (.int y :: .int x :: st) e := by
  obtain ⟨p, l, en, R, s, m, args, below, meth, c⟩ := X
  subst hq
  intro r M' he H locs ls hP hD hS hl
  obtain ⟨hx, hb, hown, hts, hK, hml, hr, hlk, hR, hXT⟩ := hF
  subst hR
  obtain ⟨w1, w2, w3, w4⟩ := hw
  exact va_mmin hx hb (hml.trans hl.1.symm) hown (hts _ w1) (hts _ w2) (hts _ w3) (hts _ w4) hrm.1 hrm.2 (Nat.zero_le _) (Nat.zero_le _) hd (k r M' he H locs ls hP hD hS hl)
theorem v_ldcS {idx : Nat} (i : Nat) (q : Nat) (hF : FX X G sh nL cc own ret rm) (hd : decode cc pc = .ok (.ldc idx, 2)) (hq : pc + 2 = q) (hi : i < 13) (ho : (sRef i).1 = own) (hix : (sRef i).2.1 = idx) (k : VR X G sh nL rv M q lo (.ref (G.2.2.2.2 (1000 + i)) :: st) e) : VR X G sh nL rv M pc lo st e := by
  obtain ⟨p, l, en, R, s, m, args, below, meth, c⟩ := X
  subst hq
  intro r M' he H locs ls hP hD hS hl
  obtain ⟨hx, hb, hown, hts, hK, hml, hr, hlk, hR, hXT⟩ := hF
  have hz := hXT.2.1 i hi
  rw [ho, hix] at hz
  exact va_ldcS hx hb hown hz hd (k r M' he H locs ls hP hD hS hl)
theorem v_sgetV {idx w : Nat} (q : Nat) (hF : FX X G sh nL cc own ret rm) (hd : decode cc pc = .ok (.getfield idx, 3)) (hq : pc + 3 = q) (hw : StOk w) (hl0 : Cond.fieldLink own idx "java/lang/String" "value" "[B" ∈ gT) (k : VR X G sh nL rv M q lo (.ref (G.2.2.2.2 (w + 1000)) :: st) e) : VR X G sh nL rv M pc lo (.ref (G.2.2.2.2 w) :: st) e := by
  obtain ⟨p, l, en, R, s, m, args, below, meth, c⟩ := X
  subst hq
  intro r M' he H locs ls hP hD hS hl
  obtain ⟨hx, hb, hown, hts, hK, hml, hr, hlk, hR, hXT⟩ := hF
  obtain ⟨i, rfl⟩ : ∃ i, w = 1000 + i := ⟨w - 1000, by have := hw.1; omega⟩
  have hE := (hXT.1.1 i (by have := hw.2; omega)).2.2.1
  rw [show 1000 + i + 1000 = 2000 + i by omega] at k
  exact vk_getf hx hb hE hS hown (hts _ hl0) (fun _ z => z) hd (k r M' he H locs ls hP hD hS hl)
theorem v_sgetC {idx w : Nat} (q : Nat) (hF : FX X G sh nL cc own ret rm) (hd : decode cc pc = .ok (.getfield idx, 3)) (hq : pc + 3 = q) (hw : StOk w) (hl0 : Cond.fieldLink own idx "java/lang/String" "coder" "B" ∈ gT) (k : VR X G sh nL rv M q lo (.int 0 :: st) e) : VR X G sh nL rv M pc lo (.ref (G.2.2.2.2 w) :: st) e := by
  obtain ⟨p, l, en, R, s, m, args, below, meth, c⟩ := X
  subst hq
  intro r M' he H locs ls hP hD hS hl
  obtain ⟨hx, hb, hown, hts, hK, hml, hr, hlk, hR, hXT⟩ := hF
  obtain ⟨i, rfl⟩ : ∃ i, w = 1000 + i := ⟨w - 1000, by have := hw.1; omega⟩
  have hE := (hXT.1.1 i (by have := hw.2; omega)).2.1
  exact vk_getf hx hb hE hS hown (hts _ hl0) (fun _ z => z) hd (k r M' he H locs ls hP hD hS hl)
theorem v_compact {idx : Nat} (q : Nat) (hF : FX X G sh nL cc own ret rm) (hd : decode cc pc = .ok (.getstatic idx, 3)) (hq : pc + 3 = q) (hl0 : Cond.fieldLink own idx "java/lang/String" "COMPACT_STRINGS" "Z" ∈ gT) (k : VR X G sh nL rv M q lo (.int 1 :: st) e) : VR X G sh nL rv M pc lo st e := by
  obtain ⟨p, l, en, R, s, m, args, below, meth, c⟩ := X
  subst hq
  intro r M' he H locs ls hP hD hS hl
  obtain ⟨hx, hb, hown, hts, hK, hml, hr, hlk, hR, hXT⟩ := hF
  exact va_gets hx hb hXT.2.2.1 hS hown (hts _ hl0) (fun _ z => z) hd (k r M' he H locs ls hP hD hS hl)
theorem v_abv {idx : Nat} (q : Nat) (hF : FX X G sh nL cc own ret rm) (hd : decode cc pc = .ok (.getstatic idx, 3)) (hq : pc + 3 = q) (hl0 : Cond.fieldLink own idx "NextHouseUp$Village" "ABOVE" "[I" ∈ gT) (k : VR X G sh nL rv M q lo (.ref (G.2.2.2.2 3000) :: st) e) : VR X G sh nL rv M pc lo st e := by
  obtain ⟨p, l, en, R, s, m, args, below, meth, c⟩ := X
  subst hq
  intro r M' he H locs ls hP hD hS hl
  obtain ⟨hx, hb, hown, hts, hK, hml, hr, hlk, hR, hXT⟩ := hF
  exact va_gets hx hb hXT.2.2.2.2.1 hS hown (hts _ hl0) (fun _ z => z) hd (k r M' he H locs ls hP hD hS hl)
theorem v_fmt {idx : Nat} (q : Nat) (hF : FX X G sh nL cc own ret rm) (hd : decode cc pc = .ok (.getstatic idx, 3)) (hq : pc + 3 = q) (hl0 : Cond.fieldLink own idx "jdk/internal/util/Preconditions" "SIOOBE_FORMATTER" "Ljava/util/function/BiFunction;" ∈ gT) (k1 : ∀ t : Nat, VR X G sh nL rv M q lo (.ref t :: st) e) (k : VR X G sh nL rv M q lo (.null :: st) e) : VR X G sh nL rv M pc lo st e := by
  obtain ⟨p, l, en, R, s, m, args, below, meth, c⟩ := X
  subst hq
  intro r M' he H locs ls hP hD hS hl
  obtain ⟨hx, hb, hown, hts, hK, hml, hr, hlk, hR, hXT⟩ := hF
  rcases hXT.2.2.2.1 with hz | ⟨t, hz⟩
  · exact va_gets hx hb hz hS hown (hts _ hl0) (fun _ z => z) hd (k r M' he H locs ls hP hD hS hl)
  · exact va_gets hx hb hz hS hown (hts _ hl0) (fun _ z => z) hd (k1 t r M' he H locs ls hP hD hS hl)
theorem v_abvlen  (q : Nat) (hF : FX X G sh nL cc own ret rm) (hd : decode cc pc = .ok (.arraylength, 1)) (hq : pc + 1 = q) (k : VR X G sh nL rv M q lo (.int 6 :: st) e) : VR X G sh nL rv M pc lo (.ref (G.2.2.2.2 3000) :: st) e := by
  obtain ⟨p, l, en, R, s, m, args, below, meth, c⟩ := X
  subst hq
  intro r M' he H locs ls hP hD hS hl
  obtain ⟨hx, hb, hown, hts, hK, hml, hr, hlk, hR, hXT⟩ := hF
  exact va_tlen hx hb hXT.2.2.2.2.2 hS rfl hd (k r M' he H locs ls hP hD hS hl)
theorem v_slen {w : Nat} (q : Nat) (hF : FX X G sh nL cc own ret rm) (hd : decode cc pc = .ok (.arraylength, 1)) (hq : pc + 1 = q) (hw : StOk w) (k : VR X G sh nL rv M q lo (.int (Int32.ofNat (slen w)) :: st) e) : VR X G sh nL rv M pc lo (.ref (G.2.2.2.2 (w + 1000)) :: st) e := by
  obtain ⟨p, l, en, R, s, m, args, below, meth, c⟩ := X
  subst hq
  intro r M' he H locs ls hP hD hS hl
  obtain ⟨hx, hb, hown, hts, hK, hml, hr, hlk, hR, hXT⟩ := hF
  obtain ⟨i, rfl⟩ : ∃ i, w = 1000 + i := ⟨w - 1000, by have := hw.1; omega⟩
  have hE := (hXT.1.1 i (by have := hw.2; omega)).2.2.2
  rw [show 1000 + i + 1000 = 2000 + i by omega]
  exact va_tlen hx hb hE hS (by simp [slen]) hd (k r M' he H locs ls hP hD hS hl)
theorem v_abvld {i : Int32} (q : Nat) (hF : FX X G sh nL cc own ret rm) (hd : decode cc pc = .ok (.iaload, 1)) (hq : pc + 1 = q) (k : VR X G sh nL rv M q lo (.int (abv i.toNatClampNeg) :: st) e) : VR X G sh nL rv M pc lo (.int i :: .ref (G.2.2.2.2 3000) :: st) (gd (inr i 6) e) := by
  refine v_gd (fun hi => ?_)
  obtain ⟨p, l, en, R, s, m, args, below, meth, c⟩ := X
  subst hq
  intro r M' he H locs ls hP hD hS hl
  obtain ⟨hx, hb, hown, hts, hK, hml, hr, hlk, hR, hXT⟩ := hF
  exact va_ti hx hb hXT.2.2.2.2.2 hS (inr_in hi) rfl hd (k r M' he H locs ls hP hD hS hl)
theorem v_sbld {i : Int32} {w : Nat} (q : Nat) (hF : FX X G sh nL cc own ret rm) (hd : decode cc pc = .ok (.baload, 1)) (hq : pc + 1 = q) (hw : StOk w) (k : VR X G sh nL rv M q lo (.int (sbyt w i.toNatClampNeg) :: st) e) : VR X G sh nL rv M pc lo (.int i :: .ref (G.2.2.2.2 (w + 1000)) :: st) (gd (inr i (slen w)) e) := by
  refine v_gd (fun hi => ?_)
  obtain ⟨p, l, en, R, s, m, args, below, meth, c⟩ := X
  subst hq
  intro r M' he H locs ls hP hD hS hl
  obtain ⟨hx, hb, hown, hts, hK, hml, hr, hlk, hR, hXT⟩ := hF
  obtain ⟨i0, rfl⟩ : ∃ i, w = 1000 + i := ⟨w - 1000, by have := hw.1; omega⟩
  have hE := (hXT.1.1 i0 (by have := hw.2; omega)).2.2.2
  rw [show 1000 + i0 + 1000 = 2000 + i0 by omega]
  have hi2 := inr_in hi
  simp only [slen, Nat.add_sub_cancel_left] at hi2
  exact va_tb hx hb hE hS hi2 (by simp [sbyt]) hd (k r M' he H locs ls hP hD hS hl)
theorem v_i2c {x : Int32} (q : Nat) (hF : FX X G sh nL cc own ret rm) (hd : decode cc pc = .ok (.i2c, 1)) (hq : pc + 1 = q) (k : VR X G sh nL rv M q lo (.int (x.toUInt32 % 65536).toInt32 :: st) e) : VR X G sh nL rv M pc lo (.int x :: st) e := by
  obtain ⟨p, l, en, R, s, m, args, below, meth, c⟩ := X
  subst hq
  intro r M' he H locs ls hP hD hS hl
  obtain ⟨hx, hb, hown, hts, hK, hml, hr, hlk, hR, hXT⟩ := hF
  exact lv_i2c hx hb hd rfl (k r M' he H locs ls hP hD hS hl)
theorem v_acopy {a0 a1 n0 n1 idx : Nat} {sp dp n : Int32} {f : Mm → Option (α × Mm)} (q : Nat) (hF : FX X G sh nL cc own ret rm) (hd : decode cc pc = .ok (.invokestatic idx, 3)) (hq : pc + 3 = q) (hs0 : sh[a0]? = some (.inl (0, n0))) (hs1 : sh[a1]? = some (.inl (0, n1))) (hw : Cond.methodLink own idx arraycopyName ∈ gT ∧ Cond.native arraycopyName ∈ gT ∧ Cond.static arraycopyName ∈ gT ∧ Cond.initialized "java/lang/System" ∈ gT) (hrm : 1 ≤ rm.frames ∧ (st.map fun v => v.category).sum + (nativeFrameWords "java/lang/System" "arraycopy" 5 + 11) ≤ rm.locals) (k : ∀ M2, VR X G sh nL rv M2 q lo st (f M2)) : VR X G sh nL rv M pc lo (.int n :: .int dp :: .ref (G.2.2.2.2 a1) :: .int sp :: .ref (G.2.2.2.2 a0) :: st) (gd (cpok sp dp n n0 n1) (lt1 (upr M a1 (va_cpy (M a0) (M a1) sp.toNatClampNeg dp.toNatClampNeg n.toNatClampNeg)) f)) := by
  refine v_gd (fun hc => ?_)
  obtain ⟨p, l, en, R, s, m, args, below, meth, c⟩ := X
  subst hq
  intro r M' he H locs ls hP hD hS hl
  obtain ⟨hx, hb, hown, hts, hK, hml, hr, hlk, hR, hXT⟩ := hF
  subst hR
  obtain ⟨w1, w2, w3, w4⟩ := hw
  simp only [cpok, Bool.and_eq_true, Bool.not_eq_true', decide_eq_false_iff_not, decide_eq_true_eq] at hc
  obtain ⟨⟨⟨⟨c1, c2⟩, c3⟩, c4⟩, c5⟩ := hc
  refine va_copyi (ty := .int) hx hb (hml.trans hl.1.symm) hown (hts _ w1) (hts _ w2) (hts _ w3) (hts _ w4) hK hP hD hS a0 a1 0 0 (wl_get hs0) (wl_get hs1) rfl rfl rfl c1 c2 c3 c4 c5 (fun _ _ => rfl) hrm.1 hrm.2 hd (fun H1 locs1 hP1 hD1 hS1 => ?_)
  rw [wl_setR hs1] at hP1
  exact k _ r M' he H1 locs1 ls hP1 (wl_D hD) hS1 hl
theorem v_nret {x : Int32} {ty : FieldType} (hF : FX X G sh nL cc own (some ty) rm) (hd : decode cc pc = .ok (.ireturn, 1)) (hz : narrow ty (.int x) = .int x) : VR X G sh nL rvI M pc lo [.int x] (some (x, M)) := by
  obtain ⟨p, l, en, R, s, m, args, below, meth, c⟩ := X
  intro r M' he H locs ls hP hD hS hl
  obtain ⟨hx, hb, hown, hts, hK, hml, hr, hlk, hR, hXT⟩ := hF
  cases he
  exact W.zret hx hb hr hz (fun t ht hW => ⟨⟨rfl, by rw [ht]; exact hP⟩, hS.F ht⟩) hS.2.2 hd hlk
theorem v_iret {x : Int32} (hF : FX X G sh nL cc own (some .int) rm) (hd : decode cc pc = .ok (.ireturn, 1)) : VR X G sh nL rvI M pc lo [.int x] (some (x, M)) := by
  obtain ⟨p, l, en, R, s, m, args, below, meth, c⟩ := X
  intro r M' he H locs ls hP hD hS hl
  obtain ⟨hx, hb, hown, hts, hK, hml, hr, hlk, hR, hXT⟩ := hF
  cases he
  exact W.iret hx hb hr (fun t ht hW => ⟨⟨rfl, by rw [ht]; exact hP⟩, hS.F ht⟩) hS.2.2 hd hlk
theorem v_zret0 {x : Int32} (hF : FX X G sh nL cc own (some .boolean) rm) (hd : decode cc pc = .ok (.ireturn, 1)) (hz : narrow .boolean (.int x) = .int x) : VR X G sh nL rvI M pc lo [.int x] (some (x, M)) := by
  obtain ⟨p, l, en, R, s, m, args, below, meth, c⟩ := X
  intro r M' he H locs ls hP hD hS hl
  obtain ⟨hx, hb, hown, hts, hK, hml, hr, hlk, hR, hXT⟩ := hF
  cases he
  exact W.zret hx hb hr hz (fun t ht hW => ⟨⟨rfl, by rw [ht]; exact hP⟩, hS.F ht⟩) hS.2.2 hd hlk
theorem z01_n {x : Int32} (h : z01 x = true) : narrow .boolean (.int x) = .int x ∧ fits .boolean (.int x) = true := by
  simp only [z01, Bool.or_eq_true, decide_eq_true_eq] at h
  rcases h with rfl | rfl
  · exact ⟨rfl, rfl⟩
  · exact ⟨rfl, rfl⟩
theorem v_zret {x : Int32} (hF : FX X G sh nL cc own (some .boolean) rm) (hd : decode cc pc = .ok (.ireturn, 1)) : VR X G sh nL rvI M pc lo [.int x] (gd (z01 x) (some (x, M))) := v_gd (fun h => v_zret0 hF hd (z01_n h).1)
theorem v_lret {x : Int64} (hF : FX X G sh nL cc own (some .long) rm) (hd : decode cc pc = .ok (.lreturn, 1)) : VR X G sh nL rvJ M pc lo [.long x] (some (x, M)) := by
  obtain ⟨p, l, en, R, s, m, args, below, meth, c⟩ := X
  intro r M' he H locs ls hP hD hS hl
  obtain ⟨hx, hb, hown, hts, hK, hml, hr, hlk, hR, hXT⟩ := hF
  cases he
  exact W.lret hx hb hr (fun t ht hW => ⟨⟨rfl, by rw [ht]; exact hP⟩, hS.F ht⟩) hS.2.2 hd hlk
theorem v_vret (hF : FX X G sh nL cc own none rm) (hd : decode cc pc = .ok (.return_, 1)) : VR X G sh nL rvV M pc lo [] (some ((), M)) := by
  obtain ⟨p, l, en, R, s, m, args, below, meth, c⟩ := X
  intro r M' he H locs ls hP hD hS hl
  obtain ⟨hx, hb, hown, hts, hK, hml, hr, hlk, hR, hXT⟩ := hF
  cases he
  exact W.vret hx hb hr (fun t ht hW => ⟨⟨rfl, by rw [ht]; exact hP⟩, hS.F ht⟩) hS.2.2 hd hlk
theorem v_aretR {k : Nat} {C : String} (hF : FX X G sh nL cc own (some (.object C)) rm) (hd : decode cc pc = .ok (.areturn, 1)) : VR X G sh nL (rvR G) M pc lo [.ref (G.2.2.2.2 k)] (some (some k, M)) := by
  obtain ⟨p, l, en, R, s, m, args, below, meth, c⟩ := X
  intro r M' he H locs ls hP hD hS hl
  obtain ⟨hx, hb, hown, hts, hK, hml, hr, hlk, hR, hXT⟩ := hF
  cases he
  exact W.aret hx hb hr (Or.inl ⟨_, rfl⟩) (Or.inr ⟨_, rfl⟩) (fun t ht hW => ⟨⟨rfl, by rw [ht]; exact hP⟩, hS.F ht⟩) hS.2.2 hd hlk
theorem v_aretN {C : String} (hF : FX X G sh nL cc own (some (.object C)) rm) (hd : decode cc pc = .ok (.areturn, 1)) : VR X G sh nL (rvR G) M pc lo [.null] (some (none, M)) := by
  obtain ⟨p, l, en, R, s, m, args, below, meth, c⟩ := X
  intro r M' he H locs ls hP hD hS hl
  obtain ⟨hx, hb, hown, hts, hK, hml, hr, hlk, hR, hXT⟩ := hF
  cases he
  exact W.aret hx hb hr (Or.inl ⟨_, rfl⟩) (Or.inl rfl) (fun t ht hW => ⟨⟨rfl, by rw [ht]; exact hP⟩, hS.F ht⟩) hS.2.2 hd hlk
/-- a call's words -/
def CWv (own : String) (idx : Nat) (C : String) (y : MethodName) (cc : ByteArray) (maxL : Nat) (ret : Option FieldType) (n : Nat) : Prop := (y.cls = C ∧ y.cls ≠ "java/lang/invoke/MethodHandle" ∧ y.cls ≠ "java/lang/invoke/VarHandle" ∧ (parseMethodDescriptor y.desc).map (fun d => d.parameters.length) = some n) ∧ Cond.methodLink own idx y ∈ gT ∧ Cond.instanceMethod y ∈ gT ∧ Cond.selects C y y ∈ gT ∧ Cond.initialized C ∈ gT ∧ Cond.code y cc maxL ret ∈ gT
def CWs (own : String) (idx : Nat) (y : MethodName) (cc : ByteArray) (maxL : Nat) (ret : Option FieldType) (n : Nat) : Prop := (y.cls ≠ "java/lang/invoke/MethodHandle" ∧ y.cls ≠ "java/lang/invoke/VarHandle" ∧ (parseMethodDescriptor y.desc).map (fun d => d.parameters.length) = some n) ∧ Cond.methodLink own idx y ∈ gT ∧ Cond.static y ∈ gT ∧ Cond.initialized y.cls ∈ gT ∧ Cond.code y cc maxL ret ∈ gT
/-- room for a callee -/
def rmok (rc rm : Room) (maxL : Nat) : Prop := rc.cells = 0 ∧ rc.slots = 0 ∧ rc.frames + 1 ≤ rm.frames ∧ 8 + (maxL + 11) + rc.locals ≤ rm.locals
theorem v_callX {β : Type} {y : MethodName} {cc2 : ByteArray} {maxL idx n ci b : Nat} {ret2 : Option FieldType} {rc : Room} {C : String} {T : u_T} {N : Nat} {As rest : List Value} {rv2 : β → Option Value} {e1 : Option (β × Mm)} {ts : List Nat} {f : β → Mm → Option (α × Mm)} (q : Nat) (hF : FX X G sh nL cc own ret rm) (hd : decode cc pc = .ok (.invokevirtual idx, 3)) (hq : pc + 3 = q) (hcw : CWv own idx C y cc2 maxL ret2 n) (hC : vwCl[ci]? = some (C, T, N)) (hs : sh[b]? = some (.inr (ci, ts))) (hct : CT y cc2 maxL ret2 rc G sh (.ref (G.2.2.2.2 b) :: As) rv2 M e1) (hrm : rmok rc rm maxL) (hst : st = As.reverse ++ .ref (G.2.2.2.2 b) :: rest) (hn : As.length = n) (hw : (rest.map fun v => v.category).sum ≤ 8) (k : ∀ r2 M2, VR X G sh nL rv M2 q lo ((rv2 r2).toList ++ rest) (f r2 M2)) : VR X G sh nL rv M pc lo st (bd e1 f) := by
  obtain ⟨p, l, en, R, s, m, args, below, meth, c⟩ := X
  subst hq
  intro r M' he H locs ls hP hD hS hl
  obtain ⟨hx, hb, hown, hts, hK, hml, hr, hlk, hR, hXT⟩ := hF
  subst hR
  cases e1 with
  | none => cases he
  | some x =>
    obtain ⟨r2, M2⟩ := x
    have hM := hct l r2 M2 H.size rfl
    obtain ⟨hy, w1, w2, w3, w4, w5⟩ := hcw
    have hG : GoodIn gT (wsV own idx C y (Cond.code y cc2 maxL ret2 :: gT)) := by
      intro w hw
      unfold wsV at hw
      rcases List.mem_append.mp hw with h | h
      · simp only [List.mem_cons, List.not_mem_nil, or_false] at h
        rcases h with rfl | rfl | rfl | rfl
        · exact gT_good _ w1
        · exact gT_good _ w2
        · exact gT_good _ w3
        · exact gT_good _ w4
      · exact gT_goodC w5 w h
    have hD2 := AX_D (sz := H.size) hD
    have run := va_runV (p := p) (l := l) (e := en) (R := R) (s := s) (m := m) (args := args) (below := below) (meth := meth) (c := c) (H := H) (locs := locs) (cells := 0) (slots := 0) (g := F0 m pc ls st) (b := G.2.2.2.2 b) (As := As) (rest := rest) ⟨hx, hb, hml, hown, hts⟩ hM (cwV n hts hG rfl hrm.1 hrm.2.1 hy hrm.2.2) ⟨fun a U g mk z => ⟨z.1, z.2.1, z.2.2.1, va_K.moved (u := U) (U := U.calling g mk a) (Vm.Alike.refl U.vm) z.2.2.2.1, z.2.2.2.2.1, XT_calling z.2.2.2.2.2⟩, va_recv hK hP hC (wl_get hs), fun U hU hW => ⟨rfl, by rw [hU], by rw [hU]; exact hP, va_K.moved hW.alike hK, hD.weaken (fun _ _ _ _ => trivial), XT_moved hXT hS hU hW⟩⟩ rfl hn hl.1 hst (lv_room hw) hd ⟨Nat.zero_le _, Nat.zero_le _⟩
    intro T0 hT Xs
    obtain ⟨v, st₀, t, T', L, h0, X', hL, e1, e2, ⟨⟨hv, hP2⟩, hz, hk2⟩, stp⟩ := run T0 hT Xs
    cases hv
    rw [h0] at hz hk2
    have hA : ∀ z, AX sh G H.size z → AX sh G s.heap.size z := fun z hz2 => AX_le hS.1 hz2
    obtain ⟨t2, a1, b1⟩ := k r2 M2 r M' he T'.heap (locs ++ L) ls (by rw [e1]; exact hP2) (wl_D hD) ⟨Nat.le_trans hS.1 (by rw [e1]; exact hz), fun z h1 h2 => by rw [e1, hk2 z (Nat.lt_of_lt_of_le h1 hS.1) (fun w => h2 (hA z w))]; exact hS.2.1 z h1 h2, fun z hz2 => by
        rcases List.mem_append.mp hz2 with h | h
        · exact hS.2.2 z h
        · exact hA _ (hL z h)⟩ hl T' rfl X'
    exact ⟨t2, stp t2 a1, b1⟩
theorem v_callY {β : Type} {y : MethodName} {cc2 : ByteArray} {maxL idx n : Nat} {ret2 : Option FieldType} {rc : Room} {As rest : List Value} {rv2 : β → Option Value} {e1 : Option (β × Mm)} {f : β → Mm → Option (α × Mm)} (q : Nat) (hF : FX X G sh nL cc own ret rm) (hd : decode cc pc = .ok (.invokestatic idx, 3)) (hq : pc + 3 = q) (hcw : CWs own idx y cc2 maxL ret2 n) (hct : CT y cc2 maxL ret2 rc G sh As rv2 M e1) (hrm : rmok rc rm maxL) (hst : st = As.reverse ++ rest) (hn : As.length = n) (hw : (rest.map fun v => v.category).sum ≤ 8) (k : ∀ r2 M2, VR X G sh nL rv M2 q lo ((rv2 r2).toList ++ rest) (f r2 M2)) : VR X G sh nL rv M pc lo st (bd e1 f) := by
  obtain ⟨p, l, en, R, s, m, args, below, meth, c⟩ := X
  subst hq
  intro r M' he H locs ls hP hD hS hl
  obtain ⟨hx, hb, hown, hts, hK, hml, hr, hlk, hR, hXT⟩ := hF
  subst hR
  cases e1 with
  | none => cases he
  | some x =>
    obtain ⟨r2, M2⟩ := x
    have hM := hct l r2 M2 H.size rfl
    obtain ⟨hy, w1, w2, w4, w5⟩ := hcw
    have hcb : CallB R s args own idx y cc2 maxL ret2 (Cond.code y cc2 maxL ret2 :: gT) rc 0 0 n := callB_of n hts (gT_goodC w5) rfl hrm.1 hrm.2.1 (hts _ w4) (hts _ w1) hy hrm.2.2
    have run := va_runS (p := p) (l := l) (e := en) (R := R) (s := s) (m := m) (args := args) (below := below) (meth := meth) (c := c) (H := H) (locs := locs) (cells := 0) (slots := 0) (g := F0 m pc ls st) (As := As) (rest := rest) ⟨hx, hb, hml, hown, hts⟩ hM ⟨hcb, hts _ w2⟩ ⟨fun a U g mk z => ⟨z.1, z.2.1, z.2.2.1, va_K.moved (u := U) (U := U.calling g mk a) (Vm.Alike.refl U.vm) z.2.2.2.1, z.2.2.2.2.1, XT_calling z.2.2.2.2.2⟩, fun U hU hW => ⟨rfl, by rw [hU], by rw [hU]; exact hP, va_K.moved hW.alike hK, hD.weaken (fun _ _ _ _ => trivial), XT_moved hXT hS hU hW⟩⟩ rfl hn hl.1 hst (lv_room hw) hd ⟨Nat.zero_le _, Nat.zero_le _⟩
    intro T0 hT Xs
    obtain ⟨v, st₀, t, T', L, h0, X', hL, e1, e2, ⟨⟨hv, hP2⟩, hz, hk2⟩, stp⟩ := run T0 hT Xs
    cases hv
    rw [h0] at hz hk2
    have hA : ∀ z, AX sh G H.size z → AX sh G s.heap.size z := fun z hz2 => AX_le hS.1 hz2
    obtain ⟨t2, a1, b1⟩ := k r2 M2 r M' he T'.heap (locs ++ L) ls (by rw [e1]; exact hP2) (wl_D hD) ⟨Nat.le_trans hS.1 (by rw [e1]; exact hz), fun z h1 h2 => by rw [e1, hk2 z (Nat.lt_of_lt_of_le h1 hS.1) (fun w => h2 (hA z w))]; exact hS.2.1 z h1 h2, fun z hz2 => by
        rcases List.mem_append.mp hz2 with h | h
        · exact hS.2.2 z h
        · exact hA _ (hL z h)⟩ hl T' rfl X'
    exact ⟨t2, stp t2 a1, b1⟩
theorem v_callI {y : MethodName} {cc2 : ByteArray} {maxL idx n ci b : Nat} {ret2 : Option FieldType} {rc : Room} {C : String} {T : u_T} {N : Nat} {e1 : Option (Int32 × Mm)} {ts : List Nat} {f : Int32 → Mm → Option (α × Mm)} (As rest : List Value) (q : Nat) (hF : FX X G sh nL cc own ret rm) (hd : decode cc pc = .ok (.invokevirtual idx, 3)) (hq : pc + 3 = q) (hcw : CWv own idx C y cc2 maxL ret2 n) (hC : vwCl[ci]? = some (C, T, N)) (hs : sh[b]? = some (.inr (ci, ts))) (hct : CT y cc2 maxL ret2 rc G sh (.ref (G.2.2.2.2 b) :: As) rvI M e1) (hrm : rmok rc rm maxL) (hst : st = As.reverse ++ .ref (G.2.2.2.2 b) :: rest) (hn : As.length = n) (hw : (rest.map fun v => v.category).sum ≤ 8) (k : ∀ r2 M2, VR X G sh nL rv M2 q lo (.int r2 :: rest) (f r2 M2)) : VR X G sh nL rv M pc lo st (bd e1 f) := v_callX q hF hd hq hcw hC hs hct hrm hst hn hw k
theorem v_staI {y : MethodName} {cc2 : ByteArray} {maxL idx n : Nat} {ret2 : Option FieldType} {rc : Room} {e1 : Option (Int32 × Mm)} {f : Int32 → Mm → Option (α × Mm)} (As rest : List Value) (q : Nat) (hF : FX X G sh nL cc own ret rm) (hd : decode cc pc = .ok (.invokestatic idx, 3)) (hq : pc + 3 = q) (hcw : CWs own idx y cc2 maxL ret2 n) (hct : CT y cc2 maxL ret2 rc G sh As rvI M e1) (hrm : rmok rc rm maxL) (hst : st = As.reverse ++ rest) (hn : As.length = n) (hw : (rest.map fun v => v.category).sum ≤ 8) (k : ∀ r2 M2, VR X G sh nL rv M2 q lo (.int r2 :: rest) (f r2 M2)) : VR X G sh nL rv M pc lo st (bd e1 f) := v_callY q hF hd hq hcw hct hrm hst hn hw k
theorem v_callV {y : MethodName} {cc2 : ByteArray} {maxL idx n ci b : Nat} {ret2 : Option FieldType} {rc : Room} {C : String} {T : u_T} {N : Nat} {e1 : Option (Unit × Mm)} {ts : List Nat} {f : Unit → Mm → Option (α × Mm)} (As rest : List Value) (q : Nat) (hF : FX X G sh nL cc own ret rm) (hd : decode cc pc = .ok (.invokevirtual idx, 3)) (hq : pc + 3 = q) (hcw : CWv own idx C y cc2 maxL ret2 n) (hC : vwCl[ci]? = some (C, T, N)) (hs : sh[b]? = some (.inr (ci, ts))) (hct : CT y cc2 maxL ret2 rc G sh (.ref (G.2.2.2.2 b) :: As) rvV M e1) (hrm : rmok rc rm maxL) (hst : st = As.reverse ++ .ref (G.2.2.2.2 b) :: rest) (hn : As.length = n) (hw : (rest.map fun v => v.category).sum ≤ 8) (k : ∀ r2 M2, VR X G sh nL rv M2 q lo (rest) (f r2 M2)) : VR X G sh nL rv M pc lo st (bd e1 f) := v_callX q hF hd hq hcw hC hs hct hrm hst hn hw k
theorem v_staV {y : MethodName} {cc2 : ByteArray} {maxL idx n : Nat} {ret2 : Option FieldType} {rc : Room} {e1 : Option (Unit × Mm)} {f : Unit → Mm → Option (α × Mm)} (As rest : List Value) (q : Nat) (hF : FX X G sh nL cc own ret rm) (hd : decode cc pc = .ok (.invokestatic idx, 3)) (hq : pc + 3 = q) (hcw : CWs own idx y cc2 maxL ret2 n) (hct : CT y cc2 maxL ret2 rc G sh As rvV M e1) (hrm : rmok rc rm maxL) (hst : st = As.reverse ++ rest) (hn : As.length = n) (hw : (rest.map fun v => v.category).sum ≤ 8) (k : ∀ r2 M2, VR X G sh nL rv M2 q lo (rest) (f r2 M2)) : VR X G sh nL rv M pc lo st (bd e1 f) := v_callY q hF hd hq hcw hct hrm hst hn hw k
theorem v_callJ {y : MethodName} {cc2 : ByteArray} {maxL idx n ci b : Nat} {ret2 : Option FieldType} {rc : Room} {C : String} {T : u_T} {N : Nat} {e1 : Option (Int64 × Mm)} {ts : List Nat} {f : Int64 → Mm → Option (α × Mm)} (As rest : List Value) (q : Nat) (hF : FX X G sh nL cc own ret rm) (hd : decode cc pc = .ok (.invokevirtual idx, 3)) (hq : pc + 3 = q) (hcw : CWv own idx C y cc2 maxL ret2 n) (hC : vwCl[ci]? = some (C, T, N)) (hs : sh[b]? = some (.inr (ci, ts))) (hct : CT y cc2 maxL ret2 rc G sh (.ref (G.2.2.2.2 b) :: As) rvJ M e1) (hrm : rmok rc rm maxL) (hst : st = As.reverse ++ .ref (G.2.2.2.2 b) :: rest) (hn : As.length = n) (hw : (rest.map fun v => v.category).sum ≤ 8) (k : ∀ r2 M2, VR X G sh nL rv M2 q lo (.long r2 :: rest) (f r2 M2)) : VR X G sh nL rv M pc lo st (bd e1 f) := v_callX q hF hd hq hcw hC hs hct hrm hst hn hw k
theorem v_staJ {y : MethodName} {cc2 : ByteArray} {maxL idx n : Nat} {ret2 : Option FieldType} {rc : Room} {e1 : Option (Int64 × Mm)} {f : Int64 → Mm → Option (α × Mm)} (As rest : List Value) (q : Nat) (hF : FX X G sh nL cc own ret rm) (hd : decode cc pc = .ok (.invokestatic idx, 3)) (hq : pc + 3 = q) (hcw : CWs own idx y cc2 maxL ret2 n) (hct : CT y cc2 maxL ret2 rc G sh As rvJ M e1) (hrm : rmok rc rm maxL) (hst : st = As.reverse ++ rest) (hn : As.length = n) (hw : (rest.map fun v => v.category).sum ≤ 8) (k : ∀ r2 M2, VR X G sh nL rv M2 q lo (.long r2 :: rest) (f r2 M2)) : VR X G sh nL rv M pc lo st (bd e1 f) := v_callY q hF hd hq hcw hct hrm hst hn hw k
theorem v_callSX {β : Type} {y : MethodName} {cc2 : ByteArray} {maxL idx n b : Nat} {ret2 : Option FieldType} {rc : Room} {As rest : List Value} {rv2 : β → Option Value} {e1 : Option (β × Mm)} {f : β → Mm → Option (α × Mm)} (q : Nat) (hF : FX X G sh nL cc own ret rm) (hd : decode cc pc = .ok (.invokevirtual idx, 3)) (hq : pc + 3 = q) (hcw : CWv own idx "java/lang/String" y cc2 maxL ret2 n) (hw0 : StOk b) (hct : CT y cc2 maxL ret2 rc G sh (.ref (G.2.2.2.2 b) :: As) rv2 M e1) (hrm : rmok rc rm maxL) (hst : st = As.reverse ++ .ref (G.2.2.2.2 b) :: rest) (hn : As.length = n) (hw : (rest.map fun v => v.category).sum ≤ 8) (k : ∀ r2 M2, VR X G sh nL rv M2 q lo ((rv2 r2).toList ++ rest) (f r2 M2)) : VR X G sh nL rv M pc lo st (bd e1 f) := by
  obtain ⟨p, l, en, R, s, m, args, below, meth, c⟩ := X
  subst hq
  intro r M' he H locs ls hP hD hS hl
  obtain ⟨hx, hb, hown, hts, hK, hml, hr, hlk, hR, hXT⟩ := hF
  subst hR
  cases e1 with
  | none => cases he
  | some x =>
    obtain ⟨r2, M2⟩ := x
    have hM := hct l r2 M2 H.size rfl
    obtain ⟨hy, w1, w2, w3, w4, w5⟩ := hcw
    have hG : GoodIn gT (wsV own idx "java/lang/String" y (Cond.code y cc2 maxL ret2 :: gT)) := by
      intro w hw
      unfold wsV at hw
      rcases List.mem_append.mp hw with h | h
      · simp only [List.mem_cons, List.not_mem_nil, or_false] at h
        rcases h with rfl | rfl | rfl | rfl
        · exact gT_good _ w1
        · exact gT_good _ w2
        · exact gT_good _ w3
        · exact gT_good _ w4
      · exact gT_goodC w5 w h
    have hrecv : ∃ cell : Cell, H[G.2.2.2.2 b]? = some cell ∧ cell.vm.isStatics = false ∧ s.vm.findClass "java/lang/String" = some cell.cls := by
      obtain ⟨i, rfl⟩ : ∃ i, b = 1000 + i := ⟨b - 1000, by have := hw0.1; omega⟩
      exact vk_recv hXT.1 (i := i) (by have := hw0.2; omega) hS
    have hD2 := AX_D (sz := H.size) hD
    have run := va_runV (p := p) (l := l) (e := en) (R := R) (s := s) (m := m) (args := args) (below := below) (meth := meth) (c := c) (H := H) (locs := locs) (cells := 0) (slots := 0) (g := F0 m pc ls st) (b := G.2.2.2.2 b) (As := As) (rest := rest) ⟨hx, hb, hml, hown, hts⟩ hM (cwV n hts hG rfl hrm.1 hrm.2.1 hy hrm.2.2) ⟨fun a U g mk z => ⟨z.1, z.2.1, z.2.2.1, va_K.moved (u := U) (U := U.calling g mk a) (Vm.Alike.refl U.vm) z.2.2.2.1, z.2.2.2.2.1, XT_calling z.2.2.2.2.2⟩, hrecv, fun U hU hW => ⟨rfl, by rw [hU], by rw [hU]; exact hP, va_K.moved hW.alike hK, hD.weaken (fun _ _ _ _ => trivial), XT_moved hXT hS hU hW⟩⟩ rfl hn hl.1 hst (lv_room hw) hd ⟨Nat.zero_le _, Nat.zero_le _⟩
    intro T0 hT Xs
    obtain ⟨v, st₀, t, T', L, h0, X', hL, e1, e2, ⟨⟨hv, hP2⟩, hz, hk2⟩, stp⟩ := run T0 hT Xs
    cases hv
    rw [h0] at hz hk2
    have hA : ∀ z, AX sh G H.size z → AX sh G s.heap.size z := fun z hz2 => AX_le hS.1 hz2
    obtain ⟨t2, a1, b1⟩ := k r2 M2 r M' he T'.heap (locs ++ L) ls (by rw [e1]; exact hP2) (wl_D hD) ⟨Nat.le_trans hS.1 (by rw [e1]; exact hz), fun z h1 h2 => by rw [e1, hk2 z (Nat.lt_of_lt_of_le h1 hS.1) (fun w => h2 (hA z w))]; exact hS.2.1 z h1 h2, fun z hz2 => by
        rcases List.mem_append.mp hz2 with h | h
        · exact hS.2.2 z h
        · exact hA _ (hL z h)⟩ hl T' rfl X'
    exact ⟨t2, stp t2 a1, b1⟩
theorem v_callSI {y : MethodName} {cc2 : ByteArray} {maxL idx n b : Nat} {ret2 : Option FieldType} {rc : Room} {e1 : Option (Int32 × Mm)} {f : Int32 → Mm → Option (α × Mm)} (As rest : List Value) (q : Nat) (hF : FX X G sh nL cc own ret rm) (hd : decode cc pc = .ok (.invokevirtual idx, 3)) (hq : pc + 3 = q) (hcw : CWv own idx "java/lang/String" y cc2 maxL ret2 n) (hw0 : StOk b) (hct : CT y cc2 maxL ret2 rc G sh (.ref (G.2.2.2.2 b) :: As) rvI M e1) (hrm : rmok rc rm maxL) (hst : st = As.reverse ++ .ref (G.2.2.2.2 b) :: rest) (hn : As.length = n) (hw : (rest.map fun v => v.category).sum ≤ 8) (k : ∀ r2 M2, VR X G sh nL rv M2 q lo (.int r2 :: rest) (f r2 M2)) : VR X G sh nL rv M pc lo st (bd e1 f) := v_callSX q hF hd hq hcw hw0 hct hrm hst hn hw k
theorem nar_c {x : Int32} (h : (x.toUInt32 % 65536).toInt32 = x) : narrow .char (.int x) = .int x := by
  have h1 := pk_nc x
  rw [h] at h1
  exact h1
theorem v_callR {y : MethodName} {cc2 : ByteArray} {maxL idx n ci b : Nat} {ret2 : Option FieldType} {rc : Room} {C : String} {T : u_T} {N : Nat} {e1 : Option (Option Nat × Mm)} {ts : List Nat} {f0 : Mm → Option (α × Mm)} {f1 : Nat → Mm → Option (α × Mm)} (As rest : List Value) (q : Nat) (hF : FX X G sh nL cc own ret rm) (hd : decode cc pc = .ok (.invokevirtual idx, 3)) (hq : pc + 3 = q) (hcw : CWv own idx C y cc2 maxL ret2 n) (hC : vwCl[ci]? = some (C, T, N)) (hs : sh[b]? = some (.inr (ci, ts))) (hct : CT y cc2 maxL ret2 rc G sh (.ref (G.2.2.2.2 b) :: As) (rvR G) M e1) (hrm : rmok rc rm maxL) (hst : st = As.reverse ++ .ref (G.2.2.2.2 b) :: rest) (hn : As.length = n) (hw : (rest.map fun v => v.category).sum ≤ 8) (k0 : ∀ M2, VR X G sh nL rv M2 q lo (.null :: rest) (f0 M2)) (k1 : ∀ a M2, VR X G sh nL rv M2 q lo (.ref (G.2.2.2.2 a) :: rest) (f1 a M2)) : VR X G sh nL rv M pc lo st (bd e1 (rcase f0 f1)) := v_callX q hF hd hq hcw hC hs hct hrm hst hn hw (fun r2 M2 => match r2 with
  | none => k0 M2
  | some a => k1 a M2)
theorem v_staR {y : MethodName} {cc2 : ByteArray} {maxL idx n : Nat} {ret2 : Option FieldType} {rc : Room} {e1 : Option (Option Nat × Mm)} {f0 : Mm → Option (α × Mm)} {f1 : Nat → Mm → Option (α × Mm)} (As rest : List Value) (q : Nat) (hF : FX X G sh nL cc own ret rm) (hd : decode cc pc = .ok (.invokestatic idx, 3)) (hq : pc + 3 = q) (hcw : CWs own idx y cc2 maxL ret2 n) (hct : CT y cc2 maxL ret2 rc G sh As (rvR G) M e1) (hrm : rmok rc rm maxL) (hst : st = As.reverse ++ rest) (hn : As.length = n) (hw : (rest.map fun v => v.category).sum ≤ 8) (k0 : ∀ M2, VR X G sh nL rv M2 q lo (.null :: rest) (f0 M2)) (k1 : ∀ a M2, VR X G sh nL rv M2 q lo (.ref (G.2.2.2.2 a) :: rest) (f1 a M2)) : VR X G sh nL rv M pc lo st (bd e1 (rcase f0 f1)) := v_callY q hF hd hq hcw hct hrm hst hn hw (fun r2 M2 => match r2 with
  | none => k0 M2
  | some a => k1 a M2)
end VRS
