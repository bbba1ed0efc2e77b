/-! more rows of the making -/
section IW2
variable {X : Cx} {G : Gx} {A : Nat → Prop} {Q : State → Prop} {nL : Nat} {ws : va_W} {cells slots pc : Nat} {lo : List (Nat × Value)} {st : List Value} {cc : ByteArray} {own : String} {rm : Room}
theorem i_ldcS {idx : Nat} (i : Nat) (q : Nat) (hF : FI X G A nL cc own rm) (hX : XTA G A X.2.2.2.2.1 X.2.2.2.2.1.heap) (hd : decode cc pc = .ok (.ldc idx, 2)) (hq : pc + 2 = q) (hi : i < 13) (ho : (sRef i).1 = own) (hix : (sRef i).2.1 = idx) (k : IW X G A Q nL ws cells slots q lo (.ref (G.2.2.2.2 (1000 + i)) :: st)) : IW X G A Q nL ws cells slots pc lo st := by
  obtain ⟨p, l, en, R, s, m, args, below, meth, c⟩ := X
  subst hq
  intro H locs ls hP hD hS hl
  obtain ⟨hx, hb, hown, hts, hK, hml, hR, hA⟩ := hF
  have hz := hX.2.1 i hi
  rw [ho, hix] at hz
  exact va_ldcS hx hb hown hz hd (k H locs ls hP hD hS hl)
theorem i_alenQ {a n : Nat} {f : Nat → Option Nat} (v : Int32) (q0 q : Nat) (hF : FI X G A nL cc own rm) (hd : decode cc pc = .ok (.arraylength, 1)) (hq : pc + 1 = q) (he : ws[q0]? = some (a, .inl (G.2.2.2.1, n, .inr (.inr (.inr (.inr f)))))) (hv : Int32.ofNat n = v) (k : IW X G A Q nL ws cells slots q lo (.int v :: st)) : IW X G A Q nL ws cells slots pc lo (.ref a :: st) := by
  obtain ⟨p, l, en, R, s, m, args, below, meth, c⟩ := X
  subst hq
  intro H locs ls hP hD hS hl
  obtain ⟨hx, hb, hown, hts, hK, hml, hR, hA⟩ := hF
  exact va_alen hx hb hK hP q0 2 he rfl hv hd (k H locs ls hP hD hS hl)
theorem i_astq {a n v j : Nat} {i : Int32} {f : Nat → Option Nat} {vs : List Value} {ws' : va_W} (q0 qk q : Nat) (hF : FI X G A nL cc own rm) (hd : decode cc pc = .ok (.aastore, 1)) (hq : pc + 1 = q) (he : ws[q0]? = some (a, .inl (G.2.2.2.1, n, .inr (.inr (.inr (.inr f)))))) (hv : ws[qk]? = some (v, .inr (0, vs))) (hi : i = nI j) (hj : j < n) (hn : n < 1000) (hws : ws.set q0 (a, .inl (G.2.2.2.1, n, .inr (.inr (.inr (.inr (va_up f j (some v))))))) = ws') (k : IW X G A Q nL ws' cells slots q lo st) : IW X G A Q nL ws cells slots pc lo (.ref v :: .int i :: .ref a :: st) := by
  obtain ⟨p, l, en, R, s, m, args, below, meth, c⟩ := X
  subst hq hws hi
  intro H locs ls hP hD hS hl
  obtain ⟨hx, hb, hown, hts, hK, hml, hR, hA⟩ := hF
  refine va_astq (r := (RX0, TX0, 3)) hx hb hK hP hD hS q0 2 qk 0 he rfl hv rfl (vp_in_nI hj (by omega)) hd (fun H1 locs1 hP1 hD1 hS1 => ?_)
  rw [nI_clamp (by omega)] at hP1 hD1
  exact k H1 locs1 ls hP1 hD1 hS1 hl
theorem i_iast {a n j : Nat} {i x : Int32} {f : Nat → Int32} {ws' : va_W} (q0 q : Nat) (hF : FI X G A nL cc own rm) (hd : decode cc pc = .ok (.iastore, 1)) (hq : pc + 1 = q) (he : ws[q0]? = some (a, .inl (G.2.1, n, .inl f))) (hi : i = nI j) (hj : j < n) (hn : n < 1000) (hws : ws.set q0 (a, .inl (G.2.1, n, .inl (upd f j x))) = ws') (k : IW X G A Q nL ws' cells slots q lo st) : IW X G A Q nL ws cells slots pc lo (.int x :: .int i :: .ref a :: st) := by
  obtain ⟨p, l, en, R, s, m, args, below, meth, c⟩ := X
  subst hq hws hi
  intro H locs ls hP hD hS hl
  obtain ⟨hx, hb, hown, hts, hK, hml, hR, hA⟩ := hF
  refine va_iast hx hb hK hP hD hS q0 0 he rfl (vp_in_nI hj (by omega)) hd (fun H1 locs1 hP1 hD1 hS1 => ?_)
  rw [nI_clamp (by omega)] at hP1 hD1
  exact k H1 locs1 ls hP1 hD1 hS1 hl
/-- the row of sheets: what lies behind its end does not count -/
theorem IW_refs {a n : Nat} {f g : Nat → Option Nat} {w1 w2 : va_W} (h : ∀ i, i < n → f i = g i) (k : IW X G A Q nL (w1 ++ (a, .inl (G.2.2.2.1, n, .inr (.inr (.inr (.inr g))))) :: w2) cells slots pc lo st) : IW X G A Q nL (w1 ++ (a, .inl (G.2.2.2.1, n, .inr (.inr (.inr (.inr f))))) :: w2) cells slots pc lo st := by
  have e : vp_cell G.2.2.2.1 (n, .inr (.inr (.inr (.inr f)))) = vp_cell G.2.2.2.1 (n, .inr (.inr (.inr (.inr g)))) := by
    show arrV _ n (fun j => va_rf (f j)) = arrV _ n (fun j => va_rf (g j))
    unfold arrV
    have : (Array.ofFn (n := n) fun j => va_rf (f j.val)) = (Array.ofFn (n := n) fun j => va_rf (g j.val)) := congrArg (Array.ofFn (n := n)) (funext fun j => congrArg va_rf (h j.val j.isLt))
    rw [this]
  obtain ⟨p, l, en, R, s, m, args, below, meth, c⟩ := X
  intro H locs ls hP hD hS hl
  refine k H locs ls (fun i x hx => ?_) (va_D_fst (fun i => ?_) hD) hS hl
  · by_cases hi : i = w1.length
    · subst hi
      have h1 : (w1 ++ (a, .inl (G.2.2.2.1, n, .inr (.inr (.inr (.inr g))))) :: w2)[w1.length]? = some (a, (.inl (G.2.2.2.1, n, .inr (.inr (.inr (.inr g)))) : va_E)) := by simp
      rw [h1] at hx
      obtain rfl := Option.some.inj hx
      have h2 := hP w1.length (a, .inl (G.2.2.2.1, n, .inr (.inr (.inr (.inr f))))) (by simp)
      show H[a]? = some (vp_cell G.2.2.2.1 (n, .inr (.inr (.inr (.inr g)))))
      rw [← e]
      exact h2
    · refine hP i x ?_
      rw [← hx]
      by_cases h1 : i < w1.length
      · rw [List.getElem?_append_left h1, List.getElem?_append_left h1]
      · obtain ⟨z, rfl⟩ : ∃ z, i = w1.length + (z + 1) := ⟨i - w1.length - 1, by omega⟩
        rw [List.getElem?_append_right (by omega), List.getElem?_append_right (by omega), show w1.length + (z + 1) - w1.length = z + 1 by omega]
        rfl
  · by_cases h1 : i < w1.length
    · rw [List.getElem?_append_left h1, List.getElem?_append_left h1]
    · obtain ⟨z, rfl⟩ : ∃ z, i = w1.length + z := ⟨i - w1.length, by omega⟩
      rw [List.getElem?_append_right (by omega), List.getElem?_append_right (by omega), show w1.length + z - w1.length = z by omega]
      cases z <;> rfl
end IW2
/-! the worlds of both -/
def shX : List Sh := [.inr (4, [3, 7, 9, 18, 27, 0, 37, 36]), .inr (2, [0, 0, 0, 0, 0, 0, 0, 4, 5, 0, 6]), .inl (0, 960), .inl (0, 19), .inl (0, 64), .inr (1, [0, 3, 8, 0, 0, 0, 0, 0]), .inl (0, 160), .inr (3, [3, 0, 0, 0, 0, 0, 0, 10, 11, 12, 13, 14, 15, 16, 17]), .inl (0, 5), .inl (0, 5), .inl (0, 5), .inl (0, 8), .inl (0, 8), .inl (0, 8), .inl (0, 8), .inl (0, 8), .inr (3, [3, 0, 0, 0, 0, 0, 0, 19, 20, 21, 22, 23, 24, 25, 26]), .inl (0, 5), .inl (0, 5), .inl (0, 5), .inl (0, 8), .inl (0, 8), .inl (0, 8), .inl (0, 8), .inl (0, 8), .inr (3, [3, 0, 0, 0, 0, 0, 0, 28, 29, 30, 31, 32, 33, 34, 35]), .inl (0, 5), .inl (0, 5), .inl (0, 5), .inl (0, 8), .inl (0, 8), .inl (0, 8), .inl (0, 8), .inl (0, 8), .inl (0, 5), .inl (38, 4), .inr (0, [0, 0, 39]), .inl (0, 40), .inr (0, [0, 0, 41]), .inl (0, 40), .inr (0, [0, 0, 43]), .inl (0, 40), .inr (0, [0, 0, 45]), .inl (0, 40)]
def sh7 : List Sh := [.inr (4, [3, 7, 2, 2, 2, 0, 2, 2]), .inr (2, [0, 0, 0, 0, 0, 0, 0, 4, 5, 0, 6]), .inl (0, 960), .inl (0, 19), .inl (0, 64), .inr (1, [0, 3, 8, 0, 0, 0, 0, 0]), .inl (0, 160)]
def shM : List Sh := [.inr (5, [0, 3, 4, 0, 0, 5, 0, 0, 0, 6, 0, 7, 0, 0, 0, 0, 0, 0, 0, 0, 0, 0, 0, 0, 0, 1, 0, 0, 0, 8, 9, 10, 11, 12, 13, 0, 0, 0, 0, 0, 14, 15, 16, 17]), .inl (0, 960), .inl (0, 6), .inl (0, 160), .inl (0, 15), .inl (0, 40), .inl (0, 42), .inl (0, 5), .inl (0, 5), .inl (0, 15), .inl (0, 15), .inl (0, 40), .inl (1, 4), .inl (0, 4), .inl (0, 4), .inl (0, 160)]
theorem tex7 : TexAt sh7 := ⟨rfl, rfl, rfl, rfl⟩
theorem tap7 : TapAt sh7 := ⟨rfl, rfl⟩
theorem top_X : TopAt shX := ⟨rfl, ⟨rfl, rfl, rfl, rfl⟩, ⟨rfl, rfl⟩, ⟨rfl, rfl, rfl, rfl, rfl, rfl, rfl, rfl, rfl⟩, ⟨rfl, rfl, rfl, rfl, rfl, rfl, rfl, rfl, rfl⟩, ⟨rfl, rfl, rfl, rfl, rfl, rfl, rfl, rfl, rfl⟩, rfl, rfl, ⟨rfl, rfl⟩, ⟨rfl, rfl⟩, ⟨rfl, rfl⟩, rfl, rfl⟩
theorem mod_M : ModAt shM := ⟨rfl, rfl, rfl, rfl, rfl, rfl, rfl, rfl, rfl, rfl, rfl, rfl, rfl, rfl, rfl, rfl⟩
/-- the class's addresses u of the first n cells; the texts' as they were -/
def Gu (G : Gx) (n : Nat) (u : Nat → Nat) : Gx := (G.1, G.2.1, G.2.2.1, G.2.2.2.1, fun k => if k < n then u k else G.2.2.2.2 k)
theorem Gu_G {G : Gx} {n : Nat} {u : Nat → Nat} (hn : n ≤ 1000) : (Gu G n u).1 = G.1 ∧ tys3 (Gu G n u) = tys3 G ∧ ∀ k, 1000 ≤ k → (Gu G n u).2.2.2.2 k = G.2.2.2.2 k := ⟨rfl, rfl, fun _ _ => if_neg (by omega)⟩
/-! the first memories -/
def getM {β : Type} (e : Option (β × Mm)) : Mm := match e with
  | some x => x.2
  | none => Z0
theorem getM_u {e : Option (Unit × Mm)} (h : e.isSome = true) : e = some ((), getM e) := by
  cases e with
  | none => cases h
  | some x => rfl
def mA0 : Mm := getM (m_X1_addAll 1012 Z0)
theorem mA0_ok : m_X1_addAll 1012 Z0 = some ((), mA0) := getM_u (by decide +kernel)
def mR0 : Mm := getM (m_X1_read mA0)
theorem mR0_ck : chkR (m_X1_read mA0) = true := by decide +kernel
theorem chkR_is {e : Option (Int32 × Mm)} (h : chkR e = true) : e = some (-1, getM e) ∧ getM e 1 0 = 1 ∧ getM e 3 0 = 0 ∧ getM e 3 1 = 1 ∧ getM e 3 2 = 2 ∧ getM e 3 3 = 3 ∧ getM e 2 0 = 1 ∧ getM e 2 1 = 5 ∧ getM e 2 2 = 40 ∧ getM e 5 0 = 0 := by
  cases e with
  | none => cases h
  | some x =>
    obtain ⟨r, M⟩ := x
    unfold chkR at h
    simp only [Bool.and_eq_true, decide_eq_true_eq] at h
    obtain ⟨h1, h2⟩ := h
    subst h1
    exact ⟨rfl, h2⟩
theorem mR0_ok : m_X1_read mA0 = some (-1, mR0) := (chkR_is mR0_ck).1
/-- the class's first memory -/
def MXo (R : Mm) : Mm := fun k j => if k ≤ 6 then R k j else if k = 7 ∨ k = 16 ∨ k = 25 then (if j = 2 then 1 else 0) else if k = 36 ∨ k = 38 ∨ k = 40 ∨ k = 42 then (if j = 0 then -1 else 0) else 0
def MX0 : Mm := MXo mR0
/-- the reference's -/
def MM00 : Mm := fun k j => if k = 0 then (if j = 8 then 1 else if j = 35 then -1 else 0) else 0
def mS1 : Mm := getM (m_X5_spell 0 99 97 114 114 105 101 115 32 MM00)
def mS2 : Mm := getM (m_X5_spell 8 49 32 59 32 115 111 102 116 mS1)
def mS3 : Mm := getM (m_X5_spell 16 101 110 115 32 53 32 59 32 mS2)
def mS4 : Mm := getM (m_X5_spell 24 119 114 105 116 101 115 32 52 mS3)
def mS5 : Mm := getM (m_X5_spell 32 48 32 59 32 32 32 32 32 mS4)
theorem mS1_ok : m_X5_spell 0 99 97 114 114 105 101 115 32 MM00 = some ((), mS1) := getM_u (by decide +kernel)
theorem mS2_ok : m_X5_spell 8 49 32 59 32 115 111 102 116 mS1 = some ((), mS2) := getM_u (by decide +kernel)
theorem mS3_ok : m_X5_spell 16 101 110 115 32 53 32 59 32 mS2 = some ((), mS3) := getM_u (by decide +kernel)
theorem mS4_ok : m_X5_spell 24 119 114 105 116 101 115 32 52 mS3 = some ((), mS4) := getM_u (by decide +kernel)
theorem mS5_ok : m_X5_spell 32 48 32 59 32 32 32 32 32 mS4 = some ((), mS5) := getM_u (by decide +kernel)
def MM0 : Mm := up (up mS5 2 0 40) 0 3 1
/-- a world cell by cell -/
def mapF {α β : Type} (f : Nat → α → β) : Nat → List α → List β
  | _, [] => []
  | k, c :: t => f k c :: mapF f (k + 1) t
theorem mapF_at {α β : Type} (f : Nat → α → β) : ∀ (t : List α) (k i : Nat), (mapF f k t)[i]? = t[i]?.map (fun c => f (k + i) c)
  | [], k, i => by simp [mapF]
  | c :: t, k, 0 => rfl
  | c :: t, k, i + 1 => by
    have h := mapF_at f t (k + 1) i
    simp only [mapF, List.getElem?_cons_succ, h]
    rw [show k + 1 + i = k + (i + 1) by omega]
theorem mapF_eq {α β : Type} {f : Nat → α → β} {l : List α} : l.mapIdx f = mapF f 0 l := by
  apply List.ext_getElem?
  intro i
  rw [mapF_at]
  simp only [List.getElem?_mapIdx, Nat.zero_add]
def cclF (G : Gx) (M : Mm) (k : Nat) (c : Sh) : va_E := match c with
  | .inl x => ccl G M k (.inl x)
  | .inr (ci, ts) => .inr (ci, mapF (fun j t => cfv G M k j t) 0 ts)
theorem ccl_F {G : Gx} {M : Mm} {k : Nat} {c : Sh} : ccl G M k c = cclF G M k c := by
  rcases c with x | ⟨ci, ts⟩
  · rfl
  · show (Sum.inr (ci, _) : va_E) = Sum.inr (ci, _)
    rw [mapF_eq]
def wlF (G : Gx) (M : Mm) (sh : List Sh) : va_W := mapF (fun k c => (G.2.2.2.2 k, cclF G M k c)) 0 sh
theorem wl_F {sh : List Sh} {G : Gx} {M : Mm} : wl sh G M = wlF G M sh := by
  unfold wlF
  rw [← mapF_eq]
  unfold wl
  congr 1
  funext k c
  rw [ccl_F]
theorem wl_of {sh : List Sh} {G : Gx} {M : Mm} {ws : va_W} (h : ws = wlF G M sh) : ws = [] ++ (wl sh G M ++ []) := h.trans (wl_F.symm.trans (List.append_nil _).symm)
theorem wl_objM {sh : List Sh} {G : Gx} {M : Mm} {ci : Nat} {ts : List Nat} (k : Nat) (h : sh[k]? = some (.inr (ci, ts))) : (wl sh G M)[k]? = some (G.2.2.2.2 k, .inr (ci, ts.mapIdx (fun j t => cfv G M k j t))) := wl_get h
theorem wl_obj {sh : List Sh} {G : Gx} {M : Mm} {ci : Nat} {ts : List Nat} (k : Nat) (h : sh[k]? = some (.inr (ci, ts))) : (wl sh G M)[k]? = some (G.2.2.2.2 k, .inr (ci, mapF (fun j t => cfv G M k j t) 0 ts)) := by rw [wl_objM k h, mapF_eq]
theorem mapIdx_lt {α β : Type} {f : Nat → α → β} {l : List α} {j : Nat} (h : j < l.length) : j < (l.mapIdx f).length := by
  rw [List.length_mapIdx]
  exact h
theorem wl_arr {sh : List Sh} {G : Gx} {M : Mm} {n : Nat} (k : Nat) (h : sh[k]? = some (.inl (0, n))) : (wl sh G M)[k]? = some (G.2.2.2.2 k, .inl (G.2.1, n, .inl (M k))) := wl_get h
theorem wl_ofE {sh : List Sh} {G : Gx} {M : Mm} {ws : va_W} (h : ws = wlF G M sh) : ws = wl sh G M := h.trans wl_F.symm
