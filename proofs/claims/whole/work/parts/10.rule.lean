/-! what a rule says: the texts as functions of part and of the six names -/
abbrev Tx : Type := Nat → Nat → Int32 → Int32 → Int32 → Int32 → Int32 → Int32 → Int32
/-- the class's scratch: the names of the texts, the stack -/
def Fr (M M' : Mm) : Prop := (∀ k, k ≠ 1 → k ≠ 4 → M' k = M k) ∧ ∀ j, j = 0 ∨ 6 < j → M' 1 j = M 1 j
theorem Fr.rf {M : Mm} : Fr M M := ⟨fun _ _ _ => rfl, fun _ _ => rfl⟩
theorem Fr.tr {M M1 M2 : Mm} (h : Fr M M1) (g : Fr M1 M2) : Fr M M2 := ⟨fun k a b => (g.1 k a b).trans (h.1 k a b), fun j a => (g.2 j a).trans (h.2 j a)⟩
theorem Fr.up {M : Mm} {j : Nat} {x : Int32} (h : 1 ≤ j ∧ j ≤ 6) : Fr M (up M 1 j x) := ⟨fun k a _ => by funext b; exact up_k a, fun i a => up_j (by omega)⟩
theorem Fr.at {M M' : Mm} {k j : Nat} (h : Fr M M') (hk : 5 ≤ k) : M' k j = M k j := by rw [h.1 k (by omega) (by omega)]
theorem Fr.nxe {M M' : Mm} {v : Nat} (h : Fr M M') (hv : 5 ≤ v) : nx M' v = nx M v := by
  have e : vx M' v = vx M v := by
    funext i j
    exact h.at (by omega)
  show nrm (vx M' v) = nrm (vx M v)
  rw [e]
theorem Fr.cv {M M' : Mm} {v P L : Nat} (h : Fr M M') (hv : 5 ≤ v) (hc : CV M v P L) : CV M' v P L := by
  unfold CV at hc ⊢
  rw [h.at hv, h.at hv]
  exact hc
/-- the reference's scratch -/
def Gr (M M' : Mm) : Prop := (∀ k, k ≠ 0 → M' k = M k) ∧ ∀ j, j < 14 ∨ 28 < j → M' 0 j = M 0 j
theorem Gr.rf {M : Mm} : Gr M M := ⟨fun _ _ => rfl, fun _ _ => rfl⟩
theorem Gr.tr {M M1 M2 : Mm} (h : Gr M M1) (g : Gr M1 M2) : Gr M M2 := ⟨fun k a => (g.1 k a).trans (h.1 k a), fun j a => (g.2 j a).trans (h.2 j a)⟩
theorem Gr.up {M : Mm} {j : Nat} {x : Int32} (h : 14 ≤ j ∧ j ≤ 28) : Gr M (up M 0 j x) := ⟨fun k a => by funext b; exact up_k a, fun i a => up_j (by omega)⟩
theorem Gr.at {M M' : Mm} {k j : Nat} (h : Gr M M') (hk : k ≠ 0) : M' k j = M k j := by rw [h.1 k hk]
theorem Gr.nme {M M' : Mm} (h : Gr M M') : nm M' = nm M := by
  have e : vm M' = vm M := by
    funext i j
    unfold vm
    split
    · split <;> first | rfl | exact h.2 _ (by omega)
    all_goals first | rfl | exact h.at (by decide)
  show nrm (vm M') = nrm (vm M)
  rw [e]
theorem Gr.mv {M M' : Mm} {P L : Nat} (h : Gr M M') (hc : MV M P L) : MV M' P L := by
  unfold MV at hc ⊢
  rw [h.2 10 (by omega), h.2 12 (by omega)]
  exact hc
/-- what a row of codes makes of a stack: a code's name, a joint, a step, a row -/
def nmC (e : Nat → Int32) (c : Int32) : Int32 := if (-1 : Int32) - c = 0 then e 0 else if (-1 : Int32) - c = 1 then e 1 else if (-1 : Int32) - c = 2 then e 2 else if (-1 : Int32) - c = 3 then e 3 else if (-1 : Int32) - c = 4 then e 4 else e 5
def jnC (c l r : Int32) : Int32 := if c = -21 then (if r = 0 then 1 else 0) else if c = -20 then -r else if c = -19 then -r else if c = -18 then -r else if c = -17 then l * r else if c = -16 then l - r else if c = -15 then l + r else if c = -14 then (if l = r then 1 else 0) else if c = -13 then (if r ≤ l then 0 else 1) else if c = -12 then (if l = 0 then 0 else if r = 0 then 0 else 1) else if c = -11 then (if l = 0 then (if r = 0 then 0 else 1) else 1) else -r
def stC (e : Nat → Int32) (c : Int32) (st : List Int32) : Option (List Int32) :=
  if 64 ≤ st.length then none
  else if c ≤ -11 then (if c ≤ -21 then (match st with
    | r :: t => some (jnC c 0 r :: t)
    | _ => none) else (match st with
    | r :: l :: t => some (jnC c l r :: t)
    | _ => none))
  else some ((if c < 0 then nmC e c else c) :: st)
def rnC (e : Nat → Int32) : List Int32 → List Int32 → Option (List Int32)
  | [], st => some st
  | c :: cs, st => match stC e c st with
    | some t => rnC e cs t
    | none => none
def sgC (g : Nat → Int32) (lo hi : Nat) : List Int32 := (List.range' lo (hi - lo)).map g
def en6 (a1 a2 a3 a4 a5 a6 : Int32) : Nat → Int32 := fun k => match k with
  | 0 => a1
  | 1 => a2
  | 2 => a3
  | 3 => a4
  | 4 => a5
  | _ => a6
/-- how the class's texts stand; the reference's: each has been read by the class once -/
def STX (M : Mm) (T : Nat) (tx : Tx) : Prop := ∃ b : Nat → Nat, (∀ j, j ≤ 3 * T → M 3 j = nI (b j)) ∧ (∀ j, j < 3 * T → b j ≤ b (j + 1)) ∧ b (3 * T) ≤ 160 * T ∧ ∀ t part, t < T → part < 3 → ∀ a1 a2 a3 a4 a5 a6 : Int32, rnC (en6 a1 a2 a3 a4 a5 a6) (sgC (M 2) (b (3 * t + part)) (b (3 * t + part + 1))) [] = some [tx t part a1 a2 a3 a4 a5 a6]
def STM (M : Mm) (T : Nat) (tx : Tx) : Prop := ∀ t, t < T → ∃ (N N' : Mm) (n T0 : Nat) (b : Nat → Nat), n ≤ 160 ∧ M 2 t = nI n ∧ N 5 0 = nI n ∧ (∀ j, j < n → M 1 (160 * t + j) = N 6 j ∧ ∃ c, c < 256 ∧ N 6 j = nI c) ∧ T0 < 6 ∧ N 1 0 = nI T0 ∧ (∃ e, e ≤ 160 * T0 ∧ N 3 (3 * T0) = nI e) ∧ m_X1_read N = some (-1, N') ∧ (∀ p, p ≤ 3 → N' 3 (3 * T0 + p) = nI (b p)) ∧ (∀ p, p ≤ 3 → b p ≤ 960) ∧ ∀ p, p < 3 → b p ≤ b (p + 1) ∧ ∀ a1 a2 a3 a4 a5 a6 : Int32, rnC (en6 a1 a2 a3 a4 a5 a6) (sgC (N' 2) (b p) (b (p + 1))) [] = some [tx t p a1 a2 a3 a4 a5 a6]
/-- the class's texts mean tx; the reference's -/
def TXx (M : Mm) (T : Nat) (tx : Tx) : Prop := M 1 0 = nI T ∧ T ≤ 6 ∧ ∀ M' : Mm, M' 1 0 = M 1 0 → M' 2 = M 2 → M' 3 = M 3 → STX M' T tx ∧ ∀ t part, t < T → part < 3 → ∃ M2, m_X2_value (nI t) (nI part) M' = some (tx t part (M' 1 1) (M' 1 2) (M' 1 3) (M' 1 4) (M' 1 5) (M' 1 6), M2) ∧ ∀ k, k ≠ 4 → M2 k = M' k
def TXm (M : Mm) (T : Nat) (tx : Tx) : Prop := M 0 3 = nI T ∧ T ≤ 6 ∧ ∀ M' : Mm, M' 0 3 = M 0 3 → M' 1 = M 1 → M' 2 = M 2 → STM M' T tx ∧ ∀ t part, t < T → part < 3 → ∃ M2, m_X5_read (nI t) (nI part) M' = some (tx t part (M' 0 14) (M' 0 15) (M' 0 16) (M' 0 17) (M' 0 18) (M' 0 19), M2) ∧ Gr M' M2 ∧ ∀ j, j < 20 → M2 0 j = M' 0 j
theorem TXx.fr {M M' : Mm} {T : Nat} {tx : Tx} (h : TXx M T tx) (hf : Fr M M') : TXx M' T tx := by
  obtain ⟨h1, h2, h3⟩ := h
  refine ⟨by rw [hf.2 0 (by omega)]; exact h1, h2, fun N a b c => h3 N ?_ ?_ ?_⟩
  · rw [a, hf.2 0 (by omega)]
  · rw [b, hf.1 2 (by decide) (by decide)]
  · rw [c, hf.1 3 (by decide) (by decide)]
theorem TXm.gr {M M' : Mm} {T : Nat} {tx : Tx} (h : TXm M T tx) (hf : Gr M M') : TXm M' T tx := by
  obtain ⟨h1, h2, h3⟩ := h
  refine ⟨by rw [hf.2 3 (by omega)]; exact h1, h2, fun N a b c => h3 N ?_ ?_ ?_⟩
  · rw [a, hf.2 3 (by omega)]
  · rw [b, hf.1 1 (by decide)]
  · rw [c, hf.1 2 (by decide)]
def bndS (lo v : Int32) : Int32 := mmax lo (mmin 99 v)
def vR (s : Vs) : Nat := (s 0 3).toNatClampNeg
def loS (part : Nat) : Int32 := if part = 2 then 0 else -99
/-- of one and a letter; of one alone -/
def rulL (tx : Tx) (s : Vs) (part p l : Nat) : Int32 := bndS (loS part) (tx (vR s) part (s 7 l) (s 3 p) (s 2 p) (s 0 1) (pcS (s 8 l)) (if s 4 l = nI p then 1 else 0))
def rulN (tx : Tx) (s : Vs) (part p : Nat) : Int32 := bndS (loS part) (tx (vR s) part 0 (s 3 p) (s 2 p) (s 0 1) 0 0)
theorem x3_bnd {M : Mm} {x lo : Int32} : m_X3_bounded x lo M = some (bndS lo x, M) := rfl
theorem x5_wi {M : Mm} {x lo : Int32} (h : lo ≤ 99) : m_X5_within x lo 99 M = some (bndS lo x, M) := by
  unfold m_X5_within bndS mmax mmin
  simp only [Int32.le_iff_toInt_le, Int32.lt_iff_toInt_lt] at *
  by_cases h1 : lo.toInt ≤ x.toInt
  · rw [if_pos h1]
    by_cases h2 : x.toInt ≤ (99 : Int32).toInt
    · rw [if_pos h2]
      by_cases h3 : x.toInt < (99 : Int32).toInt
      · simp only [if_pos h3]
        by_cases h4 : lo.toInt < x.toInt
        · rw [if_pos h4]
        · rw [if_neg h4, show x = lo from Int32.toInt_inj.mp (by omega)]
      · simp only [if_neg h3]
        have e : x = 99 := Int32.toInt_inj.mp (by omega)
        subst e
        by_cases h4 : lo.toInt < (99 : Int32).toInt
        · rw [if_pos h4]
        · rw [if_neg h4, show lo = 99 from Int32.toInt_inj.mp (by omega)]
    · rw [if_neg h2, if_neg (show ¬ x.toInt < (99 : Int32).toInt by omega)]
      by_cases h4 : lo.toInt < (99 : Int32).toInt
      · rw [if_pos h4]
      · rw [if_neg h4, show lo = 99 from Int32.toInt_inj.mp (by omega)]
  · rw [if_neg h1, if_pos (show x.toInt < (99 : Int32).toInt by omega), if_neg (show ¬ lo.toInt < x.toInt by omega)]
theorem nI_2 {part : Nat} (h : part < 3) : (nI part = (2 : Int32)) ↔ part = 2 := by
  have := nI_eq (a := part) (b := 2) (by omega) (by omega)
  exact this
theorem x3_ruled_end {M : Mm} {v T part t : Nat} {tx : Tx} {z : Int32} (hx : TXx M T tx) (hv : 5 ≤ v) (hp : part < 3) (hr : M v 3 = nI t) (ht : t < T) : ∃ M', m_X3_ruled_J89 v (nI part) z M = some (bndS (loS part) (tx t part (M 1 1) (M 1 2) (M 1 3) (M 1 4) (M 1 5) z), M') ∧ Fr M M' := by
  obtain ⟨M2, e, f⟩ := (hx.2.2 (up M 1 6 z) (up_j (by decide)) (by funext b; exact up_k (by decide)) (by funext b; exact up_k (by decide))).2 t part ht hp
  refine ⟨M2, ?_, ⟨fun k a b => by rw [f k b]; funext c; exact up_k a, fun j a => by rw [f 1 (by decide)]; exact up_j (by omega)⟩⟩
  unfold m_X3_ruled_J89
  simp only [lt1]
  rw [up_k (show v ≠ 1 by omega), hr, e, bd_s]
  rw [up_j (show (1 : Nat) ≠ 6 by decide), up_j (show (2 : Nat) ≠ 6 by decide), up_j (show (3 : Nat) ≠ 6 by decide), up_j (show (4 : Nat) ≠ 6 by decide), up_j (show (5 : Nat) ≠ 6 by decide), up_s]
  unfold loS
  by_cases h2 : part = 2
  · rw [if_pos ((nI_2 hp).mpr h2), if_pos h2]; rfl
  · rw [if_neg (fun q => h2 ((nI_2 hp).mp q)), if_neg h2]; rfl
theorem x3_ruled_L {M : Mm} {v P L T part p l : Nat} {tx : Tx} (hx : TXx M T tx) (hv : 5 ≤ v) (hc : CV M v P L) (hp : part < 3) (hr : ∃ t, M v 3 = nI t ∧ t < T) (h1 : p < P) (h2 : l < L) : ∃ M', m_X3_ruled v (nI part) (nI p) (nI l) M = some (rulL tx (nx M v) part p l, M') ∧ Fr M M' := by
  obtain ⟨t, hr, ht⟩ := hr
  have h8 := hc.2.2.2
  have f1 : Fr M (up M 1 1 (M (v + 7) l)) := Fr.up (by omega)
  generalize hM1 : up M 1 1 (M (v + 7) l) = M1 at f1
  have f2 : Fr M1 (up M1 1 2 (M (v + 3) p)) := Fr.up (by omega)
  generalize hM2 : up M1 1 2 (M (v + 3) p) = M2 at f2
  have f3 : Fr M2 (up M2 1 3 (M (v + 2) p)) := Fr.up (by omega)
  generalize hM3 : up M2 1 3 (M (v + 2) p) = M3 at f3
  have f4 : Fr M3 (up M3 1 4 (M v 1)) := Fr.up (by omega)
  generalize hM4 : up M3 1 4 (M v 1) = M4 at f4
  have f5 : Fr M4 (up M4 1 5 (pcS (M (v + 8) l))) := Fr.up (by omega)
  generalize hM5 : up M4 1 5 (pcS (M (v + 8) l)) = M5 at f5
  have g2 := f1.tr f2
  have g3 := g2.tr f3
  have g4 := g3.tr f4
  have g5 := g4.tr f5
  have a1 : M5 1 1 = M (v + 7) l := by rw [← hM5, up_j (by decide), ← hM4, up_j (by decide), ← hM3, up_j (by decide), ← hM2, up_j (by decide), ← hM1, up_s]
  have a2 : M5 1 2 = M (v + 3) p := by rw [← hM5, up_j (by decide), ← hM4, up_j (by decide), ← hM3, up_j (by decide), ← hM2, up_s]
  have a3 : M5 1 3 = M (v + 2) p := by rw [← hM5, up_j (by decide), ← hM4, up_j (by decide), ← hM3, up_s]
  have a4 : M5 1 4 = M v 1 := by rw [← hM5, up_j (by decide), ← hM4, up_s]
  have a5 : M5 1 5 = pcS (M (v + 8) l) := by rw [← hM5, up_s]
  have b1 := x3_of_let hc h2
  have b2 := x3_of_one (f1.cv hv hc) h1
  have b3 := x3_of_one (g2.cv hv hc) h1
  have b5 := x3_of_let (g4.cv hv hc) h2
  have b6 := x3_let_in (g5.cv hv hc) h2
  have e3 : (nI l).toNatClampNeg = l := nI_clamp (by omega)
  have key : ∀ z, ∃ M', m_X3_ruled_J89 v (nI part) z M5 = some (bndS (loS part) (tx t part (M (v + 7) l) (M (v + 3) p) (M (v + 2) p) (M v 1) (pcS (M (v + 8) l)) z), M') ∧ Fr M M' := by
    intro z
    obtain ⟨M', e, f⟩ := x3_ruled_end (z := z) (hx.fr g5) hv hp (by rw [g5.at hv]; exact hr) ht
    rw [a1, a2, a3, a4, a5] at e
    exact ⟨M', e, g5.tr f⟩
  have hR : vR (nx M v) = t := by unfold vR; rw [nx_0 (by omega), hr, nI_clamp (by have := hx.2.1; omega)]
  have spec : rulL tx (nx M v) part p l = bndS (loS part) (tx t part (M (v + 7) l) (M (v + 3) p) (M (v + 2) p) (M v 1) (pcS (M (v + 8) l)) (if M (v + 4) l = nI p then 1 else 0)) := by
    unfold rulL
    rw [hR, hc.q (by omega) (by omega) h2, hc.r (by omega) (by omega) h1, hc.r (by omega) (by omega) h1, nx_0 (by omega), hc.q (by omega) (by omega) h2, hc.q (by omega) (by omega) h2]
  have body : m_X3_ruled v (nI part) (nI p) (nI l) M = (if M (v + 4) l = nI p then m_X3_ruled_J89 v (nI part) 1 M5 else m_X3_ruled_J89 v (nI part) 0 M5) := by
    unfold m_X3_ruled m_X3_ruled_J88
    simp only [b1.2.2.2.1, bd_s, lt1, hM1, b2.2.2, f1.at (show 5 ≤ v + 3 by omega), hM2, b3.2.1, g2.at (show 5 ≤ v + 2 by omega), hM3, g3.at hv, hM4, b5.2.2.2.2, g4.at (show 5 ≤ v + 8 by omega), j6_pc, hM5, b6, if_neg one_ne0, inr_n (show l < 8 by omega) (by omega), gd_t, e3, g5.at (show 5 ≤ v + 4 by omega)]
  rw [body, spec]
  split
  · exact key 1
  · exact key 0
