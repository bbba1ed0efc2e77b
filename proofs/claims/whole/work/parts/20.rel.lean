/-! THE RELATION of the two memories -/
def RelV (T : Nat) (Mx Mr : Mm) : Prop := nx Mx 7 = nm Mr ∧ WF T (nm Mr) ∧ nm Mr 0 6 = 0 ∧ ∃ d, d ≤ 999 ∧ nm Mr 0 1 = nI d
/-- what the reference's image keeps -/
def vmk (M : Mm) : Vs := fun i j => match i with
  | 0 => (match j with
    | 1 => M 0 37 | 2 => M 0 38 | 3 => M 0 39 | 4 => M 0 35 | 5 => M 0 36 | _ => 0)
  | 1 => M 10 (3 * j + 1) | 2 => M 10 (3 * j) | 3 => M 10 (3 * j + 2)
  | 4 => M 11 (5 * j + 1) | 5 => M 11 (5 * j + 2) | 6 => M 11 (5 * j + 3) | 7 => M 11 (5 * j) | 8 => M 11 (5 * j + 4)
  | _ => 0
def nmk (M : Mm) : Vs := nrm (vmk M)
def RelK (T : Nat) (Mx Mr : Mm) : Prop := (Mx 0 5 = 0 ∧ Mr 0 35 = -1) ∨ (Mx 0 5 = 1 ∧ nx Mx 25 = nmk Mr ∧ WF T (nmk Mr) ∧ ∃ d, d ≤ 999 ∧ nmk Mr 0 1 = nI d)
def RelS (Mx Mr : Mm) : Prop := ∀ s, s < 4 → (Mr 12 s = 0 ∧ Mx (36 + 2 * s) 0 = -1) ∨ (Mr 12 s = 1 ∧ (∃ k, k < 3 ∧ Mr 13 s = nI k ∧ Mx (36 + 2 * s) 0 = nI k) ∧ ∃ n, n ≤ 40 ∧ Mr 14 s = nI n ∧ Mx (36 + 2 * s) 1 = nI n ∧ ∀ j, j < n → Mx (37 + 2 * s) j = Mr 15 (40 * s + j))
def RelT (Mx Mr : Mm) : Prop := ∃ n, n ≤ 160 ∧ Mx 5 0 = nI n ∧ Mr 0 6 = nI n ∧ ∀ j, j < n → Mx 6 j = Mr 3 j ∧ ∃ b, b < 256 ∧ Mr 3 j = nI b
/-- the texts: both sides mean tx -/
def TI (Mx Mr : Mm) (T : Nat) (tx : Tx) : Prop := TXx Mx T tx ∧ TXm Mr T tx
def Rest (T : Nat) (tx : Tx) (Mx Mr : Mm) : Prop := TI Mx Mr T tx ∧ RelK T Mx Mr ∧ RelS Mx Mr ∧ RelT Mx Mr
def Rel (Mx Mr : Mm) : Prop := ∃ (T : Nat) (tx : Tx), Rest T tx Mx Mr ∧ RelV T Mx Mr
/-- what may change, and the rest of the relation stays -/
def XK (M M' : Mm) : Prop := (∀ k, k = 0 ∨ k = 2 ∨ k = 3 ∨ k = 5 ∨ k = 6 ∨ (25 ≤ k ∧ k ≠ 34) → M' k = M k) ∧ ∀ j, j = 0 ∨ 6 < j → M' 1 j = M 1 j
def RK (M M' : Mm) : Prop := (∀ k, k = 1 ∨ k = 2 ∨ k = 3 ∨ 10 ≤ k → M' k = M k) ∧ ∀ j, j = 3 ∨ j = 6 ∨ 29 ≤ j → M' 0 j = M 0 j
theorem XK.rf {M : Mm} : XK M M := ⟨fun _ _ => rfl, fun _ _ => rfl⟩
theorem RK.rf {M : Mm} : RK M M := ⟨fun _ _ => rfl, fun _ _ => rfl⟩
theorem XK.tr {M M1 M2 : Mm} (h : XK M M1) (g : XK M1 M2) : XK M M2 := ⟨fun k a => (g.1 k a).trans (h.1 k a), fun j a => (g.2 j a).trans (h.2 j a)⟩
theorem RK.tr {M M1 M2 : Mm} (h : RK M M1) (g : RK M1 M2) : RK M M2 := ⟨fun k a => (g.1 k a).trans (h.1 k a), fun j a => (g.2 j a).trans (h.2 j a)⟩
theorem FV.xk {v : Nat} {M M' : Mm} (h : FV v M M') (hv : v = 7 ∨ v = 16) : XK M M' := ⟨fun k a => h.1 k (by omega) (by omega) (by omega), h.2⟩
theorem Fr.xk {M M' : Mm} (h : Fr M M') : XK M M' := ⟨fun k a => h.1 k (by omega) (by omega), h.2⟩
theorem HV.rk {M M' : Mm} (h : HV M M') : RK M M' := ⟨fun k a => h.1 k (by omega) (by omega), fun j a => h.2 j (by omega) (by omega) (by omega)⟩
theorem KR.rk {M M' : Mm} (h : KR M M') : RK M M' := ⟨fun k a => h.1 k (by omega) (by omega) (by omega), fun j a => h.2.1 j (by omega)⟩
theorem Gr.rk {M M' : Mm} (h : Gr M M') : RK M M' := h.kr.rk
theorem XK.tx {M M' : Mm} {T : Nat} {tx : Tx} (h : TXx M T tx) (hf : XK M M') : TXx M' T tx := by
  obtain ⟨h1, h2, h3⟩ := h
  refine ⟨by rw [hf.2 0 (by omega)]; exact h1, h2, fun N a b c => h3 N ?_ ?_ ?_⟩
  · rw [a, hf.2 0 (by omega)]
  · rw [b, hf.1 2 (by omega)]
  · rw [c, hf.1 3 (by omega)]
theorem RK.tx {M M' : Mm} {T : Nat} {tx : Tx} (h : TXm M T tx) (hf : RK M M') : TXm M' T tx := by
  obtain ⟨h1, h2, h3⟩ := h
  refine ⟨by rw [hf.2 3 (by omega)]; exact h1, h2, fun N a b c => h3 N ?_ ?_ ?_⟩
  · rw [a, hf.2 3 (by omega)]
  · rw [b, hf.1 1 (by omega)]
  · rw [c, hf.1 2 (by omega)]
theorem XK.kx {M M' : Mm} (h : XK M M') : nx M' 25 = nx M 25 := by
  have e : ∀ i j, i ≤ 8 → vx M' 25 i j = vx M 25 i j := by
    intro i j hi
    show M' (25 + i) j = M (25 + i) j
    rw [h.1 (25 + i) (by omega)]
  have eP : vP (vx M' 25) = vP (vx M 25) := by unfold vP; rw [e 0 4 (by omega)]
  have eL : vL (vx M' 25) = vL (vx M 25) := by unfold vL; rw [e 0 5 (by omega)]
  funext i j
  show nrm (vx M' 25) i j = nrm (vx M 25) i j
  unfold nrm
  rw [eP, eL]
  by_cases h8 : i ≤ 8
  · by_cases hi : i = 0
    · subst hi
      rw [if_pos rfl, if_pos rfl, e 0 j (by omega)]
    · rw [if_neg hi, if_neg hi, e i j h8]
  · simp [show ¬ i = 0 by omega, show ¬ i ≤ 3 by omega, h8]
theorem RK.km {M M' : Mm} (h : RK M M') : nmk M' = nmk M := by
  have e : vmk M' = vmk M := by
    funext i j
    unfold vmk
    split
    · split <;> first | rfl | exact h.2 _ (by omega)
    all_goals first | rfl | rw [h.1 10 (by omega)] | rw [h.1 11 (by omega)]
  show nrm (vmk M') = nrm (vmk M)
  rw [e]
theorem Rest.keep {T : Nat} {tx : Tx} {Mx Mr Mx' Mr' : Mm} (h : Rest T tx Mx Mr) (hx : XK Mx Mx') (hr : RK Mr Mr') : Rest T tx Mx' Mr' := by
  obtain ⟨⟨h1, h2⟩, h3, h4, h5⟩ := h
  refine ⟨⟨hx.tx h1, hr.tx h2⟩, ?_, ?_, ?_⟩
  · unfold RelK at h3 ⊢
    rw [hx.1 0 (by omega), hr.2 35 (by omega), hx.kx, hr.km]
    exact h3
  · intro s hs
    have := h4 s hs
    rw [hx.1 (36 + 2 * s) (by omega), hx.1 (37 + 2 * s) (by omega), hr.1 12 (by omega), hr.1 13 (by omega), hr.1 14 (by omega), hr.1 15 (by omega)]
    exact this
  · unfold RelT at h5 ⊢
    rw [hx.1 5 (by omega), hx.1 6 (by omega), hr.1 3 (by omega), hr.2 6 (by omega)]
    exact h5
/-- both answer alike, and go on alike -/
def Ans {α : Type} (ex em : Option (α × Mm)) : Prop := ∃ (r : α) (Mx Mr : Mm), ex = some (r, Mx) ∧ em = some (r, Mr) ∧ Rel Mx Mr
/-- a thought: the village of now is as it was -/
theorem RelV.thought {T : Nat} {Mx Mr Mx' Mr' : Mm} (h : RelV T Mx Mr) (hx : FV 16 Mx Mx') (hr : KR Mr Mr') : RelV T Mx' Mr' := by
  obtain ⟨h1, h2, h3⟩ := h
  have e1 := hx.nxe (u := 7) (by omega) (by omega)
  have e2 := hr.nme h2
  unfold RelV
  rw [e1, e2]
  exact ⟨h1, h2, h3⟩
theorem RelV.scratch {T : Nat} {Mx Mr Mx' Mr' : Mm} (h : RelV T Mx Mr) (hx : Fr Mx Mx') (hr : Gr Mr Mr') : RelV T Mx' Mr' := by
  obtain ⟨h1, h2, h3⟩ := h
  unfold RelV
  rw [hx.nxe (by omega), hr.nme]
  exact ⟨h1, h2, h3⟩
