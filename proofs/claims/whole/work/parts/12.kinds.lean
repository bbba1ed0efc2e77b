/-! who carries, softens, writes: by kind -/
def carS (tx : Tx) (s : Vs) (p l : Nat) : Bool :=
  let yes := !(decide (rulL tx s 0 p l = 0))
  let asW := yes || !(decide (s 7 l < 50))
  let asB := yes && !(decide (s 4 l = nI p))
  decide ((shr (s 0 6) (nI p)) &&& 1 = 0) && (if s 1 p = 1 then asW else if s 1 p = 2 then asB else if s 1 p = 3 then asW && !(decide (irm (s 0 1) 7 = s 2 p)) else if s 1 p = 4 then asB && !(decide (4 < s 2 p)) else if s 1 p = 5 then true else yes)
def sofS (tx : Tx) (s : Vs) (p l : Nat) : Int32 :=
  let v := rulL tx s 1 p l
  if s 1 p = 1 then 2 * v else if s 1 p = 2 then v + s 2 p else if s 1 p = 3 then (if s 7 l ≤ 20 then 0 else 2 * v) else if s 1 p = 4 then -(v + s 2 p) else if s 1 p = 5 then 0 else v
def wriS (tx : Tx) (s : Vs) (p : Nat) : Int32 :=
  let v := rulN tx s 2 p
  if s 1 p = 1 then v / 2 else if s 1 p = 2 then 99 - v else if s 1 p = 3 then v / 2 else if s 1 p = 4 then 99 - v else if s 1 p = 5 then 10 * s 2 p else v
theorem dec2 : (!(decide ((2 : Int32) = 0))) = true := by decide
theorem dec7 : (!(decide ((7 : Int32) = 0))) = true := by decide
theorem dec8 : (!(decide ((8 : Int32) = 0))) = true := by decide
theorem zt : z01 1 = true := by decide
theorem zf : z01 0 = true := by decide
/-- the class's choice by kind, whatever yes, as a widow, as a baker are -/
theorem x3_car_end {M : Mm} {v p : Nat} (h5 : p < 5) (yes asW asB : Bool) : m_X3_carries_J86 v (nI p) (b2i yes) (b2i asW) (b2i asB) M = some (b2i (if M (v + 1) p = 1 then asW else if M (v + 1) p = 2 then asB else if M (v + 1) p = 3 then asW && !(decide (irm (M v 1) 7 = M (v + 2) p)) else if M (v + 1) p = 4 then asB && !(decide (4 < M (v + 2) p)) else if M (v + 1) p = 5 then true else yes), M) := by
  unfold m_X3_carries_J86
  rw [lt1_d, inr_n (show p < 5 by omega) (by omega), gd_t, nI_clamp (show p < 2 ^ 31 by omega), z01_b, z01_b, z01_b, gd_t, gd_t, gd_t, dec7, gd_t, gd_t, gd_t]
  split
  · rfl
  split
  · rfl
  split
  · cases asW with
    | false => rw [b2i_f, if_pos rfl]; rfl
    | true =>
      rw [b2i_t, if_neg one_ne0]
      split
      · rename_i e; rw [decide_eq_true e]; rfl
      · rename_i e; rw [decide_eq_false e]; rfl
  split
  · cases asB with
    | false => rw [b2i_f, if_pos rfl]; rfl
    | true =>
      rw [b2i_t, if_neg one_ne0]
      split
      · rename_i e; rw [decide_eq_true e]; rfl
      · rename_i e; rw [decide_eq_false e]; rfl
  split
  · rfl
  · rfl
theorem x3_car_mid {M : Mm} {v p l : Nat} (h5 : p < 5) (h8 : l < 8) (yes : Bool) : m_X3_carries_J44 v (nI p) (nI l) (b2i yes) M = some (b2i (if M (v + 1) p = 1 then yes || !(decide (M (v + 7) l < 50)) else if M (v + 1) p = 2 then yes && !(decide (M (v + 4) l = nI p)) else if M (v + 1) p = 3 then (yes || !(decide (M (v + 7) l < 50))) && !(decide (irm (M v 1) 7 = M (v + 2) p)) else if M (v + 1) p = 4 then (yes && !(decide (M (v + 4) l = nI p))) && !(decide (4 < M (v + 2) p)) else if M (v + 1) p = 5 then true else yes), M) := by
  have k65 : ∀ asW : Bool, m_X3_carries_J65 v (nI p) (nI l) (b2i yes) (b2i asW) M = m_X3_carries_J86 v (nI p) (b2i yes) (b2i asW) (b2i (yes && !(decide (M (v + 4) l = nI p)))) M := by
    intro asW
    unfold m_X3_carries_J65 m_X3_carries_J85
    rw [lt1_d, inr_n (show l < 8 by omega) (by omega), gd_t, nI_clamp (show l < 2 ^ 31 by omega)]
    cases yes with
    | false => rw [b2i_f, if_pos rfl]; rfl
    | true =>
      rw [b2i_t, if_neg one_ne0]
      split
      · rename_i e; rw [decide_eq_true e]; rfl
      · rename_i e; rw [decide_eq_false e]; rfl
  unfold m_X3_carries_J44 m_X3_carries_J60
  rw [lt1_d, inr_n (show l < 8 by omega) (by omega), gd_t, nI_clamp (show l < 2 ^ 31 by omega)]
  cases hy : yes with
  | false =>
    subst hy
    rw [b2i_f, if_pos rfl]
    by_cases e : M (v + 7) l < 50
    · rw [if_pos e, show (0 : Int32) = b2i false from rfl, k65 false, x3_car_end h5 false false, decide_eq_true e]
      rfl
    · rw [if_neg e, show (1 : Int32) = b2i true from rfl, show (0 : Int32) = b2i false from rfl, k65 true, x3_car_end h5 false true, decide_eq_false e]
      rfl
  | true =>
    subst hy
    rw [b2i_t, if_neg one_ne0, show (1 : Int32) = b2i true from rfl, k65 true, x3_car_end h5 true true]
    rfl
theorem x3_carries {M : Mm} {v P L T p l : Nat} {tx : Tx} (hx : TXx M T tx) (hv : 5 ≤ v) (hc : CV M v P L) (hr : ∃ t, M v 3 = nI t ∧ t < T) (h1 : p < P) (h2 : l < L) : ∃ M', m_X3_carries v (nI p) (nI l) M = some (b2i (carS tx (nx M v) p l), M') ∧ Fr M M' := by
  have h5 := hc.2.1
  have h8 := hc.2.2.2
  have e0 : nx M v 0 6 = M v 6 := nx_0 (by omega)
  unfold m_X3_carries
  rw [x3_one_in hc h1, bd_s, if_neg one_ne0, x3_let_in hc h2, bd_s, if_neg one_ne0]
  by_cases hk : (shr (M v 6) (nI p)) &&& 1 = 0
  · rw [if_pos hk]
    obtain ⟨M', e, f⟩ := x3_ruled_L hx hv hc (part := 0) (by omega) hr h1 h2
    refine ⟨M', ?_, f⟩
    rw [show (0 : Int32) = nI 0 from rfl, e, bd_s]
    have key : (if rulL tx (nx M v) 0 p l = nI 0 then m_X3_carries_J44 v (nI p) (nI l) (nI 0) M' else m_X3_carries_J44 v (nI p) (nI l) 1 M') = m_X3_carries_J44 v (nI p) (nI l) (b2i (!(decide (rulL tx (nx M v) 0 p l = 0)))) M' := by
      split
      · rename_i q; rw [decide_eq_true (show rulL tx (nx M v) 0 p l = 0 from q)]; rfl
      · rename_i q; rw [decide_eq_false (show ¬ rulL tx (nx M v) 0 p l = 0 from q)]; rfl
    rw [key, x3_car_mid (by omega) (by omega)]
    unfold carS
    simp only [e0, f.at (show 5 ≤ v + 1 by omega), f.at (show 5 ≤ v + 7 by omega), f.at (show 5 ≤ v + 4 by omega), f.at hv, f.at (show 5 ≤ v + 2 by omega)]
    rw [hc.r (by omega) (by omega) h1, hc.r (by omega) (by omega) h1, hc.q (by omega) (by omega) h2, hc.q (by omega) (by omega) h2, nx_0 (by omega), decide_eq_true hk, Bool.true_and]
  · rw [if_neg hk]
    refine ⟨M, ?_, Fr.rf⟩
    unfold carS
    simp only [e0]
    rw [decide_eq_false hk, Bool.false_and]
    rfl
theorem x3_softens {M : Mm} {v P L T p l : Nat} {tx : Tx} (hx : TXx M T tx) (hv : 5 ≤ v) (hc : CV M v P L) (hr : ∃ t, M v 3 = nI t ∧ t < T) (h1 : p < P) (h2 : l < L) : ∃ M', m_X3_softens v (nI p) (nI l) M = some (sofS tx (nx M v) p l, M') ∧ Fr M M' := by
  have h5 := hc.2.1
  have h8 := hc.2.2.2
  obtain ⟨M', e, f⟩ := x3_ruled_L hx hv hc (part := 1) (by omega) hr h1 h2
  refine ⟨M', ?_, f⟩
  unfold m_X3_softens
  rw [x3_one_in hc h1, bd_s, if_neg one_ne0, x3_let_in hc h2, bd_s, if_neg one_ne0, show (1 : Int32) = nI 1 from rfl, e, bd_s, lt1_d, inr_n (show p < 5 by omega) (by omega), gd_t, inr_n (show l < 8 by omega) (by omega), nI_clamp (show p < 2 ^ 31 by omega), nI_clamp (show l < 2 ^ 31 by omega), gd_t, gd_t, gd_t]
  unfold sofS
  rw [hc.r (by omega) (by omega) h1, hc.r (by omega) (by omega) h1, hc.q (by omega) (by omega) h2, f.at (show 5 ≤ v + 1 by omega), f.at (show 5 ≤ v + 7 by omega), f.at (show 5 ≤ v + 2 by omega)]
  show (if M (v + 1) p = 1 then _ else _) = _
  split
  · rfl
  split
  · rfl
  split
  · split <;> rfl
  split
  · rfl
  split
  · rfl
  · rfl
theorem x3_writes {M : Mm} {v P L T p : Nat} {tx : Tx} (hx : TXx M T tx) (hv : 5 ≤ v) (hc : CV M v P L) (hr : ∃ t, M v 3 = nI t ∧ t < T) (h1 : p < P) : ∃ M', m_X3_toneWritten v (nI p) M = some (wriS tx (nx M v) p, M') ∧ Fr M M' := by
  have h5 := hc.2.1
  obtain ⟨M', e, f⟩ := x3_ruled_N hx hv hc (part := 2) (by omega) hr h1
  refine ⟨M', ?_, f⟩
  unfold m_X3_toneWritten
  have e : m_X3_ruled v 2 (nI p) (-1) M = some (rulN tx (nx M v) 2 p, M') := e
  rw [x3_one_in hc h1, bd_s, if_neg one_ne0, e, bd_s, lt1_d, inr_n (show p < 5 by omega) (by omega), gd_t, nI_clamp (show p < 2 ^ 31 by omega), gd_t, dec2, gd_t]
  unfold wriS
  rw [hc.r (by omega) (by omega) h1, hc.r (by omega) (by omega) h1, f.at (show 5 ≤ v + 1 by omega), f.at (show 5 ≤ v + 2 by omega)]
  show (if M (v + 1) p = 1 then _ else _) = _
  split
  · rfl
  split
  · rfl
  split
  · rfl
  split
  · rfl
  split
  · rfl
  · rfl
/-! the reference -/
def KIND (s : Vs) (p : Nat) : Prop := ∃ k, k < 6 ∧ s 1 p = nI k
theorem KIND.c {s : Vs} {p : Nat} (h : KIND s p) : s 1 p = 0 ∨ s 1 p = 1 ∨ s 1 p = 2 ∨ s 1 p = 3 ∨ s 1 p = 4 ∨ s 1 p = 5 := by
  obtain ⟨k, hk, e⟩ := h
  rw [e]
  rcases (show k = 0 ∨ k = 1 ∨ k = 2 ∨ k = 3 ∨ k = 4 ∨ k = 5 by omega) with rfl | rfl | rfl | rfl | rfl | rfl <;> simp only [fa_lit] <;> simp
theorem x5_car_end {M : Mm} {l : Nat} (k : Int32) (h8 : l < 8) (yes asB : Bool) (hk : k = 0 ∨ k = 1 ∨ k = 2 ∨ k = 3 ∨ k = 4 ∨ k = 5) : m_X5_carries_J106 (nI l) k (b2i yes) (b2i asB) M = some (b2i (if k = 5 then true else if k = 2 then asB else if k = 4 then asB else if k = 0 then yes else yes || !(decide (M 5 (5 * l) ≤ 49))), M) := by
  unfold m_X5_carries_J106 m_X5_carries_J123 m_X5_carries_J161
  rw [lt1_d, pl5, inr_n (show 5 * l < 40 by omega) (by omega), gd_t, nI_clamp (show 5 * l < 2 ^ 31 by omega)]
  split
  · rfl
  split
  · cases asB with
    | false => rw [b2i_f, if_pos rfl]
    | true => rw [b2i_t, if_neg one_ne0]
  split
  · cases asB with
    | false => rw [b2i_f, if_pos rfl]
    | true => rw [b2i_t, if_neg one_ne0]
  split
  · cases yes with
    | false => rw [b2i_f, if_pos rfl]
    | true => rw [b2i_t, if_neg one_ne0]
  · cases yes with
    | false =>
      rw [b2i_f, if_pos rfl]
      split
      · rename_i e; rw [decide_eq_true e]; rfl
      · rename_i e; rw [decide_eq_false e]; rfl
    | true => rw [b2i_t, if_neg one_ne0]; rfl
theorem x5_car_mid {M : Mm} {p l : Nat} (k : Int32) (h8 : l < 8) (yes : Bool) (hk : k = 0 ∨ k = 1 ∨ k = 2 ∨ k = 3 ∨ k = 4 ∨ k = 5) : m_X5_carries_J80 (nI p) (nI l) k (b2i yes) M = some (b2i (if k = 5 then true else if k = 2 then yes && !(decide (M 5 (5 * l + 1) = nI p)) else if k = 4 then yes && !(decide (M 5 (5 * l + 1) = nI p)) else if k = 0 then yes else yes || !(decide (M 5 (5 * l) ≤ 49))), M) := by
  unfold m_X5_carries_J80 m_X5_carries_J105
  rw [lt1_d, pl5, pla1, inr_n (show 5 * l + 1 < 40 by omega) (by omega), gd_t, nI_clamp (show 5 * l + 1 < 2 ^ 31 by omega)]
  cases hy : yes with
  | false =>
    subst hy
    rw [b2i_f, if_pos rfl]
    exact x5_car_end k h8 false false hk
  | true =>
    subst hy
    rw [b2i_t, if_neg one_ne0]
    split
    · rename_i e; rw [decide_eq_true e]; exact x5_car_end k h8 true false hk
    · rename_i e; rw [decide_eq_false e]; exact x5_car_end k h8 true true hk
theorem lt50 (x : Int32) : (!(decide (x < 50))) = !(decide (x ≤ 49)) := by
  have h : (x < 50) ↔ (x ≤ 49) := by
    rw [Int32.lt_iff_toInt_lt, Int32.le_iff_toInt_le]
    have a : (50 : Int32).toInt = 50 := rfl
    have b : (49 : Int32).toInt = 49 := rfl
    omega
  rw [decide_eq_decide.mpr h]
theorem le20 (x : Int32) : (21 ≤ x) ↔ ¬ x ≤ 20 := by
  rw [Int32.le_iff_toInt_le, Int32.le_iff_toInt_le]
  have a : (21 : Int32).toInt = 21 := rfl
  have b : (20 : Int32).toInt = 20 := rfl
  omega
def READB (s : Vs) (l : Nat) : Prop := ∃ b, b < 256 ∧ s 8 l = nI b
theorem x5_carries {M : Mm} {P L T p l : Nat} {tx : Tx} (hx : TXm M T tx) (hc : MV M P L) (hr : ∃ t, M 0 4 = nI t ∧ t < T) (h1 : p < P) (h2 : l < L) (hk : KIND (nm M) p) (hb : READB (nm M) l) : ∃ M', m_X5_carries (nI p) (nI l) M = some (b2i (carS tx (nm M) p l), M') ∧ Gr M M' := by
  have h5 := hc.2.1
  have h8 := hc.2.2.2
  have r1 := hc.r h1
  have q1 := hc.q h2
  obtain ⟨b, b1, b2⟩ := hb
  have hk := hk.c
  rw [r1.1] at hk
  have e0 : nm M 0 6 = M 0 13 := nm_0.2.2.2.2.2
  have n4 : (4 : Int32) = nI 4 := rfl
  obtain ⟨M', e, f⟩ := x5_says_L hx hc (part := 0) (by omega) hr h1 h2 (by rw [← q1.2.2.2.2]; exact b2) b1
  -- behind the questions that need no text
  have key : m_X5_carries_J65 (nI p) (nI l) (M 4 (3 * p + 1)) M = some (b2i (if M 4 (3 * p + 1) = 5 then true else if M 4 (3 * p + 1) = 2 then !(decide (rulL tx (nm M) 0 p l = 0)) && !(decide (M 5 (5 * l + 1) = nI p)) else if M 4 (3 * p + 1) = 4 then !(decide (rulL tx (nm M) 0 p l = 0)) && !(decide (M 5 (5 * l + 1) = nI p)) else if M 4 (3 * p + 1) = 0 then !(decide (rulL tx (nm M) 0 p l = 0)) else !(decide (rulL tx (nm M) 0 p l = 0)) || !(decide (M 5 (5 * l) ≤ 49))), M') := by
    unfold m_X5_carries_J65
    have e : m_X5_says 0 (nI p) (nI l) M = some (rulL tx (nm M) 0 p l, M') := e
    rw [e, bd_s]
    have k2 : (if rulL tx (nm M) 0 p l = 0 then m_X5_carries_J80 (nI p) (nI l) (M 4 (3 * p + 1)) 0 M' else m_X5_carries_J80 (nI p) (nI l) (M 4 (3 * p + 1)) 1 M') = m_X5_carries_J80 (nI p) (nI l) (M 4 (3 * p + 1)) (b2i (!(decide (rulL tx (nm M) 0 p l = 0)))) M' := by
      split
      · rename_i q; rw [decide_eq_true q]; rfl
      · rename_i q; rw [decide_eq_false q]; rfl
    rw [k2, x5_car_mid _ (by omega) _ hk, f.at (show (5 : Nat) ≠ 0 by decide), f.at (show (5 : Nat) ≠ 0 by decide)]
  have spec : carS tx (nm M) p l = (decide ((shr (M 0 13) (nI p)) &&& 1 = 0) && (if M 4 (3 * p + 1) = 1 then !(decide (rulL tx (nm M) 0 p l = 0)) || !(decide (M 5 (5 * l) < 50)) else if M 4 (3 * p + 1) = 2 then !(decide (rulL tx (nm M) 0 p l = 0)) && !(decide (M 5 (5 * l + 1) = nI p)) else if M 4 (3 * p + 1) = 3 then (!(decide (rulL tx (nm M) 0 p l = 0)) || !(decide (M 5 (5 * l) < 50))) && !(decide (irm (M 0 7) 7 = M 4 (3 * p))) else if M 4 (3 * p + 1) = 4 then (!(decide (rulL tx (nm M) 0 p l = 0)) && !(decide (M 5 (5 * l + 1) = nI p))) && !(decide (4 < M 4 (3 * p))) else if M 4 (3 * p + 1) = 5 then true else !(decide (rulL tx (nm M) 0 p l = 0)))) := by
    unfold carS
    rw [e0, r1.1, r1.2.1, nm_0.1, q1.2.2.2.1, q1.1]
  have n5 : ¬ ((5 : Int32) = 3) := by decide
  have body : m_X5_carries (nI p) (nI l) M = (if (shr (M 0 13) (nI p)) &&& 1 = 1 then some (0, M) else if M 4 (3 * p + 1) = 4 then (if 4 < M 4 (3 * p) then some (0, M) else m_X5_carries_J40 (nI p) (nI l) (M 4 (3 * p + 1)) M) else m_X5_carries_J40 (nI p) (nI l) (M 4 (3 * p + 1)) M) := by
    unfold m_X5_carries
    rw [pl3, pla1, inr_n (show 3 * p + 1 < 15 by omega) (by omega), gd_t, nI_clamp (show 3 * p + 1 < 2 ^ 31 by omega), lt1_d, inr_n (show 3 * p < 15 by omega) (by omega), gd_t, nI_clamp (show 3 * p < 2 ^ 31 by omega)]
  have j40 : m_X5_carries_J40 (nI p) (nI l) (M 4 (3 * p + 1)) M = (if M 4 (3 * p + 1) = 3 then (if irm (M 0 7) 7 = M 4 (3 * p) then some (0, M) else m_X5_carries_J65 (nI p) (nI l) (M 4 (3 * p + 1)) M) else m_X5_carries_J65 (nI p) (nI l) (M 4 (3 * p + 1)) M) := by
    unfold m_X5_carries_J40
    rw [dec7, gd_t, pl3, inr_n (show 3 * p < 15 by omega) (by omega), gd_t, nI_clamp (show 3 * p < 2 ^ 31 by omega)]
  rw [body, spec]
  rcases and1 (shr (M 0 13) (nI p)) with a | a
  · rw [a, if_neg (show ¬ ((0 : Int32) = 1) by decide), decide_eq_true rfl, Bool.true_and, j40, key, lt50]
    rcases hk with k | k | k | k | k | k <;> rw [k]
    · exact ⟨M', rfl, f⟩
    · exact ⟨M', rfl, f⟩
    · exact ⟨M', rfl, f⟩
    · by_cases d : irm (M 0 7) 7 = M 4 (3 * p)
      · refine ⟨M, ?_, Gr.rf⟩
        rw [if_neg (show ¬ ((3 : Int32) = 4) by decide), if_pos rfl, if_pos d, decide_eq_true d, if_neg (show ¬ ((3 : Int32) = 1) by decide), if_neg (show ¬ ((3 : Int32) = 2) by decide), if_pos rfl, Bool.not_true, Bool.and_false]
        rfl
      · refine ⟨M', ?_, f⟩
        rw [if_neg (show ¬ ((3 : Int32) = 4) by decide), if_pos rfl, if_neg d, decide_eq_false d, if_neg (show ¬ ((3 : Int32) = 1) by decide), if_neg (show ¬ ((3 : Int32) = 2) by decide), if_pos rfl, Bool.not_false, Bool.and_true]
        rfl
    · by_cases d : 4 < M 4 (3 * p)
      · refine ⟨M, ?_, Gr.rf⟩
        rw [if_pos rfl, if_pos d, decide_eq_true d, if_neg (show ¬ ((4 : Int32) = 1) by decide), if_neg (show ¬ ((4 : Int32) = 2) by decide), if_neg (show ¬ ((4 : Int32) = 3) by decide), if_pos rfl, Bool.not_true, Bool.and_false]
        rfl
      · refine ⟨M', ?_, f⟩
        rw [if_pos rfl, if_neg d, decide_eq_false d, if_neg (show ¬ ((4 : Int32) = 1) by decide), if_neg (show ¬ ((4 : Int32) = 2) by decide), if_neg (show ¬ ((4 : Int32) = 3) by decide), if_pos rfl, Bool.not_false, Bool.and_true, if_neg (show ¬ ((4 : Int32) = 3) by decide)]
        rfl
    · exact ⟨M', rfl, f⟩
  · rw [a, if_pos rfl, decide_eq_false one_ne0, Bool.false_and]
    exact ⟨M, rfl, Gr.rf⟩
theorem x5_softens {M : Mm} {P L T p l : Nat} {tx : Tx} (hx : TXm M T tx) (hc : MV M P L) (hr : ∃ t, M 0 4 = nI t ∧ t < T) (h1 : p < P) (h2 : l < L) (hk : KIND (nm M) p) (hb : READB (nm M) l) : ∃ M', m_X5_softens (nI p) (nI l) M = some (sofS tx (nm M) p l, M') ∧ Gr M M' := by
  have h5 := hc.2.1
  have h8 := hc.2.2.2
  have r1 := hc.r h1
  have q1 := hc.q h2
  obtain ⟨b, b1, b2⟩ := hb
  have hk := hk.c
  rw [r1.1] at hk
  obtain ⟨M', e, f⟩ := x5_says_L hx hc (part := 1) (by omega) hr h1 h2 (by rw [← q1.2.2.2.2]; exact b2) b1
  have e : m_X5_says 1 (nI p) (nI l) M = some (rulL tx (nm M) 1 p l, M') := e
  have key : m_X5_softens_J36 (nI p) (nI l) (M 4 (3 * p + 1)) M = some (if M 4 (3 * p + 1) = 2 then rulL tx (nm M) 1 p l + M 4 (3 * p) else if M 4 (3 * p + 1) = 4 then -(rulL tx (nm M) 1 p l + M 4 (3 * p)) else if M 4 (3 * p + 1) = 0 then rulL tx (nm M) 1 p l else 2 * rulL tx (nm M) 1 p l, M') := by
    unfold m_X5_softens_J36
    rw [e, bd_s, lt1_d, pl3, inr_n (show 3 * p < 15 by omega) (by omega), gd_t, nI_clamp (show 3 * p < 2 ^ 31 by omega), lt1_d, f.at (show (4 : Nat) ≠ 0 by decide)]
    split
    · rfl
    split
    · rfl
    split
    · rfl
    · rfl
  have body : m_X5_softens (nI p) (nI l) M = (if M 4 (3 * p + 1) = 5 then some (0, M) else if M 4 (3 * p + 1) = 3 then (if 21 ≤ M 5 (5 * l) then m_X5_softens_J36 (nI p) (nI l) (M 4 (3 * p + 1)) M else some (0, M)) else m_X5_softens_J36 (nI p) (nI l) (M 4 (3 * p + 1)) M) := by
    unfold m_X5_softens
    rw [pl3, pla1, inr_n (show 3 * p + 1 < 15 by omega) (by omega), gd_t, nI_clamp (show 3 * p + 1 < 2 ^ 31 by omega), lt1_d, pl5, inr_n (show 5 * l < 40 by omega) (by omega), gd_t, nI_clamp (show 5 * l < 2 ^ 31 by omega)]
  rw [body, key]
  unfold sofS
  rw [r1.1, r1.2.1, q1.2.2.2.1]
  rcases hk with k | k | k | k | k | k <;> rw [k]
  · exact ⟨M', rfl, f⟩
  · exact ⟨M', rfl, f⟩
  · exact ⟨M', rfl, f⟩
  · by_cases d : M 5 (5 * l) ≤ 20
    · refine ⟨M, ?_, Gr.rf⟩
      rw [if_neg (show ¬ ((3 : Int32) = 5) by decide), if_pos rfl, if_neg (fun q => (le20 _).mp q d)]
      show some ((0 : Int32), M) = some ((if M 5 (5 * l) ≤ 20 then 0 else 2 * rulL tx (nm M) 1 p l), M)
      rw [if_pos d]
    · refine ⟨M', ?_, f⟩
      rw [if_neg (show ¬ ((3 : Int32) = 5) by decide), if_pos rfl, if_pos ((le20 _).mpr d)]
      show some (2 * rulL tx (nm M) 1 p l, M') = some ((if M 5 (5 * l) ≤ 20 then 0 else 2 * rulL tx (nm M) 1 p l), M')
      rw [if_neg d]
  · exact ⟨M', rfl, f⟩
  · exact ⟨M, rfl, Gr.rf⟩
