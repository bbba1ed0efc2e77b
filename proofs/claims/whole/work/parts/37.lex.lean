/-! the lexers, by one picture of a tape: B: its bytes, -1 behind its end -/
def blB (x : Int32) : Bool := decide (x = 32) || decide (x = 10)
def woB (x : Int32) : Bool := !(decide (x < 97)) && !(decide (122 < x))
def dgB (x : Int32) : Bool := !(decide (x < 48)) && !(decide (57 < x))
def sgB (x : Int32) : Bool := decide (x = 40) || (decide (x = 41) || (decide (x = 59) || (decide (x = 43) || (decide (x = 45) || (decide (x = 42) || (decide (x = 60) || decide (x = 61)))))))
def BB (B : Nat → Int32) (n : Nat) : Prop := n ≤ 160 ∧ (∀ j, j < n → ∃ b, b < 256 ∧ B j = nI b) ∧ ∀ j, n ≤ j → B j = -1
def BX (A : Mm) (B : Nat → Int32) (n : Nat) : Prop := A 5 0 = nI n ∧ ∀ j, j < n → A 6 j = B j
def BM (R : Mm) (B : Nat → Int32) (n : Nat) : Prop := R 0 21 = nI n ∧ ∃ t, t < 6 ∧ R 0 20 = nI (160 * t) ∧ ∀ j, j < n → R 1 (160 * t + j) = B j
theorem x1_bl {x : Int32} {M : Mm} : m_X1_isBlank x M = some (b2i (blB x), M) := by
  unfold m_X1_isBlank m_X1_isBlank_J12 blB
  by_cases h1 : x = 32
  · rw [if_pos h1, decide_eq_true h1]; rfl
  · rw [if_neg h1, decide_eq_false h1]
    by_cases h2 : x = 10
    · rw [if_pos h2, decide_eq_true h2]; rfl
    · rw [if_neg h2, decide_eq_false h2]; rfl
theorem x1_wo {x : Int32} {M : Mm} : m_X1_isWordByte x M = some (b2i (woB x), M) := by
  unfold m_X1_isWordByte woB
  by_cases h1 : x < 97
  · rw [if_pos h1, decide_eq_true h1]; rfl
  · rw [if_neg h1, decide_eq_false h1]
    by_cases h2 : 122 < x
    · rw [if_pos h2, decide_eq_true h2]; rfl
    · rw [if_neg h2, decide_eq_false h2]; rfl
theorem x1_dg {x : Int32} {M : Mm} : m_X1_isDigit x M = some (b2i (dgB x), M) := by
  unfold m_X1_isDigit dgB
  by_cases h1 : x < 48
  · rw [if_pos h1, decide_eq_true h1]; rfl
  · rw [if_neg h1, decide_eq_false h1]
    by_cases h2 : 57 < x
    · rw [if_pos h2, decide_eq_true h2]; rfl
    · rw [if_neg h2, decide_eq_false h2]; rfl
theorem x1_sg {x : Int32} {M : Mm} : m_X1_isSign x M = some (b2i (sgB x), M) := by
  unfold m_X1_isSign m_X1_isSign_J48 sgB
  by_cases h0 : x = 40
  · rw [if_pos h0, decide_eq_true h0]; rfl
  rw [if_neg h0, decide_eq_false h0, Bool.false_or]
  by_cases h1 : x = 41
  · rw [if_pos h1, decide_eq_true h1]; rfl
  rw [if_neg h1, decide_eq_false h1, Bool.false_or]
  by_cases h2 : x = 59
  · rw [if_pos h2, decide_eq_true h2]; rfl
  rw [if_neg h2, decide_eq_false h2, Bool.false_or]
  by_cases h3 : x = 43
  · rw [if_pos h3, decide_eq_true h3]; rfl
  rw [if_neg h3, decide_eq_false h3, Bool.false_or]
  by_cases h4 : x = 45
  · rw [if_pos h4, decide_eq_true h4]; rfl
  rw [if_neg h4, decide_eq_false h4, Bool.false_or]
  by_cases h5 : x = 42
  · rw [if_pos h5, decide_eq_true h5]; rfl
  rw [if_neg h5, decide_eq_false h5, Bool.false_or]
  by_cases h6 : x = 60
  · rw [if_pos h6, decide_eq_true h6]; rfl
  rw [if_neg h6, decide_eq_false h6, Bool.false_or]
  by_cases h7 : x = 61
  · rw [if_pos h7, decide_eq_true h7]; rfl
  rw [if_neg h7, decide_eq_false h7]; rfl
theorem in_wo {x : Int32} {M : Mm} : m_X5_in x.toInt64 (97 : Int64) (122 : Int64) M = some (b2i (woB x), M) := by
  rw [x5_in, toL, show ((97 : Int64).toInt) = 97 from rfl, show ((122 : Int64).toInt) = 122 from rfl]
  have e : decide (97 ≤ x.toInt ∧ x.toInt ≤ 122) = woB x := by
    unfold woB
    have h1 : decide (x < 97) = decide (x.toInt < 97) := decide_eq_decide.mpr (by rw [Int32.lt_iff_toInt_lt]; exact Iff.rfl)
    have h2 : decide (122 < x) = decide (122 < x.toInt) := decide_eq_decide.mpr (by rw [Int32.lt_iff_toInt_lt]; exact Iff.rfl)
    rw [h1, h2]
    by_cases a : x.toInt < 97
    · rw [decide_eq_true a, decide_eq_false (by omega)]; rfl
    · rw [decide_eq_false a]
      by_cases b : 122 < x.toInt
      · rw [decide_eq_true b, decide_eq_false (by omega)]; rfl
      · rw [decide_eq_false b, decide_eq_true (by omega)]; rfl
  rw [e]
theorem in_dg {x : Int32} {M : Mm} : m_X5_in x.toInt64 (48 : Int64) (57 : Int64) M = some (b2i (dgB x), M) := by
  rw [x5_in, toL, show ((48 : Int64).toInt) = 48 from rfl, show ((57 : Int64).toInt) = 57 from rfl]
  have e : decide (48 ≤ x.toInt ∧ x.toInt ≤ 57) = dgB x := by
    unfold dgB
    have h1 : decide (x < 48) = decide (x.toInt < 48) := decide_eq_decide.mpr (by rw [Int32.lt_iff_toInt_lt]; exact Iff.rfl)
    have h2 : decide (57 < x) = decide (57 < x.toInt) := decide_eq_decide.mpr (by rw [Int32.lt_iff_toInt_lt]; exact Iff.rfl)
    rw [h1, h2]
    by_cases a : x.toInt < 48
    · rw [decide_eq_true a, decide_eq_false (by omega)]; rfl
    · rw [decide_eq_false a]
      by_cases b : 57 < x.toInt
      · rw [decide_eq_true b, decide_eq_false (by omega)]; rfl
      · rw [decide_eq_false b, decide_eq_true (by omega)]; rfl
  rw [e]
theorem wo_m1 : woB (-1) = false := by decide
theorem dg_m1 : dgB (-1) = false := by decide
theorem bl_m1 : blB (-1) = false := by decide
theorem x1_by {A : Mm} {B : Nat → Int32} {n i : Nat} (hb : BB B n) (hx : BX A B n) (hi : i < 2 ^ 30) : m_X1_byteAt (nI i) A = some (B i, A) := by
  have n160 := hb.1
  unfold m_X1_byteAt
  rw [if_neg (nI_pos (by omega)), hx.1]
  by_cases h : i < n
  · rw [if_neg (nI_ge h (by omega)), if_neg (show ¬ (160 : Int32) ≤ nI i from nI_ge (b := 160) (by omega) (by omega)), inr_n (by omega) (by omega), gd_t, nI_clamp (by omega), hx.2 i h]
  · rw [if_pos (nI_le (by omega) (by omega)), hb.2.2 i (by omega)]
theorem x5_by {R : Mm} {B : Nat → Int32} {n i : Nat} (hb : BB B n) (hm : BM R B n) (hi : i < 2 ^ 30) : m_X5_byteAt (nI i) R = some (B i, R) := by
  have n160 := hb.1
  obtain ⟨h1, t, t6, h2, h3⟩ := hm
  unfold m_X5_byteAt
  rw [h1]
  by_cases h : i < n
  · rw [if_neg (nI_ge h (by omega)), h2, nI_add, inr_n (by omega) (by omega), gd_t, nI_clamp (by omega), h3 i h]
  · rw [if_pos (nI_le (by omega) (by omega)), hb.2.2 i (by omega)]
theorem BX_up {A : Mm} {B : Nat → Int32} {n j : Nat} {x : Int32} (h : BX A B n) (hj : j ≠ 0) : BX (up A 5 j x) B n := ⟨by rw [up_j (by omega)]; exact h.1, fun i hi => by rw [up_k (by decide)]; exact h.2 i hi⟩
theorem BX_up' {A : Mm} {B : Nat → Int32} {n k j : Nat} {x : Int32} (h : BX A B n) (hk : k < 5) : BX (up A k j x) B n := ⟨by rw [up_k (by omega)]; exact h.1, fun i hi => by rw [up_k (by omega)]; exact h.2 i hi⟩
theorem BM_up {R : Mm} {B : Nat → Int32} {n j : Nat} {x : Int32} (h : BM R B n) (hj : 21 < j) : BM (up R 0 j x) B n := by
  obtain ⟨h1, t, t6, h2, h3⟩ := h
  exact ⟨by rw [up_j (by omega)]; exact h1, t, t6, by rw [up_j (by omega)]; exact h2, fun i hi => by rw [up_k (by decide)]; exact h3 i hi⟩
/-- the first place from i on, at most k further, where p does not hold -/
def ad (p : Int32 → Bool) (B : Nat → Int32) : Nat → Nat → Nat
  | 0, i => i
  | k + 1, i => if p (B i) = true then ad p B k (i + 1) else i
theorem ad_t {p : Int32 → Bool} {B : Nat → Int32} {k i : Nat} (h : p (B i) = true) : ad p B (k + 1) i = ad p B k (i + 1) := if_pos h
theorem ad_f {p : Int32 → Bool} {B : Nat → Int32} {k i : Nat} (h : ¬ p (B i) = true) : ad p B (k + 1) i = i := if_neg h
theorem ad_le {p : Int32 → Bool} {B : Nat → Int32} : ∀ (k i : Nat), i ≤ ad p B k i ∧ ad p B k i ≤ i + k := by
  intro k
  induction k with
  | zero => intro i; exact ⟨Nat.le_refl _, Nat.le_refl _⟩
  | succ k ih =>
    intro i
    by_cases h : p (B i) = true
    · rw [ad_t h]
      have := ih (i + 1)
      omega
    · rw [ad_f h]; omega
theorem ad_all {p : Int32 → Bool} {B : Nat → Int32} : ∀ (k i j : Nat), i ≤ j → j < ad p B k i → p (B j) = true := by
  intro k
  induction k with
  | zero => intro i j h1 h2; exact absurd h2 (by show ¬ j < i; omega)
  | succ k ih =>
    intro i j h1 h2
    by_cases h : p (B i) = true
    · rw [ad_t h] at h2
      by_cases e : j = i
      · subst e; exact h
      · exact ih (i + 1) j (by omega) h2
    · rw [ad_f h] at h2; omega
theorem ad_end {p : Int32 → Bool} {B : Nat → Int32} : ∀ (k i : Nat), p (B (i + k)) = false → p (B (ad p B k i)) = false := by
  intro k
  induction k with
  | zero => intro i h; exact h
  | succ k ih =>
    intro i h
    by_cases q : p (B i) = true
    · rw [ad_t q]; exact ih (i + 1) (by rw [show i + 1 + k = i + (k + 1) by omega]; exact h)
    · rw [ad_f q]
      cases z : p (B i) with
      | false => rfl
      | true => exact absurd z q
theorem x1_adv_L {B : Nat → Int32} {n : Nat} (hb : BB B n) : ∀ (k i t fu : Nat) (A : Mm), k < fu → i + k = n → t + k ≤ 160 → BX A B n → A 5 5 = nI i → m_X1_advance_L2 fu (nI t) A = m_X1_advance_J39 (up A 5 5 (nI (ad blB B k i))) := by
  have n160 := hb.1
  intro k
  induction k with
  | zero =>
    intro i t fu A hf hi ht hx h5
    obtain ⟨fu, rfl⟩ : ∃ m, fu = m + 1 := ⟨fu - 1, by omega⟩
    have e : up A 5 5 (nI (ad blB B 0 i)) = A := by show up A 5 5 (nI i) = A; rw [← h5]; exact up_self
    rw [e]
    show m_X1_advance_B2 (m_X1_advance_L2 fu) (nI t) A = _
    rw [m_X1_advance_B2, h5, x1_by hb hx (by omega), bd_s, x1_bl, bd_s, hb.2.2 i (by omega), bl_m1, b2i_f, if_pos rfl]
    split <;> rfl
  | succ k ih =>
    intro i t fu A hf hi ht hx h5
    obtain ⟨fu, rfl⟩ : ∃ m, fu = m + 1 := ⟨fu - 1, by omega⟩
    show m_X1_advance_B2 (m_X1_advance_L2 fu) (nI t) A = _
    rw [m_X1_advance_B2, if_neg (show ¬ (160 : Int32) ≤ nI t from nI_ge (b := 160) (by omega) (by omega)), h5, x1_by hb hx (by omega), bd_s, x1_bl, bd_s]
    by_cases hp : blB (B i) = true
    · rw [hp, b2i_t, if_neg one_ne0, lt1_d, lt1_d, h5, nI_1, nI_1, ad_t hp, ih (i + 1) (t + 1) fu _ (by omega) (by omega) (by omega) (BX_up hx (by decide)) up_s, up_up]
    · have e : up A 5 5 (nI (ad blB B (k + 1) i)) = A := by rw [ad_f hp, ← h5]; exact up_self
      rw [show blB (B i) = false from Bool.eq_false_iff.mpr hp, b2i_f, if_pos rfl, e]
theorem x1_rw_L {B : Nat → Int32} {n : Nat} (hb : BB B n) : ∀ (k i t fu : Nat) (A : Mm), k < fu → i + k = n → t + k ≤ 160 → BX A B n → A 5 5 = nI i → m_X1_readWord_L2 fu (nI t) A = m_X1_readWord_J39 (up A 5 5 (nI (ad woB B k i))) := by
  have n160 := hb.1
  intro k
  induction k with
  | zero =>
    intro i t fu A hf hi ht hx h5
    obtain ⟨fu, rfl⟩ : ∃ m, fu = m + 1 := ⟨fu - 1, by omega⟩
    have e : up A 5 5 (nI (ad woB B 0 i)) = A := by show up A 5 5 (nI i) = A; rw [← h5]; exact up_self
    rw [e]
    show m_X1_readWord_B2 (m_X1_readWord_L2 fu) (nI t) A = _
    rw [m_X1_readWord_B2, h5, x1_by hb hx (by omega), bd_s, x1_wo, bd_s, hb.2.2 i (by omega), wo_m1, b2i_f, if_pos rfl]
    split <;> rfl
  | succ k ih =>
    intro i t fu A hf hi ht hx h5
    obtain ⟨fu, rfl⟩ : ∃ m, fu = m + 1 := ⟨fu - 1, by omega⟩
    show m_X1_readWord_B2 (m_X1_readWord_L2 fu) (nI t) A = _
    rw [m_X1_readWord_B2, if_neg (show ¬ (160 : Int32) ≤ nI t from nI_ge (b := 160) (by omega) (by omega)), h5, x1_by hb hx (by omega), bd_s, x1_wo, bd_s]
    by_cases hp : woB (B i) = true
    · rw [hp, b2i_t, if_neg one_ne0, lt1_d, lt1_d, h5, nI_1, nI_1, ad_t hp, ih (i + 1) (t + 1) fu _ (by omega) (by omega) (by omega) (BX_up hx (by decide)) up_s, up_up]
    · have e : up A 5 5 (nI (ad woB B (k + 1) i)) = A := by rw [ad_f hp, ← h5]; exact up_self
      rw [show woB (B i) = false from Bool.eq_false_iff.mpr hp, b2i_f, if_pos rfl, e]
/-- what a row of digits is worth -/
def dvl (B : Nat → Int32) : Nat → Nat → Int32 → Int32
  | 0, _, a => a
  | m + 1, i, a => dvl B m (i + 1) (a * 10 + B i - 48)
theorem up_4 {A : Mm} {k a b : Nat} {v y v' e : Int32} (h : a ≠ b) : up (up (up (up A k a v) k b y) k a v') k b e = up (up A k a v') k b e := by
  rw [up_cm (M := up A k a v) (a := b) (b := a) (fun q => h q.symm), up_up, up_up]
theorem x1_rn_L {B : Nat → Int32} {n : Nat} (hb : BB B n) : ∀ (k i t fu : Nat) (A : Mm), k < fu → i + k = n → t + k ≤ 160 → BX A B n → A 5 5 = nI i → m_X1_readNumber_L7 fu (nI t) A = m_X1_readNumber_J67 (up (up A 5 6 (dvl B (ad dgB B k i - i) i (A 5 6))) 5 5 (nI (ad dgB B k i))) := by
  have n160 := hb.1
  intro k
  induction k with
  | zero =>
    intro i t fu A hf hi ht hx h5
    obtain ⟨fu, rfl⟩ : ∃ m, fu = m + 1 := ⟨fu - 1, by omega⟩
    have e : up (up A 5 6 (dvl B (ad dgB B 0 i - i) i (A 5 6))) 5 5 (nI (ad dgB B 0 i)) = A := by
      show up (up A 5 6 (dvl B (i - i) i (A 5 6))) 5 5 (nI i) = A
      rw [Nat.sub_self, ← h5]
      show up (up A 5 6 (A 5 6)) 5 5 (A 5 5) = A
      rw [up_self, up_self]
    rw [e]
    show m_X1_readNumber_B7 (m_X1_readNumber_L7 fu) (nI t) A = _
    rw [m_X1_readNumber_B7, h5, x1_by hb hx (by omega), bd_s, x1_dg, bd_s, hb.2.2 i (by omega), dg_m1, b2i_f, if_pos rfl]
    split <;> rfl
  | succ k ih =>
    intro i t fu A hf hi ht hx h5
    obtain ⟨fu, rfl⟩ : ∃ m, fu = m + 1 := ⟨fu - 1, by omega⟩
    show m_X1_readNumber_B7 (m_X1_readNumber_L7 fu) (nI t) A = _
    rw [m_X1_readNumber_B7, if_neg (show ¬ (160 : Int32) ≤ nI t from nI_ge (b := 160) (by omega) (by omega)), h5, x1_by hb hx (by omega), bd_s, x1_dg, bd_s]
    by_cases hp : dgB (B i) = true
    · have q := (ad_le (p := dgB) (B := B) k (i + 1)).1
      rw [hp, b2i_t, if_neg one_ne0, h5, x1_by hb hx (by omega), bd_s, lt1_d, up_j (show (5 : Nat) ≠ 6 by decide), lt1_d, lt1_d, h5, nI_1, nI_1, ih (i + 1) (t + 1) fu _ (by omega) (by omega) (by omega) (BX_up (BX_up hx (by decide)) (by decide)) up_s, up_j (show (6 : Nat) ≠ 5 by decide), up_s, ad_t hp, up_4 (by decide), show ad dgB B k (i + 1) - i = (ad dgB B k (i + 1) - (i + 1)) + 1 by omega]
      rfl
    · have e : up (up A 5 6 (dvl B (ad dgB B (k + 1) i - i) i (A 5 6))) 5 5 (nI (ad dgB B (k + 1) i)) = A := by
        rw [ad_f hp, Nat.sub_self, ← h5]
        show up (up A 5 6 (A 5 6)) 5 5 (A 5 5) = A
        rw [up_self, up_self]
      rw [show dgB (B i) = false from Bool.eq_false_iff.mpr hp, b2i_f, if_pos rfl, e]
/-! words -/
def wrd (B : Nat → Int32) (s x : Nat) : List Int32 := (List.range' s (x - s)).map B
def WW (w : Nat) : List Int32 := sByts.getD w []
def wtk (l : List Int32) : Nat → Nat → Int32 → Int32
  | 0, _, a => a
  | k + 1, i, a => wtk l k (i + 1) (if l = WW i then 256 + nI i else a)
theorem wrd_len (B : Nat → Int32) (s x : Nat) : (wrd B s x).length = x - s := by simp [wrd]
theorem wrd_get {B : Nat → Int32} {s x j : Nat} (h : j < x - s) : (wrd B s x).getD j 0 = B (s + j) := by
  simp [wrd, List.getD, h]
theorem ls_eq {l W : List Int32} (h : l.length = W.length) : l = W ↔ ∀ j, j < W.length → W.getD j 0 = l.getD j 0 := by
  refine ⟨fun e j _ => by rw [e], fun e => ?_⟩
  apply List.ext_getElem h
  intro j h1 h2
  have := e j h2
  simp only [List.getD, List.getElem?_eq_getElem h1, List.getElem?_eq_getElem h2, Option.getD_some] at this
  exact this.symm
theorem len_ok : ∀ w, w < 13 → shr (Int32.ofNat (slen (1000 + w))) 0 = nI (WW w).length := by decide +kernel
theorem x1_len {w : Nat} {M : Mm} (hw : w < 13) : m_J0_length_8abf5 (1000 + w) M = some (nI (WW w).length, M) := by
  rw [← len_ok w hw]
  rfl
theorem ch_key : ∀ w, w < 13 → ∀ i, i < (WW w).length → (¬ nI i < 0) ∧ (nI i < Int32.ofNat (slen (1000 + w))) ∧ inr (nI i) (slen (1000 + w)) = true ∧ decide (((((((sbyt (1000 + w) (nI i).toNatClampNeg) &&& (255 : Int32))).toUInt32 % 65536).toInt32).toUInt32 % 65536).toInt32 = ((((sbyt (1000 + w) (nI i).toNatClampNeg) &&& (255 : Int32))).toUInt32 % 65536).toInt32) = true ∧ ((((sbyt (1000 + w) (nI i).toNatClampNeg) &&& (255 : Int32))).toUInt32 % 65536).toInt32 = (WW w).getD i 0 ∧ decide (((((WW w).getD i 0)).toUInt32 % 65536).toInt32 = (WW w).getD i 0) = true := by decide +kernel
theorem x1_chr {w i : Nat} {M : Mm} (hw : w < 13) (hi : i < (WW w).length) : m_J0_charAt_5068e (1000 + w) (nI i) M = some ((WW w).getD i 0, M) := by
  obtain ⟨k1, k2, k3, k4, k5, k6⟩ := ch_key w hw i hi
  unfold m_J0_charAt_5068e m_J0_isLatin1_aae02 m_J1_charAt_3b067 m_J0_checkIndex_df160 m_J3_checkIndex_8e157
  rw [if_neg one_ne0, if_pos (rfl : (0 : Int32) = 0), bd_s, if_neg one_ne0, if_neg k1, if_pos k2, bd_s, bd_s, k3, gd_t, k4, gd_t, k5, bd_s, k6, gd_t]
theorem WW_len : ∀ w, w < 13 → (WW w).length ≤ 35 := by decide +kernel
def eqA (W : List Int32) (B : Nat → Int32) (s : Nat) : Nat → Nat → Bool
  | 0, _ => true
  | k + 1, i => if W.getD i 0 = B (s + i) then eqA W B s k (i + 1) else false
theorem eqA_is {W : List Int32} {B : Nat → Int32} {s : Nat} : ∀ (k i : Nat), eqA W B s k i = true ↔ ∀ j, i ≤ j → j < i + k → W.getD j 0 = B (s + j) := by
  intro k
  induction k with
  | zero => intro i; exact ⟨fun _ j h1 h2 => by omega, fun _ => rfl⟩
  | succ k ih =>
    intro i
    unfold eqA
    by_cases e : W.getD i 0 = B (s + i)
    · rw [if_pos e, ih (i + 1)]
      refine ⟨fun h j h1 h2 => ?_, fun h j h1 h2 => h j (by omega) (by omega)⟩
      by_cases q : j = i
      · subst q; exact e
      · exact h j (by omega) (by omega)
    · rw [if_neg e]
      exact ⟨fun h => absurd h (by decide), fun h => absurd (h i (Nat.le_refl i) (by omega)) e⟩
theorem x1_st_L {A : Mm} {B : Nat → Int32} {n s w : Nat} (hb : BB B n) (hx : BX A B n) (h4 : A 5 4 = nI s) (hs : s ≤ n) (hw : w < 13) : ∀ (k i fu : Nat), k < fu → i + k = (WW w).length → m_X1_stands_L20 (1000 + w) fu (nI i) A = some (b2i (eqA (WW w) B s k i), A) := by
  have n160 := hb.1
  have hl := WW_len w hw
  intro k
  induction k with
  | zero =>
    intro i fu hf hi
    obtain ⟨fu, rfl⟩ : ∃ m, fu = m + 1 := ⟨fu - 1, by omega⟩
    show m_X1_stands_B20 (1000 + w) (m_X1_stands_L20 (1000 + w) fu) (nI i) A = _
    rw [m_X1_stands_B20, x1_len hw, bd_s, if_pos (nI_le (by omega) (by omega))]
    rfl
  | succ k ih =>
    intro i fu hf hi
    obtain ⟨fu, rfl⟩ : ∃ m, fu = m + 1 := ⟨fu - 1, by omega⟩
    show m_X1_stands_B20 (1000 + w) (m_X1_stands_L20 (1000 + w) fu) (nI i) A = _
    rw [m_X1_stands_B20, x1_len hw, bd_s, if_neg (nI_ge (by omega) (by omega)), x1_chr hw (by omega), bd_s, h4, nI_add, x1_by hb hx (by omega), bd_s]
    unfold eqA
    by_cases e : (WW w).getD i 0 = B (s + i)
    · rw [if_pos e, if_pos e, lt1_d, nI_1, ih (i + 1) fu (by omega) (by omega)]
    · rw [if_neg e, if_neg e]
      rfl
theorem x1_st {A : Mm} {B : Nat → Int32} {n s x w : Nat} (hb : BB B n) (hx : BX A B n) (h4 : A 5 4 = nI s) (h5 : A 5 5 = nI x) (hs : s ≤ x) (hn : x ≤ n) (hw : w < 13) : m_X1_stands (1000 + w) A = some (b2i (decide (wrd B s x = WW w)), A) := by
  have n160 := hb.1
  have hl := WW_len w hw
  unfold m_X1_stands
  rw [x1_len hw, bd_s, h4, h5, pk_sub hs]
  by_cases e : (WW w).length = x - s
  · have q := ls_eq (l := wrd B s x) (W := WW w) (by rw [wrd_len, e])
    have q2 : (eqA (WW w) B s (WW w).length 0 = true) ↔ wrd B s x = WW w := by
      rw [q, eqA_is]
      refine ⟨fun h j h1 => ?_, fun h j _ h1 => ?_⟩
      · rw [wrd_get (by omega)]; exact h j (by omega) (by omega)
      · have := h j (by omega)
        rw [wrd_get (by omega)] at this
        exact this
    have q3 : eqA (WW w) B s (WW w).length 0 = decide (wrd B s x = WW w) := by
      by_cases z : wrd B s x = WW w
      · rw [decide_eq_true z, q2.mpr z]
      · rw [decide_eq_false z]
        exact Bool.eq_false_iff.mpr (fun h => z (q2.mp h))
    have q4 := x1_st_L hb hx h4 (by omega) hw (WW w).length 0 FU (by unfold FU; omega) (by omega)
    rw [nI_0, q3] at q4
    rw [if_pos (congrArg nI e), lt1_d, q4]
  · rw [if_neg (fun q => e ((nI_eq (by omega) (by omega)).mp q)), decide_eq_false (fun q => e (by rw [← q, wrd_len]))]
    rfl
theorem x1_word : ∀ i, i < 12 → ∀ (A : Mm), m_X1_word (nI i) A = some (some (1000 + i), A) := by
  intro i hi A
  unfold m_X1_word
  rcases (show i = 0 ∨ i = 1 ∨ i = 2 ∨ i = 3 ∨ i = 4 ∨ i = 5 ∨ i = 6 ∨ i = 7 ∨ i = 8 ∨ i = 9 ∨ i = 10 ∨ i = 11 by omega) with rfl | rfl | rfl | rfl | rfl | rfl | rfl | rfl | rfl | rfl | rfl | rfl
  · rw [if_pos (show nI 0 = (0 : Int32) by decide)]
  · rw [if_neg (show ¬ nI 1 = (0 : Int32) by decide), if_pos (show nI 1 = (1 : Int32) by decide)]
  · rw [if_neg (show ¬ nI 2 = (0 : Int32) by decide), if_neg (show ¬ nI 2 = (1 : Int32) by decide), if_pos (show nI 2 = (2 : Int32) by decide)]
  · rw [if_neg (show ¬ nI 3 = (0 : Int32) by decide), if_neg (show ¬ nI 3 = (1 : Int32) by decide), if_neg (show ¬ nI 3 = (2 : Int32) by decide), if_pos (show nI 3 = (3 : Int32) by decide)]
  · rw [if_neg (show ¬ nI 4 = (0 : Int32) by decide), if_neg (show ¬ nI 4 = (1 : Int32) by decide), if_neg (show ¬ nI 4 = (2 : Int32) by decide), if_neg (show ¬ nI 4 = (3 : Int32) by decide), if_pos (show nI 4 = (4 : Int32) by decide)]
  · rw [if_neg (show ¬ nI 5 = (0 : Int32) by decide), if_neg (show ¬ nI 5 = (1 : Int32) by decide), if_neg (show ¬ nI 5 = (2 : Int32) by decide), if_neg (show ¬ nI 5 = (3 : Int32) by decide), if_neg (show ¬ nI 5 = (4 : Int32) by decide), if_pos (show nI 5 = (5 : Int32) by decide)]
  · rw [if_neg (show ¬ nI 6 = (0 : Int32) by decide), if_neg (show ¬ nI 6 = (1 : Int32) by decide), if_neg (show ¬ nI 6 = (2 : Int32) by decide), if_neg (show ¬ nI 6 = (3 : Int32) by decide), if_neg (show ¬ nI 6 = (4 : Int32) by decide), if_neg (show ¬ nI 6 = (5 : Int32) by decide), if_pos (show nI 6 = (6 : Int32) by decide)]
  · rw [if_neg (show ¬ nI 7 = (0 : Int32) by decide), if_neg (show ¬ nI 7 = (1 : Int32) by decide), if_neg (show ¬ nI 7 = (2 : Int32) by decide), if_neg (show ¬ nI 7 = (3 : Int32) by decide), if_neg (show ¬ nI 7 = (4 : Int32) by decide), if_neg (show ¬ nI 7 = (5 : Int32) by decide), if_neg (show ¬ nI 7 = (6 : Int32) by decide), if_pos (show nI 7 = (7 : Int32) by decide)]
  · rw [if_neg (show ¬ nI 8 = (0 : Int32) by decide), if_neg (show ¬ nI 8 = (1 : Int32) by decide), if_neg (show ¬ nI 8 = (2 : Int32) by decide), if_neg (show ¬ nI 8 = (3 : Int32) by decide), if_neg (show ¬ nI 8 = (4 : Int32) by decide), if_neg (show ¬ nI 8 = (5 : Int32) by decide), if_neg (show ¬ nI 8 = (6 : Int32) by decide), if_neg (show ¬ nI 8 = (7 : Int32) by decide), if_pos (show nI 8 = (8 : Int32) by decide)]
  · rw [if_neg (show ¬ nI 9 = (0 : Int32) by decide), if_neg (show ¬ nI 9 = (1 : Int32) by decide), if_neg (show ¬ nI 9 = (2 : Int32) by decide), if_neg (show ¬ nI 9 = (3 : Int32) by decide), if_neg (show ¬ nI 9 = (4 : Int32) by decide), if_neg (show ¬ nI 9 = (5 : Int32) by decide), if_neg (show ¬ nI 9 = (6 : Int32) by decide), if_neg (show ¬ nI 9 = (7 : Int32) by decide), if_neg (show ¬ nI 9 = (8 : Int32) by decide), if_pos (show nI 9 = (9 : Int32) by decide)]
  · rw [if_neg (show ¬ nI 10 = (0 : Int32) by decide), if_neg (show ¬ nI 10 = (1 : Int32) by decide), if_neg (show ¬ nI 10 = (2 : Int32) by decide), if_neg (show ¬ nI 10 = (3 : Int32) by decide), if_neg (show ¬ nI 10 = (4 : Int32) by decide), if_neg (show ¬ nI 10 = (5 : Int32) by decide), if_neg (show ¬ nI 10 = (6 : Int32) by decide), if_neg (show ¬ nI 10 = (7 : Int32) by decide), if_neg (show ¬ nI 10 = (8 : Int32) by decide), if_neg (show ¬ nI 10 = (9 : Int32) by decide), if_pos (show nI 10 = (10 : Int32) by decide)]
  · rw [if_neg (show ¬ nI 11 = (0 : Int32) by decide), if_neg (show ¬ nI 11 = (1 : Int32) by decide), if_neg (show ¬ nI 11 = (2 : Int32) by decide), if_neg (show ¬ nI 11 = (3 : Int32) by decide), if_neg (show ¬ nI 11 = (4 : Int32) by decide), if_neg (show ¬ nI 11 = (5 : Int32) by decide), if_neg (show ¬ nI 11 = (6 : Int32) by decide), if_neg (show ¬ nI 11 = (7 : Int32) by decide), if_neg (show ¬ nI 11 = (8 : Int32) by decide), if_neg (show ¬ nI 11 = (9 : Int32) by decide), if_neg (show ¬ nI 11 = (10 : Int32) by decide)]
theorem isS : ∀ i, i < 12 → isStr (1000 + i) = true := by decide
theorem x1_46 {B : Nat → Int32} {n s x : Nat} (hb : BB B n) (hs : s ≤ x) (hn : x ≤ n) : ∀ (k i fu : Nat) (A : Mm), k < fu → i + k = 12 → BX A B n → A 5 4 = nI s → A 5 5 = nI x → m_X1_readWord_L46 fu (nI i) A = some ((), up A 5 3 (wtk (wrd B s x) k i (A 5 3))) := by
  intro k
  induction k with
  | zero =>
    intro i fu A hf hi hx h4 h5
    obtain ⟨fu, rfl⟩ : ∃ m, fu = m + 1 := ⟨fu - 1, by omega⟩
    show m_X1_readWord_B46 (m_X1_readWord_L46 fu) (nI i) A = _
    rw [m_X1_readWord_B46, if_pos (show (12 : Int32) ≤ nI i from nI_le (a := 12) (by omega) (by omega))]
    show some ((), A) = some ((), up A 5 3 (A 5 3))
    rw [up_self]
  | succ k ih =>
    intro i fu A hf hi hx h4 h5
    obtain ⟨fu, rfl⟩ : ∃ m, fu = m + 1 := ⟨fu - 1, by omega⟩
    show m_X1_readWord_B46 (m_X1_readWord_L46 fu) (nI i) A = some ((), up A 5 3 (wtk (wrd B s x) k (i + 1) (if wrd B s x = WW i then 256 + nI i else A 5 3)))
    rw [m_X1_readWord_B46, if_neg (show ¬ (12 : Int32) ≤ nI i from nI_ge (b := 12) (by omega) (by omega)), x1_word i (by omega), bd_s, rcase, isS i (by omega), gd_t, x1_st hb hx h4 h5 hs hn (by omega), bd_s]
    by_cases e : wrd B s x = WW i
    · rw [decide_eq_true e, b2i_t, if_neg one_ne0, if_pos e, lt1_d, m_X1_readWord_J72, lt1_d, nI_1, ih (i + 1) fu _ (by omega) (by omega) (BX_up hx (by decide)) (by rw [up_j (by decide)]; exact h4) (by rw [up_j (by decide)]; exact h5), up_s, up_up]
    · rw [decide_eq_false e, b2i_f, if_pos rfl, if_neg e, m_X1_readWord_J72, lt1_d, nI_1, ih (i + 1) fu _ (by omega) (by omega) hx h4 h5]
