/-! the reference: what was told, read back -/
theorem x5_tls_L {st N l p T srt ce sl i0 j0 lim : Nat} {tx : Tx} {it : Nat → Int32} {s : Vs} {x4 bf : Int32} (hs : st < 4) (hN : N ≤ 40) (hw : WF T s) (hl : l < vL s) (hlay : ∀ (x : Int32) (R : Mm), m_X5_lays (nI srt) (nI p) x R = some ((), up R ce sl x)) (hup : ∀ (x : Int32) (R : Mm), (∃ y, nm R = up s i0 j0 y) → nm (up R ce sl x) = up s i0 j0 x) (hrk : ∀ (x : Int32) (R : Mm), RK R (up R ce sl x)) (hv : ∀ v, v < lim → WF T (up s i0 j0 (nI v)) ∧ vL (up s i0 j0 (nI v)) = vL s) (hlim : lim ≤ 100) : ∀ (q n c : Nat) (a z : Int32) (R : Mm), q < n → q ≤ lim → TXm R T tx → (∃ y, nm R = up s i0 j0 y) → R 14 st = nI N → (∀ j, j < N → R 15 (40 * st + j) = it j) → ∃ R', m_X5_tells_L205 n (nI st) (nI l) (nI p) x4 (nI srt) bf a (nI c) z (nI q - 1) R = some (if x4 = 3 then nI (cntD (okS tx l N it (fun x => up s i0 j0 x)) q c) else if x4 = 4 then lstD (okS tx l N it (fun x => up s i0 j0 x)) q z else setD (okS tx l N it (fun x => up s i0 j0 x)) q a, R') ∧ nm R' = up s i0 j0 bf ∧ RK R R' := by
  intro q
  induction q with
  | zero =>
    intro n c a z R hn hq hx hR z1 hit
    obtain ⟨n, rfl⟩ : ∃ m, n = m + 1 := ⟨n - 1, by omega⟩
    show ∃ R', m_X5_tells_B205 (m_X5_tells_L205 n) (nI st) (nI l) (nI p) x4 (nI srt) bf a (nI c) z (nI 0 - 1) R = _ ∧ _
    rw [m_X5_tells_B205, if_pos (by decide), hlay, bd_s]
    refine ⟨up R ce sl bf, ?_, hup bf R hR, hrk bf R⟩
    by_cases e3 : x4 = 3
    · rw [if_pos e3, if_pos e3]; rfl
    · rw [if_neg e3, if_neg e3]
      by_cases e4 : x4 = 4
      · rw [if_pos e4, if_pos e4]; rfl
      · rw [if_neg e4, if_neg e4]; rfl
  | succ q ih =>
    intro n c a z R hn hq hx hR z1 hit
    obtain ⟨n, rfl⟩ : ∃ m, n = m + 1 := ⟨n - 1, by omega⟩
    have em : nI q + (-1) = nI q - 1 := (Int32.sub_eq_add_neg _ _).symm
    obtain ⟨wv, lv⟩ := hv q (by omega)
    have rk1 := hrk (nI q) R
    have n1 := hup (nI q) R hR
    obtain ⟨R2, b1, b2⟩ := x5_first (R := up R ce sl (nI q)) (s := st) (N := N) (l := l) (T := T) (tx := tx) (it := it) hs hN (rk1.tx hx) n1 wv (by rw [lv]; exact hl) (by rw [rk1.1 14 (by omega)]; exact z1) (fun j hj => by rw [rk1.1 15 (by omega)]; exact hit j hj)
    have rk2 : RK R R2 := rk1.tr b2.rk
    have n2 : nm R2 = up s i0 j0 (nI q) := by rw [b2.nme (by rw [n1]; exact wv), n1]
    show ∃ R', m_X5_tells_B205 (m_X5_tells_L205 n) (nI st) (nI l) (nI p) x4 (nI srt) bf a (nI c) z (nI (q + 1) - 1) R = _ ∧ _
    rw [m_X5_tells_B205, nI_pred, if_neg (nI_pos (by omega)), hlay, bd_s, b1, bd_s]
    unfold m_X5_tells_J246 m_X5_tells_J256 cntD lstD setD
    by_cases e : dfS tx l it N 0 (up s i0 j0 (nI q)) = -1
    · have ok : okS tx l N it (fun x => up s i0 j0 x) q = true := okS_t.mpr e
      have hset : (if (10 : Int32) ≤ nI q then a ||| 0 else a ||| shl 1 (nI q)) = a ||| (if q < 10 then shl 1 (nI q) else 0) := by
        by_cases h10 : q < 10
        · rw [if_neg (show ¬ (10 : Int32) ≤ nI q from nI_ge (b := 10) (by omega) (by omega)), if_pos h10]
        · rw [if_pos (show (10 : Int32) ≤ nI q from nI_le (a := 10) (by omega) (by omega)), if_neg h10]
      rw [if_pos e, if_pos ok, if_pos ok, if_pos ok, ← hset]
      by_cases h10 : (10 : Int32) ≤ nI q
      · rw [if_pos h10, if_pos h10, lt1_d, lt1_d, lt1_d, lt1_d, nI_1, em]
        obtain ⟨R', c1, c2, c3⟩ := ih n (c + 1) (a ||| 0) (nI q) R2 (by omega) (by omega) (rk2.tx hx) ⟨_, n2⟩ (by rw [rk2.1 14 (by omega)]; exact z1) (fun j hj => by rw [rk2.1 15 (by omega)]; exact hit j hj)
        exact ⟨R', c1, c2, rk2.tr c3⟩
      · rw [if_neg h10, if_neg h10, lt1_d, lt1_d, lt1_d, lt1_d, nI_1, em]
        obtain ⟨R', c1, c2, c3⟩ := ih n (c + 1) (a ||| shl 1 (nI q)) (nI q) R2 (by omega) (by omega) (rk2.tx hx) ⟨_, n2⟩ (by rw [rk2.1 14 (by omega)]; exact z1) (fun j hj => by rw [rk2.1 15 (by omega)]; exact hit j hj)
        exact ⟨R', c1, c2, rk2.tr c3⟩
    · have ok : ¬ okS tx l N it (fun x => up s i0 j0 x) q = true := fun z => e (okS_t.mp z)
      rw [if_neg e, if_neg ok, if_neg ok, if_neg ok, lt1_d, em]
      obtain ⟨R', c1, c2, c3⟩ := ih n c a z R2 (by omega) (by omega) (rk2.tx hx) ⟨_, n2⟩ (by rw [rk2.1 14 (by omega)]; exact z1) (fun j hj => by rw [rk2.1 15 (by omega)]; exact hit j hj)
      exact ⟨R', c1, c2, rk2.tr c3⟩
/-- letters -/
theorem like_L {T st N : Nat} {tx : Tx} {it : Nat → Int32} (hs : st < 4) (hN : N ≤ 40) : ∀ (k i fx fm : Nat) (a : Int32) (A R : Mm), k < fx → k < fm → i + k = vL (nm R) → Rest T tx A R → RelV T A R → R 14 st = nI N → A (36 + 2 * st) 1 = nI N → (∀ j, j < N → A (36 + 2 * st + 1) j = it j) → (∀ j, j < N → R 15 (40 * st + j) = it j) → Ans (m_X4_lettersSo_L4 (36 + 2 * st) fx a (nI i) A) (m_X5_likeSet_L4 fm (nI st) a (nI i) R) := by
  intro k
  induction k with
  | zero =>
    intro i fx fm a A R h1 h2 hi hR hV z0 z1 ia ir
    obtain ⟨fx, rfl⟩ : ∃ m, fx = m + 1 := ⟨fx - 1, by omega⟩
    obtain ⟨fm, rfl⟩ : ∃ m, fm = m + 1 := ⟨fm - 1, by omega⟩
    have h8 := hV.cm.2.2.2
    show Ans (m_X4_lettersSo_B4 (36 + 2 * st) (m_X4_lettersSo_L4 (36 + 2 * st) fx) a (nI i) A) (m_X5_likeSet_B4 (m_X5_likeSet_L4 fm) (nI st) a (nI i) R)
    rw [m_X4_lettersSo_B4, m_X5_likeSet_B4, hV.cx.2.2.1, hV.cm.2.2.1, if_pos (nI_le (by omega) (by omega)), if_pos (nI_le (by omega) (by omega))]
    exact ⟨_, _, _, rfl, rfl, T, tx, hR, hV⟩
  | succ k ih =>
    intro i fx fm a A R h1 h2 hi hR hV z0 z1 ia ir
    obtain ⟨fx, rfl⟩ : ∃ m, fx = m + 1 := ⟨fx - 1, by omega⟩
    obtain ⟨fm, rfl⟩ : ∃ m, fm = m + 1 := ⟨fm - 1, by omega⟩
    obtain ⟨v1, v2, v3⟩ := id hV
    have hw : WF T (nx A 7) := by rw [v1]; exact v2
    have h8 := hV.cm.2.2.2
    obtain ⟨A1, a1, a2, a3⟩ := x3_take (M := A) (v := 16) (w := 7) (by omega) (by omega) hw
    rw [v1, keep0 v3.1] at a2
    obtain ⟨A2, b1, b2⟩ := x3_first (A := A1) (s := st) (N := N) (l := i) (T := T) (tx := tx) (it := it) hN (FV.tx (by omega) hR.1.1 a3) a2 v2 (by omega) (by rw [a3.1 _ (by omega) (by omega) (by omega)]; exact z1) (fun j hj => by rw [a3.1 _ (by omega) (by omega) (by omega)]; exact ia j hj)
    obtain ⟨R2, c1, c2⟩ := x5_first (R := R) (s := st) (N := N) (l := i) (T := T) (tx := tx) (it := it) hs hN hR.1.2 rfl v2 (by omega) z0 ir
    have fv : FV 16 A A2 := a3.tr b2
    have nr : nm R2 = nm R := c2.nme v2
    have go : ∀ a, Ans (m_X4_lettersSo_L4 (36 + 2 * st) fx a (nI (i + 1)) A2) (m_X5_likeSet_L4 fm (nI st) a (nI (i + 1)) R2) := fun a =>
      ih (i + 1) fx fm a A2 R2 (by omega) (by omega) (by rw [nr]; omega) (hR.keep (fv.xk (Or.inr rfl)) c2.rk) (hV.thought fv c2) (by rw [c2.rk.1 14 (by omega)]; exact z0) (by rw [fv.1 _ (by omega) (by omega) (by omega)]; exact z1) (fun j hj => by rw [fv.1 _ (by omega) (by omega) (by omega)]; exact ia j hj) (fun j hj => by rw [c2.rk.1 15 (by omega)]; exact ir j hj)
    show Ans (m_X4_lettersSo_B4 (36 + 2 * st) (m_X4_lettersSo_L4 (36 + 2 * st) fx) a (nI i) A) (m_X5_likeSet_B4 (m_X5_likeSet_L4 fm) (nI st) a (nI i) R)
    rw [m_X4_lettersSo_B4, m_X5_likeSet_B4, hV.cx.2.2.1, hV.cm.2.2.1, if_neg (nI_ge (by omega) (by omega)), if_neg (nI_ge (by omega) (by omega)), a1, bd_s, b1, bd_s, c1, bd_s]
    unfold m_X4_lettersSo_J45 m_X5_likeSet_J28
    by_cases e : dfS tx i it N 0 (nm R) = -1
    · rw [if_pos e, if_pos e, lt1_d, lt1_d, lt1_d, lt1_d, nI_1]
      exact go _
    · rw [if_neg e, if_neg e, lt1_d, lt1_d, lt1_d, nI_1, shl_0 i (by omega), or_0]
      exact go _
theorem told5_4 {p P L : Nat} {M : Mm} (cm : MV M P L) (hp : p < P) : m_X5_told (nI p) (nI 4) M = some (nm M 1 p, M) := by
  have h5 := cm.2.1
  unfold m_X5_told m_X5_isOf m_X5_isOf_J35
  rw [x5_in_in (n := 10) (b := 10) (by decide) (by omega) (by omega), bd_s, if_neg one_ne0]
  repeat (first | rw [if_pos (by decide)] | rw [if_neg (by decide)])
  rw [x5_one_in cm hp, bd_s, if_neg one_ne0, bd_s, if_neg one_ne0]
  repeat (first | rw [if_pos (by decide)] | rw [if_neg (by decide)])
  rw [pl3, show nI (3 * p) + nI 4 - (3 : Int32) = nI (3 * p + 1) from nI_ads _ 4 _ 3 (by omega), inr_n (by omega) (by omega), gd_t, nI_clamp (by omega), (cm.r hp).1]
theorem told5_2 {p P L : Nat} {M : Mm} (cm : MV M P L) (hp : p < P) : m_X5_told (nI p) (nI 2) M = some (nm M 2 p, M) := by
  have h5 := cm.2.1
  unfold m_X5_told m_X5_isOf m_X5_isOf_J35
  rw [x5_in_in (n := 10) (b := 10) (by decide) (by omega) (by omega), bd_s, if_neg one_ne0]
  repeat (first | rw [if_pos (by decide)] | rw [if_neg (by decide)])
  rw [x5_one_in cm hp, bd_s, if_neg one_ne0, bd_s, if_neg one_ne0]
  repeat (first | rw [if_pos (by decide)] | rw [if_neg (by decide)])
  rw [pl3, inr_n (by omega) (by omega), gd_t, nI_clamp (by omega), (cm.r hp).2.1]
theorem told5_0 {x : Int32} {M : Mm} : m_X5_told x (nI 0) M = some (nm M 0 1, M) := by
  unfold m_X5_told m_X5_isOf m_X5_isOf_J35
  rw [x5_in_in (n := 10) (b := 10) (by decide) (by omega) (by omega), bd_s, if_neg one_ne0]
  repeat (first | rw [if_pos (by decide)] | rw [if_neg (by decide)])
  rw [bd_s, if_neg one_ne0]
  repeat (first | rw [if_pos (by decide)] | rw [if_neg (by decide)])
  rw [(nm_0 (M := M)).1]
theorem call_tells {Mx Mr : Mm} (h : Rel Mx Mr) (x y z u : Int32) : Ans (m_X4_tells x y z u Mx) (m_X5_tells x y z u Mr) := by
  obtain ⟨T, tx, hR, hV⟩ := id h
  obtain ⟨v1, v2, v3, hdd⟩ := id hV
  have cx := hV.cx
  have cm := hV.cm
  have h5 := cm.2.1
  have h8 := cm.2.2.2
  have hT := hR.1.1.2.1
  unfold m_X4_tells m_X5_tells
  rcases ix_cases x 4 (by omega) with q | ⟨st, s1, rfl⟩
  · rw [x4_sn_out q, x5_is_out q, bd_s, bd_s, rc_n, if_pos rfl]
    exact ⟨_, _, _, rfl, rfl, h⟩
  rw [(x4_sn_in s1).1, x5_is_in s1, bd_s, bd_s, rc_s, (x4_sn_in (M := Mx) s1).2, gd_t, if_neg one_ne0]
  rcases ix_cases y (vL (nm Mr)) (by omega) with q | ⟨l, l1, rfl⟩
  · rw [x3_let_out cx q, x5_let_out cm q, bd_s, bd_s, if_pos rfl, if_pos rfl]
    exact ⟨_, _, _, rfl, rfl, h⟩
  rw [x3_let_in cx l1, x5_let_in cm l1, bd_s, bd_s, if_neg one_ne0, if_neg one_ne0]
  rcases ix_cases z (vP (nm Mr)) (by omega) with q | ⟨p, p1, rfl⟩
  · rw [x3_one_out cx q, x5_one_out cm q, bd_s, bd_s, if_pos rfl, if_pos rfl]
    exact ⟨_, _, _, rfl, rfl, h⟩
  rw [x3_one_in cx p1, x5_one_in cm p1, bd_s, bd_s, if_neg one_ne0, if_neg one_ne0]
  rcases ix_cases u 7 (by omega) with q | ⟨w, w1, rfl⟩
  · rw [x5_in_out (n := 7) (b := 6) (by decide) (by omega) q, bd_s, if_pos rfl]
    rcases rg_out (n := 6) (by omega) q with q | ⟨q1, q2, q3⟩
    · rw [if_pos q]
      exact ⟨_, _, _, rfl, rfl, h⟩
    · rw [if_neg q1, if_neg (show ¬ u ≤ (6 : Int32) from q2)]
      exact ⟨_, _, _, rfl, rfl, h⟩
  have rn := rg_in (n := 6) w1 (by omega)
  rw [x5_in_in (n := 6) (b := 6) (by decide) (by omega) (by omega), bd_s, if_neg one_ne0, if_neg rn.1, if_pos (show nI w ≤ (6 : Int32) from rn.2.1), inr_n s1 (by omega), gd_t, nI_clamp (show st < 2 ^ 31 by omega)]
  rcases ShR.mi (hR.2.2.1 st s1) with ⟨a, b⟩ | ⟨a, b, ⟨k, k1, k2, k3⟩, N, n1, n2, n3, n4⟩
  · rw [b, bd_s, if_neg one_ne0, if_pos a]
    exact ⟨_, _, _, rfl, rfl, h⟩
  rw [b, bd_s, if_pos rfl, a, if_neg one_ne0, gd_t, n2, n3]
  by_cases e20 : nI N ≤ (20 : Int32)
  case neg =>
    rw [if_neg e20, if_neg e20]
    exact ⟨_, _, _, rfl, rfl, h⟩
  rw [if_pos e20, if_pos e20]
  have ia : ∀ j, j < N → Mx (36 + 2 * st + 1) j = Mr 15 (40 * st + j) := fun j hj => by rw [show 36 + 2 * st + 1 = 37 + 2 * st by omega]; exact n4 j hj
  have eF : ∀ k, k ≤ 200 → k < FU := fun k hk => by unfold FU; omega
  -- a loop of the reference, by what it changes
  have lp : ∀ (srt ce sl i0 j0 lim : Nat) (x4 : Int32), lim ≤ 100 → (∀ (x : Int32) (R : Mm), m_X5_lays (nI srt) (nI p) x R = some ((), up R ce sl x)) → (∀ (x : Int32) (R : Mm), (∃ y, nm R = up (nm Mr) i0 j0 y) → nm (up R ce sl x) = up (nm Mr) i0 j0 x) → (∀ (x : Int32) (R : Mm), RK R (up R ce sl x)) → (∀ v, v < lim → WF T (up (nm Mr) i0 j0 (nI v)) ∧ vL (up (nm Mr) i0 j0 (nI v)) = vL (nm Mr)) → ∃ R', m_X5_tells_L205 FU (nI st) (nI l) (nI p) x4 (nI srt) (nm Mr i0 j0) 0 0 (-1) (nI lim - 1) Mr = some (if x4 = 3 then nI (cntD (okS tx l N (fun j => Mr 15 (40 * st + j)) (fun x => up (nm Mr) i0 j0 x)) lim 0) else if x4 = 4 then lstD (okS tx l N (fun j => Mr 15 (40 * st + j)) (fun x => up (nm Mr) i0 j0 x)) lim (-1) else setD (okS tx l N (fun j => Mr 15 (40 * st + j)) (fun x => up (nm Mr) i0 j0 x)) lim 0, R') ∧ nm R' = nm Mr ∧ RK Mr R' := by
    intro srt ce sl i0 j0 lim x4 hlim hlay hup hrk hv
    obtain ⟨R', c1, c2, c3⟩ := x5_tls_L (T := T) (tx := tx) (st := st) (N := N) (l := l) (p := p) (it := fun j => Mr 15 (40 * st + j)) (x4 := x4) (bf := nm Mr i0 j0) s1 n1 v2 l1 hlay hup hrk hv hlim lim FU 0 0 (-1) Mr (eF lim (by omega)) (Nat.le_refl _) hR.1.2 ⟨nm Mr i0 j0, up_self.symm⟩ n2 (fun j hj => rfl)
    rw [nI_0] at c1
    rw [up_self] at c2
    exact ⟨R', c1, c2, c3⟩
  have dayv : ∀ v, v < 100 → WF T (up (nm Mr) 0 1 (nI v)) ∧ vL (up (nm Mr) 0 1 (nI v)) = vL (nm Mr) := fun v _ => ⟨v2.up0 (Or.inl rfl), vL_up0 (by decide)⟩
  have dup : ∀ (x : Int32) (R : Mm), (∃ y, nm R = up (nm Mr) 0 1 y) → nm (up R 0 7 x) = up (nm Mr) 0 1 x := fun x R ⟨y, hy⟩ => by rw [nm_up0 (r := 1) (by omega), hy, up_up]
  have fin : ∀ (A R : Mm), FV 16 Mx A → nm R = nm Mr → RK Mr R → Rel A R := fun A R f n r => ⟨T, tx, hR.keep (f.xk (Or.inr rfl)) r, hV.th2 f n⟩
  rcases (show w = 0 ∨ w = 1 ∨ w = 2 ∨ w = 3 ∨ w = 4 ∨ w = 5 ∨ w = 6 by omega) with rfl | rfl | rfl | rfl | rfl | rfl | rfl
  · repeat (first | rw [if_pos (by decide)] | rw [if_neg (by decide)])
    unfold m_X5_tells_J77
    repeat (first | rw [if_pos (by decide)] | rw [if_neg (by decide)])
    obtain ⟨A1, a1, a2, a3⟩ := x3_take (M := Mx) (v := 16) (w := 7) (T := T) (by omega) (by omega) (by rw [v1]; exact v2)
    rw [v1, keep0 v3] at a2
    obtain ⟨A2, b1, b2⟩ := x3_first (A := A1) (s := st) (N := N) (l := l) (T := T) (tx := tx) (it := fun j => Mr 15 (40 * st + j)) n1 (FV.tx (by omega) hR.1.1 a3) a2 v2 l1 (by rw [a3.1 _ (by omega) (by omega) (by omega)]; exact n3) (fun j hj => by rw [a3.1 _ (by omega) (by omega) (by omega)]; exact ia j hj)
    obtain ⟨R2, c1, c2⟩ := x5_first (R := Mr) (s := st) (N := N) (l := l) (T := T) (tx := tx) (it := fun j => Mr 15 (40 * st + j)) s1 n1 hR.1.2 rfl v2 l1 n2 (fun j hj => rfl)
    rw [a1, bd_s, b1, bd_s, c1, bd_s]
    exact ⟨_, _, _, rfl, rfl, fin _ _ (a3.tr b2) (c2.nme v2) c2.rk⟩
  · repeat (first | rw [if_pos (by decide)] | rw [if_neg (by decide)])
    unfold m_X5_tells_J128
    rw [lt1_d, if_neg (by decide)]
    unfold m_X5_tells_J150 m_X5_tells_J190
    have hv : ∀ v, v < 6 → WF T (up (nm Mr) 1 p (nI v)) ∧ vL (up (nm Mr) 1 p (nI v)) = vL (nm Mr) := fun v hv => ⟨v2.upn (Or.inl ⟨rfl, v, hv, rfl⟩), vL_up (by decide)⟩
    obtain ⟨A, a1, a2⟩ := x3_all_L (Mx := Mx) (st := st) (N := N) (l := l) (p := p) (c := 1) (lim := 6) (T := T) (tx := tx) (it := fun j => Mr 15 (40 * st + j)) (s := nm Mr) n1 hR.1.1 v1 v2 v3 l1 p1 (Or.inl rfl) (by omega) hv n3 ia 6 0 FU 0 Mx (eF _ (by omega)) (by omega) FV.rf
    obtain ⟨R, b1, b2, b3⟩ := lp 4 4 (3 * p + 1) 1 p 6 (nI 1) (by omega) (fun x R => lays_4 (by omega)) (fun x R ⟨y, hy⟩ => by
      have wy : MV R (vP (nm Mr)) (vL (nm Mr)) := by
        have e0 : ∀ j, nm R 0 j = nm Mr 0 j := fun j => by rw [hy, up_k (by decide)]
        have := cm
        unfold MV at this ⊢
        rw [← (nm_0 (M := R)).2.2.2.1, ← (nm_0 (M := R)).2.2.2.2.1, e0, e0, (nm_0 (M := Mr)).2.2.2.1, (nm_0 (M := Mr)).2.2.2.2.1]
        exact this
      rw [nm_upr (c := 1) (r := 1) wy p1 (by omega), hy, up_up]) (fun x R => RK.upr (Or.inl rfl)) hv
    rw [if_neg (by decide), if_neg (by decide)] at b1
    unfold m_X4_allSo
    rw [nI_0] at a1
    rw [lt1_d, lt1_d, show m_X4_allSo_L6 (36 + 2 * st) FU (nI l) (nI p) (nI 1) (6 : Int32) 0 0 Mx = _ from a1, bd_s, show m_X5_told (nI p) (4 : Int32) Mr = _ from told5_4 cm p1, bd_s, lt1_d, if_neg (by decide), if_pos rfl, lt1_d, lt1_d, lt1_d, lt1_d, lt1_d, show (5 : Int32) = nI 6 - 1 from by decide, show m_X5_tells_L205 FU (nI st) (nI l) (nI p) (nI 1) (4 : Int32) (nm Mr 1 p) 0 0 (-1) (nI 6 - 1) Mr = _ from b1, set_DA _ (by omega)]
    exact ⟨_, _, _, rfl, rfl, fin _ _ a2 b2 b3⟩
  · repeat (first | rw [if_pos (by decide)] | rw [if_neg (by decide)])
    unfold m_X5_tells_J128
    rw [lt1_d, if_neg (by decide)]
    unfold m_X5_tells_J150 m_X5_tells_J190
    have hv : ∀ v, v < 10 → WF T (up (nm Mr) 2 p (nI v)) ∧ vL (up (nm Mr) 2 p (nI v)) = vL (nm Mr) := fun v hv => ⟨v2.upn (Or.inr ⟨rfl, v, hv, rfl⟩), vL_up (by decide)⟩
    obtain ⟨A, a1, a2⟩ := x3_all_L (Mx := Mx) (st := st) (N := N) (l := l) (p := p) (c := 2) (lim := 10) (T := T) (tx := tx) (it := fun j => Mr 15 (40 * st + j)) (s := nm Mr) n1 hR.1.1 v1 v2 v3 l1 p1 (Or.inr (Or.inl rfl)) (by omega) hv n3 ia 10 0 FU 0 Mx (eF _ (by omega)) (by omega) FV.rf
    obtain ⟨R, b1, b2, b3⟩ := lp 2 4 (3 * p) 2 p 10 (nI 2) (by omega) (fun x R => lays_2 (by omega)) (fun x R ⟨y, hy⟩ => by
      have wy : MV R (vP (nm Mr)) (vL (nm Mr)) := by
        have e0 : ∀ j, nm R 0 j = nm Mr 0 j := fun j => by rw [hy, up_k (by decide)]
        have := cm
        unfold MV at this ⊢
        rw [← (nm_0 (M := R)).2.2.2.1, ← (nm_0 (M := R)).2.2.2.2.1, e0, e0, (nm_0 (M := Mr)).2.2.2.1, (nm_0 (M := Mr)).2.2.2.2.1]
        exact this
      have := nm_upr (M := R) (c := 0) (r := 2) (x := x) wy p1 (by omega)
      rw [Nat.add_zero] at this
      rw [this, hy, up_up]) (fun x R => RK.upr (Or.inl rfl)) hv
    rw [if_neg (by decide), if_neg (by decide)] at b1
    unfold m_X4_allSo
    rw [nI_0] at a1
    rw [lt1_d, lt1_d, show m_X4_allSo_L6 (36 + 2 * st) FU (nI l) (nI p) (nI 2) (10 : Int32) 0 0 Mx = _ from a1, bd_s, show m_X5_told (nI p) (2 : Int32) Mr = _ from told5_2 cm p1, bd_s, lt1_d, if_neg (by decide), if_neg (by decide), if_pos rfl, lt1_d, lt1_d, lt1_d, lt1_d, lt1_d, show (9 : Int32) = nI 10 - 1 from by decide, show m_X5_tells_L205 FU (nI st) (nI l) (nI p) (nI 2) (2 : Int32) (nm Mr 2 p) 0 0 (-1) (nI 10 - 1) Mr = _ from b1, set_DA _ (by omega)]
    exact ⟨_, _, _, rfl, rfl, fin _ _ a2 b2 b3⟩
  · repeat (first | rw [if_pos (by decide)] | rw [if_neg (by decide)])
    unfold m_X5_tells_J128
    rw [lt1_d, if_neg (by decide)]
    unfold m_X5_tells_J150 m_X5_tells_J190
    obtain ⟨A, a1, a2⟩ := x3_dys_L (Mx := Mx) (st := st) (N := N) (l := l) (le := 0) (T := T) (tx := tx) (it := fun j => Mr 15 (40 * st + j)) (s := nm Mr) n1 hR.1.1 v1 v2 v3 l1 (by omega) n3 ia 100 0 FU 0 Mx (eF _ (by omega)) (by omega) FV.rf
    obtain ⟨R, b1, b2, b3⟩ := lp 0 0 7 0 1 100 (nI 3) (by omega) (fun x R => lays_0) dup (fun x R => RK.up0 (by omega)) dayv
    rw [if_pos (by decide)] at b1
    rw [if_pos rfl, nI_0] at a1
    unfold m_X4_daysSo
    rw [lt1_d, lt1_d, a1, bd_s, show m_X5_told (nI p) (0 : Int32) Mr = _ from told5_0, bd_s, lt1_d, if_neg (by decide), if_neg (by decide), if_neg (by decide), lt1_d, lt1_d, lt1_d, lt1_d, lt1_d, show (99 : Int32) = nI 100 - 1 from by decide, show m_X5_tells_L205 FU (nI st) (nI l) (nI p) (nI 3) (0 : Int32) (nm Mr 0 1) 0 0 (-1) (nI 100 - 1) Mr = _ from b1, cnt_DS]
    exact ⟨_, _, _, rfl, rfl, fin _ _ a2 b2 b3⟩
  · repeat (first | rw [if_pos (by decide)] | rw [if_neg (by decide)])
    unfold m_X5_tells_J128
    rw [lt1_d, if_neg (by decide)]
    unfold m_X5_tells_J150 m_X5_tells_J190
    obtain ⟨A, a1, a2⟩ := x3_dys_L (Mx := Mx) (st := st) (N := N) (l := l) (le := 1) (T := T) (tx := tx) (it := fun j => Mr 15 (40 * st + j)) (s := nm Mr) n1 hR.1.1 v1 v2 v3 l1 (by omega) n3 ia 100 0 FU 0 Mx (eF _ (by omega)) (by omega) FV.rf
    obtain ⟨R, b1, b2, b3⟩ := lp 0 0 7 0 1 100 (nI 4) (by omega) (fun x R => lays_0) dup (fun x R => RK.up0 (by omega)) dayv
    rw [if_neg (by decide), if_pos (by decide)] at b1
    rw [if_neg (by decide), nI_0] at a1
    have e4 : lstD (okS tx l N (fun j => Mr 15 (40 * st + j)) (fun x => up (nm Mr) 0 1 x)) 100 (-1) = fstS (okS tx l N (fun j => Mr 15 (40 * st + j)) (fun x => up (nm Mr) 0 1 x)) 100 0 := lst_fst _ 100 0
    unfold m_X4_daysSo
    rw [lt1_d, lt1_d, show m_X4_daysSo_L6 (36 + 2 * st) FU (nI l) (1 : Int32) 0 0 Mx = _ from a1, bd_s, show m_X5_told (nI p) (0 : Int32) Mr = _ from told5_0, bd_s, lt1_d, if_neg (by decide), if_neg (by decide), if_neg (by decide), lt1_d, lt1_d, lt1_d, lt1_d, lt1_d, show (99 : Int32) = nI 100 - 1 from by decide, show m_X5_tells_L205 FU (nI st) (nI l) (nI p) (nI 4) (0 : Int32) (nm Mr 0 1) 0 0 (-1) (nI 100 - 1) Mr = _ from b1, e4]
    exact ⟨_, _, _, rfl, rfl, fin _ _ a2 b2 b3⟩
  · repeat (first | rw [if_pos (by decide)] | rw [if_neg (by decide)])
    unfold m_X5_tells_J128
    rw [lt1_d, if_pos (by decide)]
    unfold m_X5_tells_J150 m_X5_tells_J190
    have hv : ∀ v, v < T → WF T (up (nm Mr) 0 3 (nI v)) ∧ vL (up (nm Mr) 0 3 (nI v)) = vL (nm Mr) := fun v hv => ⟨v2.upz (Or.inr ⟨rfl, v, hv, rfl⟩), vL_up0 (by decide)⟩
    obtain ⟨A, a1, a2⟩ := x3_all_L (Mx := Mx) (st := st) (N := N) (l := l) (p := p) (c := 5) (lim := T) (T := T) (tx := tx) (it := fun j => Mr 15 (40 * st + j)) (s := nm Mr) n1 hR.1.1 v1 v2 v3 l1 p1 (Or.inr (Or.inr rfl)) (by omega) hv n3 ia T 0 FU 0 Mx (eF _ (by omega)) (by omega) FV.rf
    obtain ⟨R, b1, b2, b3⟩ := lp 5 0 4 0 3 T (nI 5) (by omega) (fun x R => lays_5) (fun x R ⟨y, hy⟩ => by rw [nm_up0 (r := 3) (by omega), hy, up_up]) (fun x R => RK.up0 (by omega)) hv
    rw [if_neg (by decide), if_neg (by decide)] at b1
    unfold m_X4_allSo
    rw [nI_0] at a1
    rw [hR.1.1.1, hR.1.2.1, lt1_d, lt1_d, a1, bd_s, lt1_d, if_pos rfl, lt1_d, lt1_d, lt1_d, lt1_d, lt1_d, ← (nm_0 (M := Mr)).2.2.1, show m_X5_tells_L205 FU (nI st) (nI l) (nI p) (nI 5) (5 : Int32) (nm Mr 0 3) 0 0 (-1) (nI T - 1) Mr = _ from b1, set_DA _ (by omega)]
    exact ⟨_, _, _, rfl, rfl, fin _ _ a2 b2 b3⟩
  · repeat (first | rw [if_pos (by decide)] | rw [if_neg (by decide)])
    unfold m_X5_tells_J77 m_X4_lettersSo m_X5_likeSet
    repeat (first | rw [if_pos (by decide)] | rw [if_neg (by decide)])
    rw [lt1_d, lt1_d, lt1_d, lt1_d]
    obtain ⟨r, A, R, b1, b2, b3⟩ := like_L (T := T) (tx := tx) (st := st) (N := N) (it := fun j => Mr 15 (40 * st + j)) s1 n1 (vL (nm Mr)) 0 FU FU 0 Mx Mr (eF _ (by omega)) (eF _ (by omega)) (by omega) hR hV n2 n3 ia (fun j hj => rfl)
    rw [nI_0] at b1 b2
    rw [b1, b2, bd_s, bd_s]
    exact ⟨_, _, _, rfl, rfl, b3⟩
