abbrev rgT (d : Nat) : Room := { frames := d + 7, cells := 0, slots := 0, locals := 48 * d + 151 }
theorem rgT_ok (d maxL : Nat) (h : maxL ≤ 29) : rmok (rgT d) (rgT (d + 1)) maxL := ⟨rfl, rfl, by show d + 7 + 1 ≤ d + 1 + 7; omega, by show 8 + (maxL + 11) + (48 * d + 151) ≤ 48 * (d + 1) + 151; omega⟩
theorem rgT_le {rc : Room} {maxL : Nat} (d : Nat) (h1 : rc.cells = 0) (h2 : rc.slots = 0) (h3 : rc.frames ≤ 7) (h4 : rc.locals + maxL ≤ 151) : rmok rc (rgT (d + 1)) maxL := ⟨h1, h2, by show rc.frames + 1 ≤ d + 1 + 7; omega, by show 8 + (maxL + 11) + rc.locals ≤ 48 * (d + 1) + 151; omega⟩
def m_X1_readOr_B7 (k_X1_readOr : Int32 → Mm → Option (Unit × Mm)) (k_X1_readAnd : Int32 → Mm → Option (Unit × Mm)) (k_X1_readNot : Int32 → Mm → Option (Unit × Mm)) (k_X1_readSum : Int32 → Mm → Option (Unit × Mm)) (k_X1_readTerm : Int32 → Mm → Option (Unit × Mm)) (k_X1_readOne : Int32 → Mm → Option (Unit × Mm)) (n7 : Int32 → Int32 → Mm → Option (Unit × Mm)) (x1 : Int32) (x2 : Int32) (M : Mm) : Option (Unit × Mm) := if (160 : Int32) ≤ x2 then (some ((), M)) else (if (M 5 3) = (265 : Int32) then (bd (m_X1_advance M) fun _ M1 => bd (k_X1_readAnd x1 M1) fun _ M2 => bd (m_X2_add ((-11 : Int32)) M2) fun _ M3 => lt1 (x2 + 1) fun y4 => n7 x1 y4 M3) else (some ((), M)))
def m_X1_readOr_L7 (k_X1_readOr : Int32 → Mm → Option (Unit × Mm)) (k_X1_readAnd : Int32 → Mm → Option (Unit × Mm)) (k_X1_readNot : Int32 → Mm → Option (Unit × Mm)) (k_X1_readSum : Int32 → Mm → Option (Unit × Mm)) (k_X1_readTerm : Int32 → Mm → Option (Unit × Mm)) (k_X1_readOne : Int32 → Mm → Option (Unit × Mm)) : Nat → Int32 → Int32 → Mm → Option (Unit × Mm)
  | 0 => fun _ _ _ => none
  | n + 1 => m_X1_readOr_B7  k_X1_readOr k_X1_readAnd k_X1_readNot k_X1_readSum k_X1_readTerm k_X1_readOne (m_X1_readOr_L7  k_X1_readOr k_X1_readAnd k_X1_readNot k_X1_readSum k_X1_readTerm k_X1_readOne n)
def mb_X1_readOr (k_X1_readOr : Int32 → Mm → Option (Unit × Mm)) (k_X1_readAnd : Int32 → Mm → Option (Unit × Mm)) (k_X1_readNot : Int32 → Mm → Option (Unit × Mm)) (k_X1_readSum : Int32 → Mm → Option (Unit × Mm)) (k_X1_readTerm : Int32 → Mm → Option (Unit × Mm)) (k_X1_readOne : Int32 → Mm → Option (Unit × Mm)) (x1 : Int32) (M : Mm) : Option (Unit × Mm) := bd (k_X1_readAnd x1 M) fun _ M5 => lt1 ((0 : Int32)) fun y6 => m_X1_readOr_L7 k_X1_readOr k_X1_readAnd k_X1_readNot k_X1_readSum k_X1_readTerm k_X1_readOne FU x1 y6 M5
def m_X1_readAnd_B7 (k_X1_readOr : Int32 → Mm → Option (Unit × Mm)) (k_X1_readAnd : Int32 → Mm → Option (Unit × Mm)) (k_X1_readNot : Int32 → Mm → Option (Unit × Mm)) (k_X1_readSum : Int32 → Mm → Option (Unit × Mm)) (k_X1_readTerm : Int32 → Mm → Option (Unit × Mm)) (k_X1_readOne : Int32 → Mm → Option (Unit × Mm)) (n7 : Int32 → Int32 → Mm → Option (Unit × Mm)) (x1 : Int32) (x2 : Int32) (M : Mm) : Option (Unit × Mm) := if (160 : Int32) ≤ x2 then (some ((), M)) else (if (M 5 3) = (266 : Int32) then (bd (m_X1_advance M) fun _ M1 => bd (k_X1_readNot x1 M1) fun _ M2 => bd (m_X2_add ((-12 : Int32)) M2) fun _ M3 => lt1 (x2 + 1) fun y4 => n7 x1 y4 M3) else (some ((), M)))
def m_X1_readAnd_L7 (k_X1_readOr : Int32 → Mm → Option (Unit × Mm)) (k_X1_readAnd : Int32 → Mm → Option (Unit × Mm)) (k_X1_readNot : Int32 → Mm → Option (Unit × Mm)) (k_X1_readSum : Int32 → Mm → Option (Unit × Mm)) (k_X1_readTerm : Int32 → Mm → Option (Unit × Mm)) (k_X1_readOne : Int32 → Mm → Option (Unit × Mm)) : Nat → Int32 → Int32 → Mm → Option (Unit × Mm)
  | 0 => fun _ _ _ => none
  | n + 1 => m_X1_readAnd_B7  k_X1_readOr k_X1_readAnd k_X1_readNot k_X1_readSum k_X1_readTerm k_X1_readOne (m_X1_readAnd_L7  k_X1_readOr k_X1_readAnd k_X1_readNot k_X1_readSum k_X1_readTerm k_X1_readOne n)
def mb_X1_readAnd (k_X1_readOr : Int32 → Mm → Option (Unit × Mm)) (k_X1_readAnd : Int32 → Mm → Option (Unit × Mm)) (k_X1_readNot : Int32 → Mm → Option (Unit × Mm)) (k_X1_readSum : Int32 → Mm → Option (Unit × Mm)) (k_X1_readTerm : Int32 → Mm → Option (Unit × Mm)) (k_X1_readOne : Int32 → Mm → Option (Unit × Mm)) (x1 : Int32) (M : Mm) : Option (Unit × Mm) := bd (k_X1_readNot x1 M) fun _ M5 => lt1 ((0 : Int32)) fun y6 => m_X1_readAnd_L7 k_X1_readOr k_X1_readAnd k_X1_readNot k_X1_readSum k_X1_readTerm k_X1_readOne FU x1 y6 M5
def m_X1_readNot_J74 (k_X1_readOr : Int32 → Mm → Option (Unit × Mm)) (k_X1_readAnd : Int32 → Mm → Option (Unit × Mm)) (k_X1_readNot : Int32 → Mm → Option (Unit × Mm)) (k_X1_readSum : Int32 → Mm → Option (Unit × Mm)) (k_X1_readTerm : Int32 → Mm → Option (Unit × Mm)) (k_X1_readOne : Int32 → Mm → Option (Unit × Mm)) (x1 : Int32) (s0 : Int32) (M : Mm) : Option (Unit × Mm) := lt1 s0 fun y1 => bd (m_X1_advance M) fun _ M2 => bd (k_X1_readSum x1 M2) fun _ M3 => bd (m_X2_add y1 M3) fun _ M4 => some ((), M4)
def m_X1_readNot_J58 (k_X1_readOr : Int32 → Mm → Option (Unit × Mm)) (k_X1_readAnd : Int32 → Mm → Option (Unit × Mm)) (k_X1_readNot : Int32 → Mm → Option (Unit × Mm)) (k_X1_readSum : Int32 → Mm → Option (Unit × Mm)) (k_X1_readTerm : Int32 → Mm → Option (Unit × Mm)) (k_X1_readOne : Int32 → Mm → Option (Unit × Mm)) (x1 : Int32) (M : Mm) : Option (Unit × Mm) := if (M 5 3) = (60 : Int32) then (m_X1_readNot_J74 k_X1_readOr k_X1_readAnd k_X1_readNot k_X1_readSum k_X1_readTerm k_X1_readOne x1 ((-13 : Int32)) M) else (m_X1_readNot_J74 k_X1_readOr k_X1_readAnd k_X1_readNot k_X1_readSum k_X1_readTerm k_X1_readOne x1 ((-14 : Int32)) M)
def mb_X1_readNot (k_X1_readOr : Int32 → Mm → Option (Unit × Mm)) (k_X1_readAnd : Int32 → Mm → Option (Unit × Mm)) (k_X1_readNot : Int32 → Mm → Option (Unit × Mm)) (k_X1_readSum : Int32 → Mm → Option (Unit × Mm)) (k_X1_readTerm : Int32 → Mm → Option (Unit × Mm)) (k_X1_readOne : Int32 → Mm → Option (Unit × Mm)) (x1 : Int32) (M : Mm) : Option (Unit × Mm) := if (M 5 3) = (267 : Int32) then (bd (m_X1_opens x1 M) fun r7 M6 => if r7 = 0 then (some ((), M6)) else (bd (k_X1_readNot ((x1 + (1 : Int32))) M6) fun _ M8 => bd (m_X2_add ((-21 : Int32)) M8) fun _ M9 => some ((), M9))) else (bd (k_X1_readSum x1 M) fun _ M5 => if (M5 5 3) = (60 : Int32) then (m_X1_readNot_J58 k_X1_readOr k_X1_readAnd k_X1_readNot k_X1_readSum k_X1_readTerm k_X1_readOne x1 M5) else (if (M5 5 3) = (61 : Int32) then (m_X1_readNot_J58 k_X1_readOr k_X1_readAnd k_X1_readNot k_X1_readSum k_X1_readTerm k_X1_readOne x1 M5) else (some ((), M5))))
def m_X1_readSum_J48 (k_X1_readOr : Int32 → Mm → Option (Unit × Mm)) (k_X1_readAnd : Int32 → Mm → Option (Unit × Mm)) (k_X1_readNot : Int32 → Mm → Option (Unit × Mm)) (k_X1_readSum : Int32 → Mm → Option (Unit × Mm)) (k_X1_readTerm : Int32 → Mm → Option (Unit × Mm)) (k_X1_readOne : Int32 → Mm → Option (Unit × Mm)) (n7 : Int32 → Int32 → Mm → Option (Unit × Mm)) (x1 : Int32) (x2 : Int32) (s0 : Int32) (M : Mm) : Option (Unit × Mm) := lt1 s0 fun y1 => bd (m_X1_advance M) fun _ M2 => bd (k_X1_readTerm x1 M2) fun _ M3 => bd (m_X2_add y1 M3) fun _ M4 => lt1 (x2 + 1) fun y5 => n7 x1 y5 M4
def m_X1_readSum_J32 (k_X1_readOr : Int32 → Mm → Option (Unit × Mm)) (k_X1_readAnd : Int32 → Mm → Option (Unit × Mm)) (k_X1_readNot : Int32 → Mm → Option (Unit × Mm)) (k_X1_readSum : Int32 → Mm → Option (Unit × Mm)) (k_X1_readTerm : Int32 → Mm → Option (Unit × Mm)) (k_X1_readOne : Int32 → Mm → Option (Unit × Mm)) (n7 : Int32 → Int32 → Mm → Option (Unit × Mm)) (x1 : Int32) (x2 : Int32) (M : Mm) : Option (Unit × Mm) := if (M 5 3) = (43 : Int32) then (m_X1_readSum_J48 k_X1_readOr k_X1_readAnd k_X1_readNot k_X1_readSum k_X1_readTerm k_X1_readOne n7 x1 x2 ((-15 : Int32)) M) else (m_X1_readSum_J48 k_X1_readOr k_X1_readAnd k_X1_readNot k_X1_readSum k_X1_readTerm k_X1_readOne n7 x1 x2 ((-16 : Int32)) M)
def m_X1_readSum_B7 (k_X1_readOr : Int32 → Mm → Option (Unit × Mm)) (k_X1_readAnd : Int32 → Mm → Option (Unit × Mm)) (k_X1_readNot : Int32 → Mm → Option (Unit × Mm)) (k_X1_readSum : Int32 → Mm → Option (Unit × Mm)) (k_X1_readTerm : Int32 → Mm → Option (Unit × Mm)) (k_X1_readOne : Int32 → Mm → Option (Unit × Mm)) (n7 : Int32 → Int32 → Mm → Option (Unit × Mm)) (x1 : Int32) (x2 : Int32) (M : Mm) : Option (Unit × Mm) := if (160 : Int32) ≤ x2 then (some ((), M)) else (if (M 5 3) = (43 : Int32) then (m_X1_readSum_J32 k_X1_readOr k_X1_readAnd k_X1_readNot k_X1_readSum k_X1_readTerm k_X1_readOne n7 x1 x2 M) else (if (M 5 3) = (45 : Int32) then (m_X1_readSum_J32 k_X1_readOr k_X1_readAnd k_X1_readNot k_X1_readSum k_X1_readTerm k_X1_readOne n7 x1 x2 M) else (some ((), M))))
def m_X1_readSum_L7 (k_X1_readOr : Int32 → Mm → Option (Unit × Mm)) (k_X1_readAnd : Int32 → Mm → Option (Unit × Mm)) (k_X1_readNot : Int32 → Mm → Option (Unit × Mm)) (k_X1_readSum : Int32 → Mm → Option (Unit × Mm)) (k_X1_readTerm : Int32 → Mm → Option (Unit × Mm)) (k_X1_readOne : Int32 → Mm → Option (Unit × Mm)) : Nat → Int32 → Int32 → Mm → Option (Unit × Mm)
  | 0 => fun _ _ _ => none
  | n + 1 => m_X1_readSum_B7  k_X1_readOr k_X1_readAnd k_X1_readNot k_X1_readSum k_X1_readTerm k_X1_readOne (m_X1_readSum_L7  k_X1_readOr k_X1_readAnd k_X1_readNot k_X1_readSum k_X1_readTerm k_X1_readOne n)
def mb_X1_readSum (k_X1_readOr : Int32 → Mm → Option (Unit × Mm)) (k_X1_readAnd : Int32 → Mm → Option (Unit × Mm)) (k_X1_readNot : Int32 → Mm → Option (Unit × Mm)) (k_X1_readSum : Int32 → Mm → Option (Unit × Mm)) (k_X1_readTerm : Int32 → Mm → Option (Unit × Mm)) (k_X1_readOne : Int32 → Mm → Option (Unit × Mm)) (x1 : Int32) (M : Mm) : Option (Unit × Mm) := bd (k_X1_readTerm x1 M) fun _ M6 => lt1 ((0 : Int32)) fun y7 => m_X1_readSum_L7 k_X1_readOr k_X1_readAnd k_X1_readNot k_X1_readSum k_X1_readTerm k_X1_readOne FU x1 y7 M6
def m_X1_readTerm_B7 (k_X1_readOr : Int32 → Mm → Option (Unit × Mm)) (k_X1_readAnd : Int32 → Mm → Option (Unit × Mm)) (k_X1_readNot : Int32 → Mm → Option (Unit × Mm)) (k_X1_readSum : Int32 → Mm → Option (Unit × Mm)) (k_X1_readTerm : Int32 → Mm → Option (Unit × Mm)) (k_X1_readOne : Int32 → Mm → Option (Unit × Mm)) (n7 : Int32 → Int32 → Mm → Option (Unit × Mm)) (x1 : Int32) (x2 : Int32) (M : Mm) : Option (Unit × Mm) := if (160 : Int32) ≤ x2 then (some ((), M)) else (if (M 5 3) = (42 : Int32) then (bd (m_X1_advance M) fun _ M1 => bd (k_X1_readOne x1 M1) fun _ M2 => bd (m_X2_add ((-17 : Int32)) M2) fun _ M3 => lt1 (x2 + 1) fun y4 => n7 x1 y4 M3) else (some ((), M)))
def m_X1_readTerm_L7 (k_X1_readOr : Int32 → Mm → Option (Unit × Mm)) (k_X1_readAnd : Int32 → Mm → Option (Unit × Mm)) (k_X1_readNot : Int32 → Mm → Option (Unit × Mm)) (k_X1_readSum : Int32 → Mm → Option (Unit × Mm)) (k_X1_readTerm : Int32 → Mm → Option (Unit × Mm)) (k_X1_readOne : Int32 → Mm → Option (Unit × Mm)) : Nat → Int32 → Int32 → Mm → Option (Unit × Mm)
  | 0 => fun _ _ _ => none
  | n + 1 => m_X1_readTerm_B7  k_X1_readOr k_X1_readAnd k_X1_readNot k_X1_readSum k_X1_readTerm k_X1_readOne (m_X1_readTerm_L7  k_X1_readOr k_X1_readAnd k_X1_readNot k_X1_readSum k_X1_readTerm k_X1_readOne n)
def mb_X1_readTerm (k_X1_readOr : Int32 → Mm → Option (Unit × Mm)) (k_X1_readAnd : Int32 → Mm → Option (Unit × Mm)) (k_X1_readNot : Int32 → Mm → Option (Unit × Mm)) (k_X1_readSum : Int32 → Mm → Option (Unit × Mm)) (k_X1_readTerm : Int32 → Mm → Option (Unit × Mm)) (k_X1_readOne : Int32 → Mm → Option (Unit × Mm)) (x1 : Int32) (M : Mm) : Option (Unit × Mm) := bd (k_X1_readOne x1 M) fun _ M5 => lt1 ((0 : Int32)) fun y6 => m_X1_readTerm_L7 k_X1_readOr k_X1_readAnd k_X1_readNot k_X1_readSum k_X1_readTerm k_X1_readOne FU x1 y6 M5
def m_X1_readOne_J70 (k_X1_readOr : Int32 → Mm → Option (Unit × Mm)) (k_X1_readAnd : Int32 → Mm → Option (Unit × Mm)) (k_X1_readNot : Int32 → Mm → Option (Unit × Mm)) (k_X1_readSum : Int32 → Mm → Option (Unit × Mm)) (k_X1_readTerm : Int32 → Mm → Option (Unit × Mm)) (k_X1_readOne : Int32 → Mm → Option (Unit × Mm)) (x1 : Int32) (M : Mm) : Option (Unit × Mm) := if (M 5 3) = (45 : Int32) then (bd (m_X1_opens x1 M) fun r7 M6 => if r7 = 0 then (some ((), M6)) else (bd (k_X1_readOne ((x1 + (1 : Int32))) M6) fun _ M8 => bd (m_X2_add ((-22 : Int32)) M8) fun _ M9 => some ((), M9))) else (if (M 5 3) = (40 : Int32) then (bd (m_X1_opens x1 M) fun r3 M2 => if r3 = 0 then (some ((), M2)) else (bd (k_X1_readOr ((x1 + (1 : Int32))) M2) fun _ M4 => bd (m_X1_expect ((41 : Int32)) M4) fun _ M5 => some ((), M5))) else (bd (m_X1_refuse M) fun _ M1 => some ((), M1)))
def mb_X1_readOne (k_X1_readOr : Int32 → Mm → Option (Unit × Mm)) (k_X1_readAnd : Int32 → Mm → Option (Unit × Mm)) (k_X1_readNot : Int32 → Mm → Option (Unit × Mm)) (k_X1_readSum : Int32 → Mm → Option (Unit × Mm)) (k_X1_readTerm : Int32 → Mm → Option (Unit × Mm)) (k_X1_readOne : Int32 → Mm → Option (Unit × Mm)) (x1 : Int32) (M : Mm) : Option (Unit × Mm) := if (M 5 3) = (1 : Int32) then (bd (m_X2_add ((M 5 6)) M) fun _ M12 => bd (m_X1_advance M12) fun _ M13 => some ((), M13)) else (if (M 5 3) < (256 : Int32) then (m_X1_readOne_J70 k_X1_readOr k_X1_readAnd k_X1_readNot k_X1_readSum k_X1_readTerm k_X1_readOne x1 M) else (if (262 : Int32) ≤ (M 5 3) then (m_X1_readOne_J70 k_X1_readOr k_X1_readAnd k_X1_readNot k_X1_readSum k_X1_readTerm k_X1_readOne x1 M) else (bd (m_X2_add (((-1 : Int32) - ((M 5 3) - (256 : Int32)))) M) fun _ M10 => bd (m_X1_advance M10) fun _ M11 => some ((), M11))))
def g_rgT : Nat → (Int32 → Mm → Option (Unit × Mm)) × (Int32 → Mm → Option (Unit × Mm)) × (Int32 → Mm → Option (Unit × Mm)) × (Int32 → Mm → Option (Unit × Mm)) × (Int32 → Mm → Option (Unit × Mm)) × (Int32 → Mm → Option (Unit × Mm))
  | 0 => (fun _ _ => none, fun _ _ => none, fun _ _ => none, fun _ _ => none, fun _ _ => none, fun _ _ => none)
  | d + 1 => let g := g_rgT d; (mb_X1_readOr g.1 g.2.1 g.2.2.1 g.2.2.2.1 g.2.2.2.2.1 g.2.2.2.2.2, mb_X1_readAnd g.1 g.2.1 g.2.2.1 g.2.2.2.1 g.2.2.2.2.1 g.2.2.2.2.2, mb_X1_readNot g.1 g.2.1 g.2.2.1 g.2.2.2.1 g.2.2.2.2.1 g.2.2.2.2.2, mb_X1_readSum g.1 g.2.1 g.2.2.1 g.2.2.2.1 g.2.2.2.2.1 g.2.2.2.2.2, mb_X1_readTerm g.1 g.2.1 g.2.2.1 g.2.2.2.1 g.2.2.2.2.1 g.2.2.2.2.2, mb_X1_readOne g.1 g.2.1 g.2.2.1 g.2.2.2.1 g.2.2.2.2.1 g.2.2.2.2.2)
def m_X1_readOr (x1 : Int32) (M : Mm) : Option (Unit × Mm) := (g_rgT 60).1 x1 M
def m_X1_readAnd (x1 : Int32) (M : Mm) : Option (Unit × Mm) := (g_rgT 60).2.1 x1 M
def m_X1_readNot (x1 : Int32) (M : Mm) : Option (Unit × Mm) := (g_rgT 60).2.2.1 x1 M
def m_X1_readSum (x1 : Int32) (M : Mm) : Option (Unit × Mm) := (g_rgT 60).2.2.2.1 x1 M
def m_X1_readTerm (x1 : Int32) (M : Mm) : Option (Unit × Mm) := (g_rgT 60).2.2.2.2.1 x1 M
def m_X1_readOne (x1 : Int32) (M : Mm) : Option (Unit × Mm) := (g_rgT 60).2.2.2.2.2 x1 M
set_option maxRecDepth 100000 in
set_option maxHeartbeats 4000000 in
theorem v_X1_readOr_B7 {X : Cx} {G : Gx} {sh : List Sh} {d : Nat} (hF : FX X G sh 3 cX1_readOr (yX1_readOr).cls none (rgT (d + 1))) (hT : TexAt sh) (hP : TapAt sh) {k_X1_readOr : Int32 → Mm → Option (Unit × Mm)} {k_X1_readAnd : Int32 → Mm → Option (Unit × Mm)} {k_X1_readNot : Int32 → Mm → Option (Unit × Mm)} {k_X1_readSum : Int32 → Mm → Option (Unit × Mm)} {k_X1_readTerm : Int32 → Mm → Option (Unit × Mm)} {k_X1_readOne : Int32 → Mm → Option (Unit × Mm)} (hk_X1_readOr : ∀ (M : Mm) (x1 : Int32), CT yX1_readOr cX1_readOr 3 none (rgT d) G sh [.ref (G.2.2.2.2 5), .int x1] rvV M (k_X1_readOr x1 M)) (hk_X1_readAnd : ∀ (M : Mm) (x1 : Int32), CT yX1_readAnd cX1_readAnd 3 none (rgT d) G sh [.ref (G.2.2.2.2 5), .int x1] rvV M (k_X1_readAnd x1 M)) (hk_X1_readNot : ∀ (M : Mm) (x1 : Int32), CT yX1_readNot cX1_readNot 3 none (rgT d) G sh [.ref (G.2.2.2.2 5), .int x1] rvV M (k_X1_readNot x1 M)) (hk_X1_readSum : ∀ (M : Mm) (x1 : Int32), CT yX1_readSum cX1_readSum 4 none (rgT d) G sh [.ref (G.2.2.2.2 5), .int x1] rvV M (k_X1_readSum x1 M)) (hk_X1_readTerm : ∀ (M : Mm) (x1 : Int32), CT yX1_readTerm cX1_readTerm 3 none (rgT d) G sh [.ref (G.2.2.2.2 5), .int x1] rvV M (k_X1_readTerm x1 M)) (hk_X1_readOne : ∀ (M : Mm) (x1 : Int32), CT yX1_readOne cX1_readOne 2 none (rgT d) G sh [.ref (G.2.2.2.2 5), .int x1] rvV M (k_X1_readOne x1 M)) (n7 : Int32 → Int32 → Mm → Option (Unit × Mm)) (h7 : ∀ (x1 : Int32) (x2 : Int32) (M : Mm), VR X G sh 3 rvV M 7 [(0, .ref (G.2.2.2.2 5)), (1, .int x1), (2, .int x2)] [] (n7 x1 x2 M)) : ∀ (x1 : Int32) (x2 : Int32) (M : Mm), VR X G sh 3 rvV M 7 [(0, .ref (G.2.2.2.2 5)), (1, .int x1), (2, .int x2)] [] (m_X1_readOr_B7  k_X1_readOr k_X1_readAnd k_X1_readNot k_X1_readSum k_X1_readTerm k_X1_readOne n7 x1 x2 M) := by
  intro x1 x2 M
  unfold m_X1_readOr_B7
  refine v_iload_n 2 8 hF dX1_readOr_7 rfl rfl rfl ?_
  refine v_sipush (160) 11 hF dX1_readOr_8 rfl (by decide) ?_
  refine v_icmp_ge 14 48 hF dX1_readOr_11 rfl (by decide) (fun _ => ?_) (fun _ => ?_)
  · exact v_vret hF dX1_readOr_48
  · refine v_aload_n 0 15 hF dX1_readOr_14 rfl rfl rfl ?_
    refine v_getI 18 hF dX1_readOr_15 rfl fl_X1_67 hP.1 rfl ?_
    refine v_sipush (265) 21 hF dX1_readOr_18 rfl (by decide) ?_
    refine v_icmp_ne 24 48 hF dX1_readOr_21 rfl (by decide) (fun _ => ?_) (fun _ => ?_)
    · exact v_vret hF dX1_readOr_48
    · refine v_aload_n 0 25 hF dX1_readOr_24 rfl rfl rfl ?_
      refine v_callV ([]) ([]) 28 hF dX1_readOr_25 rfl cw_X1_43 rfl (hP.1) (c_X1_advance (G := G) hT hP M) (rgT_le (rc := rmX1_advance) (maxL := 2) d rfl rfl (by decide) (by decide)) rfl rfl (Nat.le_of_ble_eq_true rfl) (fun _ M1 => ?_)
      refine v_aload_n 0 29 hF dX1_readOr_28 rfl rfl rfl ?_
      refine v_iload_n 1 30 hF dX1_readOr_29 rfl rfl rfl ?_
      refine v_callV ([.int x1]) ([]) 33 hF dX1_readOr_30 rfl cw_X1_64 rfl (hP.1) (hk_X1_readAnd M1 x1) (rgT_ok d 3 (by decide)) rfl rfl (Nat.le_of_ble_eq_true rfl) (fun _ M2 => ?_)
      refine v_aload_n 0 34 hF dX1_readOr_33 rfl rfl rfl ?_
      refine v_getR (b := 1) 37 hF dX1_readOr_34 rfl fl_X1_15 hP.1 rfl ?_
      refine v_bipush (-11) 39 hF dX1_readOr_37 rfl (by decide) ?_
      refine v_callV ([.int ((-11 : Int32))]) ([]) 42 hF dX1_readOr_39 rfl cw_X1_70 rfl (hT.1) (c_X2_add (G := G) hT M2 ((-11 : Int32))) (rgT_le (rc := rmX2_add) (maxL := 2) d rfl rfl (by decide) (by decide)) rfl rfl (Nat.le_of_ble_eq_true rfl) (fun _ M3 => ?_)
      refine v_iinc (v := (x2 + 1)) (lo' := fun y4 => [(2, .int y4), (0, .ref (G.2.2.2.2 5)), (1, .int x1)]) 2 45 hF dX1_readOr_42 rfl rfl rfl (by decide) (fun _ => rfl) (fun y4 => ?_)
      refine v_goto 7 hF dX1_readOr_45 (by decide) ?_
      refine VR.pick [1, 2, 0] rfl ?_
      exact h7 x1 y4 M3
theorem v_X1_readOr_L7 {X : Cx} {G : Gx} {sh : List Sh} {d : Nat} (hF : FX X G sh 3 cX1_readOr (yX1_readOr).cls none (rgT (d + 1))) (hT : TexAt sh) (hP : TapAt sh) {k_X1_readOr : Int32 → Mm → Option (Unit × Mm)} {k_X1_readAnd : Int32 → Mm → Option (Unit × Mm)} {k_X1_readNot : Int32 → Mm → Option (Unit × Mm)} {k_X1_readSum : Int32 → Mm → Option (Unit × Mm)} {k_X1_readTerm : Int32 → Mm → Option (Unit × Mm)} {k_X1_readOne : Int32 → Mm → Option (Unit × Mm)} (hk_X1_readOr : ∀ (M : Mm) (x1 : Int32), CT yX1_readOr cX1_readOr 3 none (rgT d) G sh [.ref (G.2.2.2.2 5), .int x1] rvV M (k_X1_readOr x1 M)) (hk_X1_readAnd : ∀ (M : Mm) (x1 : Int32), CT yX1_readAnd cX1_readAnd 3 none (rgT d) G sh [.ref (G.2.2.2.2 5), .int x1] rvV M (k_X1_readAnd x1 M)) (hk_X1_readNot : ∀ (M : Mm) (x1 : Int32), CT yX1_readNot cX1_readNot 3 none (rgT d) G sh [.ref (G.2.2.2.2 5), .int x1] rvV M (k_X1_readNot x1 M)) (hk_X1_readSum : ∀ (M : Mm) (x1 : Int32), CT yX1_readSum cX1_readSum 4 none (rgT d) G sh [.ref (G.2.2.2.2 5), .int x1] rvV M (k_X1_readSum x1 M)) (hk_X1_readTerm : ∀ (M : Mm) (x1 : Int32), CT yX1_readTerm cX1_readTerm 3 none (rgT d) G sh [.ref (G.2.2.2.2 5), .int x1] rvV M (k_X1_readTerm x1 M)) (hk_X1_readOne : ∀ (M : Mm) (x1 : Int32), CT yX1_readOne cX1_readOne 2 none (rgT d) G sh [.ref (G.2.2.2.2 5), .int x1] rvV M (k_X1_readOne x1 M)) : ∀ (n : Nat), ∀ (x1 : Int32) (x2 : Int32) (M : Mm), VR X G sh 3 rvV M 7 [(0, .ref (G.2.2.2.2 5)), (1, .int x1), (2, .int x2)] [] (m_X1_readOr_L7  k_X1_readOr k_X1_readAnd k_X1_readNot k_X1_readSum k_X1_readTerm k_X1_readOne n x1 x2 M) := by
  intro n
  induction n with
  | zero => intro x1 x2 M; exact VR.none
  | succ n ih => exact v_X1_readOr_B7 hF hT hP hk_X1_readOr hk_X1_readAnd hk_X1_readNot hk_X1_readSum hk_X1_readTerm hk_X1_readOne _ ih
set_option maxRecDepth 100000 in
set_option maxHeartbeats 4000000 in
theorem cb_X1_readOr {G : Gx} {sh : List Sh} {d : Nat} (hT : TexAt sh) (hP : TapAt sh) {k_X1_readOr : Int32 → Mm → Option (Unit × Mm)} {k_X1_readAnd : Int32 → Mm → Option (Unit × Mm)} {k_X1_readNot : Int32 → Mm → Option (Unit × Mm)} {k_X1_readSum : Int32 → Mm → Option (Unit × Mm)} {k_X1_readTerm : Int32 → Mm → Option (Unit × Mm)} {k_X1_readOne : Int32 → Mm → Option (Unit × Mm)} (hk_X1_readOr : ∀ (M : Mm) (x1 : Int32), CT yX1_readOr cX1_readOr 3 none (rgT d) G sh [.ref (G.2.2.2.2 5), .int x1] rvV M (k_X1_readOr x1 M)) (hk_X1_readAnd : ∀ (M : Mm) (x1 : Int32), CT yX1_readAnd cX1_readAnd 3 none (rgT d) G sh [.ref (G.2.2.2.2 5), .int x1] rvV M (k_X1_readAnd x1 M)) (hk_X1_readNot : ∀ (M : Mm) (x1 : Int32), CT yX1_readNot cX1_readNot 3 none (rgT d) G sh [.ref (G.2.2.2.2 5), .int x1] rvV M (k_X1_readNot x1 M)) (hk_X1_readSum : ∀ (M : Mm) (x1 : Int32), CT yX1_readSum cX1_readSum 4 none (rgT d) G sh [.ref (G.2.2.2.2 5), .int x1] rvV M (k_X1_readSum x1 M)) (hk_X1_readTerm : ∀ (M : Mm) (x1 : Int32), CT yX1_readTerm cX1_readTerm 3 none (rgT d) G sh [.ref (G.2.2.2.2 5), .int x1] rvV M (k_X1_readTerm x1 M)) (hk_X1_readOne : ∀ (M : Mm) (x1 : Int32), CT yX1_readOne cX1_readOne 2 none (rgT d) G sh [.ref (G.2.2.2.2 5), .int x1] rvV M (k_X1_readOne x1 M)) (M : Mm) (x1 : Int32) : CT yX1_readOr cX1_readOr 3 none (rgT (d + 1)) G sh [.ref (G.2.2.2.2 5), .int x1] rvV M (mb_X1_readOr  k_X1_readOr k_X1_readAnd k_X1_readNot k_X1_readSum k_X1_readTerm k_X1_readOne x1 M) := by
  refine CT.of (by decide +kernel) (Nat.le_of_ble_eq_true rfl) (fun X hF => ?_)
  show VR X G sh 3 rvV M 0 [(0, .ref (G.2.2.2.2 5)), (1, .int x1)] [] _
  unfold mb_X1_readOr
  refine v_aload_n 0 1 hF dX1_readOr_0 rfl rfl rfl ?_
  refine v_iload_n 1 2 hF dX1_readOr_1 rfl rfl rfl ?_
  refine v_callV ([.int x1]) ([]) 5 hF dX1_readOr_2 rfl cw_X1_64 rfl (hP.1) (hk_X1_readAnd M x1) (rgT_ok d 3 (by decide)) rfl rfl (Nat.le_of_ble_eq_true rfl) (fun _ M5 => ?_)
  refine v_iconst (0) 6 hF dX1_readOr_5 rfl (by decide) ?_
  refine v_istore_n (lo' := fun y6 => [(2, .int y6), (0, .ref (G.2.2.2.2 5)), (1, .int x1)]) 7 hF dX1_readOr_6 rfl rfl (by decide) (fun _ => rfl) (fun y6 => ?_)
  refine VR.pick [1, 2, 0] rfl ?_
  exact v_X1_readOr_L7 hF hT hP hk_X1_readOr hk_X1_readAnd hk_X1_readNot hk_X1_readSum hk_X1_readTerm hk_X1_readOne FU x1 y6 M5
set_option maxRecDepth 100000 in
set_option maxHeartbeats 4000000 in
theorem v_X1_readAnd_B7 {X : Cx} {G : Gx} {sh : List Sh} {d : Nat} (hF : FX X G sh 3 cX1_readAnd (yX1_readAnd).cls none (rgT (d + 1))) (hT : TexAt sh) (hP : TapAt sh) {k_X1_readOr : Int32 → Mm → Option (Unit × Mm)} {k_X1_readAnd : Int32 → Mm → Option (Unit × Mm)} {k_X1_readNot : Int32 → Mm → Option (Unit × Mm)} {k_X1_readSum : Int32 → Mm → Option (Unit × Mm)} {k_X1_readTerm : Int32 → Mm → Option (Unit × Mm)} {k_X1_readOne : Int32 → Mm → Option (Unit × Mm)} (hk_X1_readOr : ∀ (M : Mm) (x1 : Int32), CT yX1_readOr cX1_readOr 3 none (rgT d) G sh [.ref (G.2.2.2.2 5), .int x1] rvV M (k_X1_readOr x1 M)) (hk_X1_readAnd : ∀ (M : Mm) (x1 : Int32), CT yX1_readAnd cX1_readAnd 3 none (rgT d) G sh [.ref (G.2.2.2.2 5), .int x1] rvV M (k_X1_readAnd x1 M)) (hk_X1_readNot : ∀ (M : Mm) (x1 : Int32), CT yX1_readNot cX1_readNot 3 none (rgT d) G sh [.ref (G.2.2.2.2 5), .int x1] rvV M (k_X1_readNot x1 M)) (hk_X1_readSum : ∀ (M : Mm) (x1 : Int32), CT yX1_readSum cX1_readSum 4 none (rgT d) G sh [.ref (G.2.2.2.2 5), .int x1] rvV M (k_X1_readSum x1 M)) (hk_X1_readTerm : ∀ (M : Mm) (x1 : Int32), CT yX1_readTerm cX1_readTerm 3 none (rgT d) G sh [.ref (G.2.2.2.2 5), .int x1] rvV M (k_X1_readTerm x1 M)) (hk_X1_readOne : ∀ (M : Mm) (x1 : Int32), CT yX1_readOne cX1_readOne 2 none (rgT d) G sh [.ref (G.2.2.2.2 5), .int x1] rvV M (k_X1_readOne x1 M)) (n7 : Int32 → Int32 → Mm → Option (Unit × Mm)) (h7 : ∀ (x1 : Int32) (x2 : Int32) (M : Mm), VR X G sh 3 rvV M 7 [(0, .ref (G.2.2.2.2 5)), (1, .int x1), (2, .int x2)] [] (n7 x1 x2 M)) : ∀ (x1 : Int32) (x2 : Int32) (M : Mm), VR X G sh 3 rvV M 7 [(0, .ref (G.2.2.2.2 5)), (1, .int x1), (2, .int x2)] [] (m_X1_readAnd_B7  k_X1_readOr k_X1_readAnd k_X1_readNot k_X1_readSum k_X1_readTerm k_X1_readOne n7 x1 x2 M) := by
  intro x1 x2 M
  unfold m_X1_readAnd_B7
  refine v_iload_n 2 8 hF dX1_readAnd_7 rfl rfl rfl ?_
  refine v_sipush (160) 11 hF dX1_readAnd_8 rfl (by decide) ?_
  refine v_icmp_ge 14 48 hF dX1_readAnd_11 rfl (by decide) (fun _ => ?_) (fun _ => ?_)
  · exact v_vret hF dX1_readAnd_48
  · refine v_aload_n 0 15 hF dX1_readAnd_14 rfl rfl rfl ?_
    refine v_getI 18 hF dX1_readAnd_15 rfl fl_X1_67 hP.1 rfl ?_
    refine v_sipush (266) 21 hF dX1_readAnd_18 rfl (by decide) ?_
    refine v_icmp_ne 24 48 hF dX1_readAnd_21 rfl (by decide) (fun _ => ?_) (fun _ => ?_)
    · exact v_vret hF dX1_readAnd_48
    · refine v_aload_n 0 25 hF dX1_readAnd_24 rfl rfl rfl ?_
      refine v_callV ([]) ([]) 28 hF dX1_readAnd_25 rfl cw_X1_43 rfl (hP.1) (c_X1_advance (G := G) hT hP M) (rgT_le (rc := rmX1_advance) (maxL := 2) d rfl rfl (by decide) (by decide)) rfl rfl (Nat.le_of_ble_eq_true rfl) (fun _ M1 => ?_)
      refine v_aload_n 0 29 hF dX1_readAnd_28 rfl rfl rfl ?_
      refine v_iload_n 1 30 hF dX1_readAnd_29 rfl rfl rfl ?_
      refine v_callV ([.int x1]) ([]) 33 hF dX1_readAnd_30 rfl cw_X1_72 rfl (hP.1) (hk_X1_readNot M1 x1) (rgT_ok d 3 (by decide)) rfl rfl (Nat.le_of_ble_eq_true rfl) (fun _ M2 => ?_)
      refine v_aload_n 0 34 hF dX1_readAnd_33 rfl rfl rfl ?_
      refine v_getR (b := 1) 37 hF dX1_readAnd_34 rfl fl_X1_15 hP.1 rfl ?_
      refine v_bipush (-12) 39 hF dX1_readAnd_37 rfl (by decide) ?_
      refine v_callV ([.int ((-12 : Int32))]) ([]) 42 hF dX1_readAnd_39 rfl cw_X1_70 rfl (hT.1) (c_X2_add (G := G) hT M2 ((-12 : Int32))) (rgT_le (rc := rmX2_add) (maxL := 2) d rfl rfl (by decide) (by decide)) rfl rfl (Nat.le_of_ble_eq_true rfl) (fun _ M3 => ?_)
      refine v_iinc (v := (x2 + 1)) (lo' := fun y4 => [(2, .int y4), (0, .ref (G.2.2.2.2 5)), (1, .int x1)]) 2 45 hF dX1_readAnd_42 rfl rfl rfl (by decide) (fun _ => rfl) (fun y4 => ?_)
      refine v_goto 7 hF dX1_readAnd_45 (by decide) ?_
      refine VR.pick [1, 2, 0] rfl ?_
      exact h7 x1 y4 M3
theorem v_X1_readAnd_L7 {X : Cx} {G : Gx} {sh : List Sh} {d : Nat} (hF : FX X G sh 3 cX1_readAnd (yX1_readAnd).cls none (rgT (d + 1))) (hT : TexAt sh) (hP : TapAt sh) {k_X1_readOr : Int32 → Mm → Option (Unit × Mm)} {k_X1_readAnd : Int32 → Mm → Option (Unit × Mm)} {k_X1_readNot : Int32 → Mm → Option (Unit × Mm)} {k_X1_readSum : Int32 → Mm → Option (Unit × Mm)} {k_X1_readTerm : Int32 → Mm → Option (Unit × Mm)} {k_X1_readOne : Int32 → Mm → Option (Unit × Mm)} (hk_X1_readOr : ∀ (M : Mm) (x1 : Int32), CT yX1_readOr cX1_readOr 3 none (rgT d) G sh [.ref (G.2.2.2.2 5), .int x1] rvV M (k_X1_readOr x1 M)) (hk_X1_readAnd : ∀ (M : Mm) (x1 : Int32), CT yX1_readAnd cX1_readAnd 3 none (rgT d) G sh [.ref (G.2.2.2.2 5), .int x1] rvV M (k_X1_readAnd x1 M)) (hk_X1_readNot : ∀ (M : Mm) (x1 : Int32), CT yX1_readNot cX1_readNot 3 none (rgT d) G sh [.ref (G.2.2.2.2 5), .int x1] rvV M (k_X1_readNot x1 M)) (hk_X1_readSum : ∀ (M : Mm) (x1 : Int32), CT yX1_readSum cX1_readSum 4 none (rgT d) G sh [.ref (G.2.2.2.2 5), .int x1] rvV M (k_X1_readSum x1 M)) (hk_X1_readTerm : ∀ (M : Mm) (x1 : Int32), CT yX1_readTerm cX1_readTerm 3 none (rgT d) G sh [.ref (G.2.2.2.2 5), .int x1] rvV M (k_X1_readTerm x1 M)) (hk_X1_readOne : ∀ (M : Mm) (x1 : Int32), CT yX1_readOne cX1_readOne 2 none (rgT d) G sh [.ref (G.2.2.2.2 5), .int x1] rvV M (k_X1_readOne x1 M)) : ∀ (n : Nat), ∀ (x1 : Int32) (x2 : Int32) (M : Mm), VR X G sh 3 rvV M 7 [(0, .ref (G.2.2.2.2 5)), (1, .int x1), (2, .int x2)] [] (m_X1_readAnd_L7  k_X1_readOr k_X1_readAnd k_X1_readNot k_X1_readSum k_X1_readTerm k_X1_readOne n x1 x2 M) := by
  intro n
  induction n with
  | zero => intro x1 x2 M; exact VR.none
  | succ n ih => exact v_X1_readAnd_B7 hF hT hP hk_X1_readOr hk_X1_readAnd hk_X1_readNot hk_X1_readSum hk_X1_readTerm hk_X1_readOne _ ih
set_option maxRecDepth 100000 in
set_option maxHeartbeats 4000000 in
theorem cb_X1_readAnd {G : Gx} {sh : List Sh} {d : Nat} (hT : TexAt sh) (hP : TapAt sh) {k_X1_readOr : Int32 → Mm → Option (Unit × Mm)} {k_X1_readAnd : Int32 → Mm → Option (Unit × Mm)} {k_X1_readNot : Int32 → Mm → Option (Unit × Mm)} {k_X1_readSum : Int32 → Mm → Option (Unit × Mm)} {k_X1_readTerm : Int32 → Mm → Option (Unit × Mm)} {k_X1_readOne : Int32 → Mm → Option (Unit × Mm)} (hk_X1_readOr : ∀ (M : Mm) (x1 : Int32), CT yX1_readOr cX1_readOr 3 none (rgT d) G sh [.ref (G.2.2.2.2 5), .int x1] rvV M (k_X1_readOr x1 M)) (hk_X1_readAnd : ∀ (M : Mm) (x1 : Int32), CT yX1_readAnd cX1_readAnd 3 none (rgT d) G sh [.ref (G.2.2.2.2 5), .int x1] rvV M (k_X1_readAnd x1 M)) (hk_X1_readNot : ∀ (M : Mm) (x1 : Int32), CT yX1_readNot cX1_readNot 3 none (rgT d) G sh [.ref (G.2.2.2.2 5), .int x1] rvV M (k_X1_readNot x1 M)) (hk_X1_readSum : ∀ (M : Mm) (x1 : Int32), CT yX1_readSum cX1_readSum 4 none (rgT d) G sh [.ref (G.2.2.2.2 5), .int x1] rvV M (k_X1_readSum x1 M)) (hk_X1_readTerm : ∀ (M : Mm) (x1 : Int32), CT yX1_readTerm cX1_readTerm 3 none (rgT d) G sh [.ref (G.2.2.2.2 5), .int x1] rvV M (k_X1_readTerm x1 M)) (hk_X1_readOne : ∀ (M : Mm) (x1 : Int32), CT yX1_readOne cX1_readOne 2 none (rgT d) G sh [.ref (G.2.2.2.2 5), .int x1] rvV M (k_X1_readOne x1 M)) (M : Mm) (x1 : Int32) : CT yX1_readAnd cX1_readAnd 3 none (rgT (d + 1)) G sh [.ref (G.2.2.2.2 5), .int x1] rvV M (mb_X1_readAnd  k_X1_readOr k_X1_readAnd k_X1_readNot k_X1_readSum k_X1_readTerm k_X1_readOne x1 M) := by
  refine CT.of (by decide +kernel) (Nat.le_of_ble_eq_true rfl) (fun X hF => ?_)
  show VR X G sh 3 rvV M 0 [(0, .ref (G.2.2.2.2 5)), (1, .int x1)] [] _
  unfold mb_X1_readAnd
  refine v_aload_n 0 1 hF dX1_readAnd_0 rfl rfl rfl ?_
  refine v_iload_n 1 2 hF dX1_readAnd_1 rfl rfl rfl ?_
  refine v_callV ([.int x1]) ([]) 5 hF dX1_readAnd_2 rfl cw_X1_72 rfl (hP.1) (hk_X1_readNot M x1) (rgT_ok d 3 (by decide)) rfl rfl (Nat.le_of_ble_eq_true rfl) (fun _ M5 => ?_)
  refine v_iconst (0) 6 hF dX1_readAnd_5 rfl (by decide) ?_
  refine v_istore_n (lo' := fun y6 => [(2, .int y6), (0, .ref (G.2.2.2.2 5)), (1, .int x1)]) 7 hF dX1_readAnd_6 rfl rfl (by decide) (fun _ => rfl) (fun y6 => ?_)
  refine VR.pick [1, 2, 0] rfl ?_
  exact v_X1_readAnd_L7 hF hT hP hk_X1_readOr hk_X1_readAnd hk_X1_readNot hk_X1_readSum hk_X1_readTerm hk_X1_readOne FU x1 y6 M5
set_option maxRecDepth 100000 in
set_option maxHeartbeats 4000000 in
theorem v_X1_readNot_J74 {X : Cx} {G : Gx} {sh : List Sh} {d : Nat} (hF : FX X G sh 3 cX1_readNot (yX1_readNot).cls none (rgT (d + 1))) (hT : TexAt sh) (hP : TapAt sh) {k_X1_readOr : Int32 → Mm → Option (Unit × Mm)} {k_X1_readAnd : Int32 → Mm → Option (Unit × Mm)} {k_X1_readNot : Int32 → Mm → Option (Unit × Mm)} {k_X1_readSum : Int32 → Mm → Option (Unit × Mm)} {k_X1_readTerm : Int32 → Mm → Option (Unit × Mm)} {k_X1_readOne : Int32 → Mm → Option (Unit × Mm)} (hk_X1_readOr : ∀ (M : Mm) (x1 : Int32), CT yX1_readOr cX1_readOr 3 none (rgT d) G sh [.ref (G.2.2.2.2 5), .int x1] rvV M (k_X1_readOr x1 M)) (hk_X1_readAnd : ∀ (M : Mm) (x1 : Int32), CT yX1_readAnd cX1_readAnd 3 none (rgT d) G sh [.ref (G.2.2.2.2 5), .int x1] rvV M (k_X1_readAnd x1 M)) (hk_X1_readNot : ∀ (M : Mm) (x1 : Int32), CT yX1_readNot cX1_readNot 3 none (rgT d) G sh [.ref (G.2.2.2.2 5), .int x1] rvV M (k_X1_readNot x1 M)) (hk_X1_readSum : ∀ (M : Mm) (x1 : Int32), CT yX1_readSum cX1_readSum 4 none (rgT d) G sh [.ref (G.2.2.2.2 5), .int x1] rvV M (k_X1_readSum x1 M)) (hk_X1_readTerm : ∀ (M : Mm) (x1 : Int32), CT yX1_readTerm cX1_readTerm 3 none (rgT d) G sh [.ref (G.2.2.2.2 5), .int x1] rvV M (k_X1_readTerm x1 M)) (hk_X1_readOne : ∀ (M : Mm) (x1 : Int32), CT yX1_readOne cX1_readOne 2 none (rgT d) G sh [.ref (G.2.2.2.2 5), .int x1] rvV M (k_X1_readOne x1 M)) : ∀ (x1 : Int32) (s0 : Int32) (M : Mm), VR X G sh 3 rvV M 74 [(0, .ref (G.2.2.2.2 5)), (1, .int x1)] [.int s0] (m_X1_readNot_J74  k_X1_readOr k_X1_readAnd k_X1_readNot k_X1_readSum k_X1_readTerm k_X1_readOne x1 s0 M) := by
  intro x1 s0 M
  unfold m_X1_readNot_J74
  refine v_istore_n (lo' := fun y1 => [(2, .int y1), (0, .ref (G.2.2.2.2 5)), (1, .int x1)]) 75 hF dX1_readNot_74 rfl rfl (by decide) (fun _ => rfl) (fun y1 => ?_)
  refine v_aload_n 1 76 hF dX1_readNot_75 rfl rfl rfl ?_
  refine v_callV ([]) ([]) 79 hF dX1_readNot_76 rfl cw_X1_43 rfl (hP.1) (c_X1_advance (G := G) hT hP M) (rgT_le (rc := rmX1_advance) (maxL := 2) d rfl rfl (by decide) (by decide)) rfl rfl (Nat.le_of_ble_eq_true rfl) (fun _ M2 => ?_)
  refine v_aload_n 1 80 hF dX1_readNot_79 rfl rfl rfl ?_
  refine v_iload_n 2 81 hF dX1_readNot_80 rfl rfl rfl ?_
  refine v_callV ([.int x1]) ([]) 84 hF dX1_readNot_81 rfl cw_X1_78 rfl (hP.1) (hk_X1_readSum M2 x1) (rgT_ok d 4 (by decide)) rfl rfl (Nat.le_of_ble_eq_true rfl) (fun _ M3 => ?_)
  refine v_aload_n 1 85 hF dX1_readNot_84 rfl rfl rfl ?_
  refine v_getR (b := 1) 88 hF dX1_readNot_85 rfl fl_X1_15 hP.1 rfl ?_
  refine v_iload_n 0 89 hF dX1_readNot_88 rfl rfl rfl ?_
  refine v_callV ([.int y1]) ([]) 92 hF dX1_readNot_89 rfl cw_X1_70 rfl (hT.1) (c_X2_add (G := G) hT M3 y1) (rgT_le (rc := rmX2_add) (maxL := 2) d rfl rfl (by decide) (by decide)) rfl rfl (Nat.le_of_ble_eq_true rfl) (fun _ M4 => ?_)
  exact v_vret hF dX1_readNot_92
set_option maxRecDepth 100000 in
set_option maxHeartbeats 4000000 in
theorem v_X1_readNot_J58 {X : Cx} {G : Gx} {sh : List Sh} {d : Nat} (hF : FX X G sh 3 cX1_readNot (yX1_readNot).cls none (rgT (d + 1))) (hT : TexAt sh) (hP : TapAt sh) {k_X1_readOr : Int32 → Mm → Option (Unit × Mm)} {k_X1_readAnd : Int32 → Mm → Option (Unit × Mm)} {k_X1_readNot : Int32 → Mm → Option (Unit × Mm)} {k_X1_readSum : Int32 → Mm → Option (Unit × Mm)} {k_X1_readTerm : Int32 → Mm → Option (Unit × Mm)} {k_X1_readOne : Int32 → Mm → Option (Unit × Mm)} (hk_X1_readOr : ∀ (M : Mm) (x1 : Int32), CT yX1_readOr cX1_readOr 3 none (rgT d) G sh [.ref (G.2.2.2.2 5), .int x1] rvV M (k_X1_readOr x1 M)) (hk_X1_readAnd : ∀ (M : Mm) (x1 : Int32), CT yX1_readAnd cX1_readAnd 3 none (rgT d) G sh [.ref (G.2.2.2.2 5), .int x1] rvV M (k_X1_readAnd x1 M)) (hk_X1_readNot : ∀ (M : Mm) (x1 : Int32), CT yX1_readNot cX1_readNot 3 none (rgT d) G sh [.ref (G.2.2.2.2 5), .int x1] rvV M (k_X1_readNot x1 M)) (hk_X1_readSum : ∀ (M : Mm) (x1 : Int32), CT yX1_readSum cX1_readSum 4 none (rgT d) G sh [.ref (G.2.2.2.2 5), .int x1] rvV M (k_X1_readSum x1 M)) (hk_X1_readTerm : ∀ (M : Mm) (x1 : Int32), CT yX1_readTerm cX1_readTerm 3 none (rgT d) G sh [.ref (G.2.2.2.2 5), .int x1] rvV M (k_X1_readTerm x1 M)) (hk_X1_readOne : ∀ (M : Mm) (x1 : Int32), CT yX1_readOne cX1_readOne 2 none (rgT d) G sh [.ref (G.2.2.2.2 5), .int x1] rvV M (k_X1_readOne x1 M)) : ∀ (x1 : Int32) (M : Mm), VR X G sh 3 rvV M 58 [(0, .ref (G.2.2.2.2 5)), (1, .int x1)] [] (m_X1_readNot_J58  k_X1_readOr k_X1_readAnd k_X1_readNot k_X1_readSum k_X1_readTerm k_X1_readOne x1 M) := by
  intro x1 M
  unfold m_X1_readNot_J58
  refine v_aload_n 0 59 hF dX1_readNot_58 rfl rfl rfl ?_
  refine v_getI 62 hF dX1_readNot_59 rfl fl_X1_67 hP.1 rfl ?_
  refine v_bipush (60) 64 hF dX1_readNot_62 rfl (by decide) ?_
  refine v_icmp_ne 67 72 hF dX1_readNot_64 rfl (by decide) (fun _ => ?_) (fun _ => ?_)
  · refine v_bipush (-14) 74 hF dX1_readNot_72 rfl (by decide) ?_
    refine VR.pick [0, 1] rfl ?_
    exact v_X1_readNot_J74 hF hT hP hk_X1_readOr hk_X1_readAnd hk_X1_readNot hk_X1_readSum hk_X1_readTerm hk_X1_readOne x1 ((-14 : Int32)) M
  · refine v_bipush (-13) 69 hF dX1_readNot_67 rfl (by decide) ?_
    refine v_goto 74 hF dX1_readNot_69 (by decide) ?_
    refine VR.pick [0, 1] rfl ?_
    exact v_X1_readNot_J74 hF hT hP hk_X1_readOr hk_X1_readAnd hk_X1_readNot hk_X1_readSum hk_X1_readTerm hk_X1_readOne x1 ((-13 : Int32)) M
set_option maxRecDepth 100000 in
set_option maxHeartbeats 4000000 in
theorem cb_X1_readNot {G : Gx} {sh : List Sh} {d : Nat} (hT : TexAt sh) (hP : TapAt sh) {k_X1_readOr : Int32 → Mm → Option (Unit × Mm)} {k_X1_readAnd : Int32 → Mm → Option (Unit × Mm)} {k_X1_readNot : Int32 → Mm → Option (Unit × Mm)} {k_X1_readSum : Int32 → Mm → Option (Unit × Mm)} {k_X1_readTerm : Int32 → Mm → Option (Unit × Mm)} {k_X1_readOne : Int32 → Mm → Option (Unit × Mm)} (hk_X1_readOr : ∀ (M : Mm) (x1 : Int32), CT yX1_readOr cX1_readOr 3 none (rgT d) G sh [.ref (G.2.2.2.2 5), .int x1] rvV M (k_X1_readOr x1 M)) (hk_X1_readAnd : ∀ (M : Mm) (x1 : Int32), CT yX1_readAnd cX1_readAnd 3 none (rgT d) G sh [.ref (G.2.2.2.2 5), .int x1] rvV M (k_X1_readAnd x1 M)) (hk_X1_readNot : ∀ (M : Mm) (x1 : Int32), CT yX1_readNot cX1_readNot 3 none (rgT d) G sh [.ref (G.2.2.2.2 5), .int x1] rvV M (k_X1_readNot x1 M)) (hk_X1_readSum : ∀ (M : Mm) (x1 : Int32), CT yX1_readSum cX1_readSum 4 none (rgT d) G sh [.ref (G.2.2.2.2 5), .int x1] rvV M (k_X1_readSum x1 M)) (hk_X1_readTerm : ∀ (M : Mm) (x1 : Int32), CT yX1_readTerm cX1_readTerm 3 none (rgT d) G sh [.ref (G.2.2.2.2 5), .int x1] rvV M (k_X1_readTerm x1 M)) (hk_X1_readOne : ∀ (M : Mm) (x1 : Int32), CT yX1_readOne cX1_readOne 2 none (rgT d) G sh [.ref (G.2.2.2.2 5), .int x1] rvV M (k_X1_readOne x1 M)) (M : Mm) (x1 : Int32) : CT yX1_readNot cX1_readNot 3 none (rgT (d + 1)) G sh [.ref (G.2.2.2.2 5), .int x1] rvV M (mb_X1_readNot  k_X1_readOr k_X1_readAnd k_X1_readNot k_X1_readSum k_X1_readTerm k_X1_readOne x1 M) := by
  refine CT.of (by decide +kernel) (Nat.le_of_ble_eq_true rfl) (fun X hF => ?_)
  show VR X G sh 3 rvV M 0 [(0, .ref (G.2.2.2.2 5)), (1, .int x1)] [] _
  unfold mb_X1_readNot
  refine v_aload_n 0 1 hF dX1_readNot_0 rfl rfl rfl ?_
  refine v_getI 4 hF dX1_readNot_1 rfl fl_X1_67 hP.1 rfl ?_
  refine v_sipush (267) 7 hF dX1_readNot_4 rfl (by decide) ?_
  refine v_icmp_ne 10 35 hF dX1_readNot_7 rfl (by decide) (fun _ => ?_) (fun _ => ?_)
  · refine v_aload_n 0 36 hF dX1_readNot_35 rfl rfl rfl ?_
    refine v_iload_n 1 37 hF dX1_readNot_36 rfl rfl rfl ?_
    refine v_callV ([.int x1]) ([]) 40 hF dX1_readNot_37 rfl cw_X1_78 rfl (hP.1) (hk_X1_readSum M x1) (rgT_ok d 4 (by decide)) rfl rfl (Nat.le_of_ble_eq_true rfl) (fun _ M5 => ?_)
    refine v_aload_n 0 41 hF dX1_readNot_40 rfl rfl rfl ?_
    refine v_getI 44 hF dX1_readNot_41 rfl fl_X1_67 hP.1 rfl ?_
    refine v_bipush (60) 46 hF dX1_readNot_44 rfl (by decide) ?_
    refine v_icmp_eq 49 58 hF dX1_readNot_46 rfl (by decide) (fun _ => ?_) (fun _ => ?_)
    · refine VR.pick [0, 1] rfl ?_
      exact v_X1_readNot_J58 hF hT hP hk_X1_readOr hk_X1_readAnd hk_X1_readNot hk_X1_readSum hk_X1_readTerm hk_X1_readOne x1 M5
    · refine v_aload_n 0 50 hF dX1_readNot_49 rfl rfl rfl ?_
      refine v_getI 53 hF dX1_readNot_50 rfl fl_X1_67 hP.1 rfl ?_
      refine v_bipush (61) 55 hF dX1_readNot_53 rfl (by decide) ?_
      refine v_icmp_ne 58 92 hF dX1_readNot_55 rfl (by decide) (fun _ => ?_) (fun _ => ?_)
      · exact v_vret hF dX1_readNot_92
      · refine VR.pick [0, 1] rfl ?_
        exact v_X1_readNot_J58 hF hT hP hk_X1_readOr hk_X1_readAnd hk_X1_readNot hk_X1_readSum hk_X1_readTerm hk_X1_readOne x1 M5
  · refine v_aload_n 0 11 hF dX1_readNot_10 rfl rfl rfl ?_
    refine v_iload_n 1 12 hF dX1_readNot_11 rfl rfl rfl ?_
    refine v_callI ([.int x1]) ([]) 15 hF dX1_readNot_12 rfl cw_X1_75 rfl (hP.1) (c_X1_opens (G := G) hT hP M x1) (rgT_le (rc := rmX1_opens) (maxL := 2) d rfl rfl (by decide) (by decide)) rfl rfl (Nat.le_of_ble_eq_true rfl) (fun r7 M6 => ?_)
    refine v_if_eq 18 34 hF dX1_readNot_15 rfl (by decide) (fun _ => ?_) (fun _ => ?_)
    · exact v_vret hF dX1_readNot_34
    · refine v_aload_n 0 19 hF dX1_readNot_18 rfl rfl rfl ?_
      refine v_iload_n 1 20 hF dX1_readNot_19 rfl rfl rfl ?_
      refine v_iconst (1) 21 hF dX1_readNot_20 rfl (by decide) ?_
      refine v_iadd 22 hF dX1_readNot_21 rfl ?_
      refine v_callV ([.int ((x1 + (1 : Int32)))]) ([]) 25 hF dX1_readNot_22 rfl cw_X1_72 rfl (hP.1) (hk_X1_readNot M6 ((x1 + (1 : Int32)))) (rgT_ok d 3 (by decide)) rfl rfl (Nat.le_of_ble_eq_true rfl) (fun _ M8 => ?_)
      refine v_aload_n 0 26 hF dX1_readNot_25 rfl rfl rfl ?_
      refine v_getR (b := 1) 29 hF dX1_readNot_26 rfl fl_X1_15 hP.1 rfl ?_
      refine v_bipush (-21) 31 hF dX1_readNot_29 rfl (by decide) ?_
      refine v_callV ([.int ((-21 : Int32))]) ([]) 34 hF dX1_readNot_31 rfl cw_X1_70 rfl (hT.1) (c_X2_add (G := G) hT M8 ((-21 : Int32))) (rgT_le (rc := rmX2_add) (maxL := 2) d rfl rfl (by decide) (by decide)) rfl rfl (Nat.le_of_ble_eq_true rfl) (fun _ M9 => ?_)
      exact v_vret hF dX1_readNot_34
set_option maxRecDepth 100000 in
set_option maxHeartbeats 4000000 in
theorem v_X1_readSum_J48 {X : Cx} {G : Gx} {sh : List Sh} {d : Nat} (hF : FX X G sh 4 cX1_readSum (yX1_readSum).cls none (rgT (d + 1))) (hT : TexAt sh) (hP : TapAt sh) {k_X1_readOr : Int32 → Mm → Option (Unit × Mm)} {k_X1_readAnd : Int32 → Mm → Option (Unit × Mm)} {k_X1_readNot : Int32 → Mm → Option (Unit × Mm)} {k_X1_readSum : Int32 → Mm → Option (Unit × Mm)} {k_X1_readTerm : Int32 → Mm → Option (Unit × Mm)} {k_X1_readOne : Int32 → Mm → Option (Unit × Mm)} (hk_X1_readOr : ∀ (M : Mm) (x1 : Int32), CT yX1_readOr cX1_readOr 3 none (rgT d) G sh [.ref (G.2.2.2.2 5), .int x1] rvV M (k_X1_readOr x1 M)) (hk_X1_readAnd : ∀ (M : Mm) (x1 : Int32), CT yX1_readAnd cX1_readAnd 3 none (rgT d) G sh [.ref (G.2.2.2.2 5), .int x1] rvV M (k_X1_readAnd x1 M)) (hk_X1_readNot : ∀ (M : Mm) (x1 : Int32), CT yX1_readNot cX1_readNot 3 none (rgT d) G sh [.ref (G.2.2.2.2 5), .int x1] rvV M (k_X1_readNot x1 M)) (hk_X1_readSum : ∀ (M : Mm) (x1 : Int32), CT yX1_readSum cX1_readSum 4 none (rgT d) G sh [.ref (G.2.2.2.2 5), .int x1] rvV M (k_X1_readSum x1 M)) (hk_X1_readTerm : ∀ (M : Mm) (x1 : Int32), CT yX1_readTerm cX1_readTerm 3 none (rgT d) G sh [.ref (G.2.2.2.2 5), .int x1] rvV M (k_X1_readTerm x1 M)) (hk_X1_readOne : ∀ (M : Mm) (x1 : Int32), CT yX1_readOne cX1_readOne 2 none (rgT d) G sh [.ref (G.2.2.2.2 5), .int x1] rvV M (k_X1_readOne x1 M)) (n7 : Int32 → Int32 → Mm → Option (Unit × Mm)) (h7 : ∀ (x1 : Int32) (x2 : Int32) (M : Mm), VR X G sh 4 rvV M 7 [(0, .ref (G.2.2.2.2 5)), (1, .int x1), (2, .int x2)] [] (n7 x1 x2 M)) : ∀ (x1 : Int32) (x2 : Int32) (s0 : Int32) (M : Mm), VR X G sh 4 rvV M 48 [(0, .ref (G.2.2.2.2 5)), (1, .int x1), (2, .int x2)] [.int s0] (m_X1_readSum_J48  k_X1_readOr k_X1_readAnd k_X1_readNot k_X1_readSum k_X1_readTerm k_X1_readOne n7 x1 x2 s0 M) := by
  intro x1 x2 s0 M
  unfold m_X1_readSum_J48
  refine v_istore_n (lo' := fun y1 => [(3, .int y1), (0, .ref (G.2.2.2.2 5)), (1, .int x1), (2, .int x2)]) 49 hF dX1_readSum_48 rfl rfl (by decide) (fun _ => rfl) (fun y1 => ?_)
  refine v_aload_n 1 50 hF dX1_readSum_49 rfl rfl rfl ?_
  refine v_callV ([]) ([]) 53 hF dX1_readSum_50 rfl cw_X1_43 rfl (hP.1) (c_X1_advance (G := G) hT hP M) (rgT_le (rc := rmX1_advance) (maxL := 2) d rfl rfl (by decide) (by decide)) rfl rfl (Nat.le_of_ble_eq_true rfl) (fun _ M2 => ?_)
  refine v_aload_n 1 54 hF dX1_readSum_53 rfl rfl rfl ?_
  refine v_iload_n 2 55 hF dX1_readSum_54 rfl rfl rfl ?_
  refine v_callV ([.int x1]) ([]) 58 hF dX1_readSum_55 rfl cw_X1_81 rfl (hP.1) (hk_X1_readTerm M2 x1) (rgT_ok d 3 (by decide)) rfl rfl (Nat.le_of_ble_eq_true rfl) (fun _ M3 => ?_)
  refine v_aload_n 1 59 hF dX1_readSum_58 rfl rfl rfl ?_
  refine v_getR (b := 1) 62 hF dX1_readSum_59 rfl fl_X1_15 hP.1 rfl ?_
  refine v_iload_n 0 63 hF dX1_readSum_62 rfl rfl rfl ?_
  refine v_callV ([.int y1]) ([]) 66 hF dX1_readSum_63 rfl cw_X1_70 rfl (hT.1) (c_X2_add (G := G) hT M3 y1) (rgT_le (rc := rmX2_add) (maxL := 2) d rfl rfl (by decide) (by decide)) rfl rfl (Nat.le_of_ble_eq_true rfl) (fun _ M4 => ?_)
  refine v_iinc (v := (x2 + 1)) (lo' := fun y5 => [(2, .int y5), (3, .int y1), (0, .ref (G.2.2.2.2 5)), (1, .int x1)]) 3 69 hF dX1_readSum_66 rfl rfl rfl (by decide) (fun _ => rfl) (fun y5 => ?_)
  refine v_goto 7 hF dX1_readSum_69 (by decide) ?_
  refine VR.pick [2, 3, 0] rfl ?_
  exact h7 x1 y5 M4
set_option maxRecDepth 100000 in
set_option maxHeartbeats 4000000 in
theorem v_X1_readSum_J32 {X : Cx} {G : Gx} {sh : List Sh} {d : Nat} (hF : FX X G sh 4 cX1_readSum (yX1_readSum).cls none (rgT (d + 1))) (hT : TexAt sh) (hP : TapAt sh) {k_X1_readOr : Int32 → Mm → Option (Unit × Mm)} {k_X1_readAnd : Int32 → Mm → Option (Unit × Mm)} {k_X1_readNot : Int32 → Mm → Option (Unit × Mm)} {k_X1_readSum : Int32 → Mm → Option (Unit × Mm)} {k_X1_readTerm : Int32 → Mm → Option (Unit × Mm)} {k_X1_readOne : Int32 → Mm → Option (Unit × Mm)} (hk_X1_readOr : ∀ (M : Mm) (x1 : Int32), CT yX1_readOr cX1_readOr 3 none (rgT d) G sh [.ref (G.2.2.2.2 5), .int x1] rvV M (k_X1_readOr x1 M)) (hk_X1_readAnd : ∀ (M : Mm) (x1 : Int32), CT yX1_readAnd cX1_readAnd 3 none (rgT d) G sh [.ref (G.2.2.2.2 5), .int x1] rvV M (k_X1_readAnd x1 M)) (hk_X1_readNot : ∀ (M : Mm) (x1 : Int32), CT yX1_readNot cX1_readNot 3 none (rgT d) G sh [.ref (G.2.2.2.2 5), .int x1] rvV M (k_X1_readNot x1 M)) (hk_X1_readSum : ∀ (M : Mm) (x1 : Int32), CT yX1_readSum cX1_readSum 4 none (rgT d) G sh [.ref (G.2.2.2.2 5), .int x1] rvV M (k_X1_readSum x1 M)) (hk_X1_readTerm : ∀ (M : Mm) (x1 : Int32), CT yX1_readTerm cX1_readTerm 3 none (rgT d) G sh [.ref (G.2.2.2.2 5), .int x1] rvV M (k_X1_readTerm x1 M)) (hk_X1_readOne : ∀ (M : Mm) (x1 : Int32), CT yX1_readOne cX1_readOne 2 none (rgT d) G sh [.ref (G.2.2.2.2 5), .int x1] rvV M (k_X1_readOne x1 M)) (n7 : Int32 → Int32 → Mm → Option (Unit × Mm)) (h7 : ∀ (x1 : Int32) (x2 : Int32) (M : Mm), VR X G sh 4 rvV M 7 [(0, .ref (G.2.2.2.2 5)), (1, .int x1), (2, .int x2)] [] (n7 x1 x2 M)) : ∀ (x1 : Int32) (x2 : Int32) (M : Mm), VR X G sh 4 rvV M 32 [(0, .ref (G.2.2.2.2 5)), (1, .int x1), (2, .int x2)] [] (m_X1_readSum_J32  k_X1_readOr k_X1_readAnd k_X1_readNot k_X1_readSum k_X1_readTerm k_X1_readOne n7 x1 x2 M) := by
  intro x1 x2 M
  unfold m_X1_readSum_J32
  refine v_aload_n 0 33 hF dX1_readSum_32 rfl rfl rfl ?_
  refine v_getI 36 hF dX1_readSum_33 rfl fl_X1_67 hP.1 rfl ?_
  refine v_bipush (43) 38 hF dX1_readSum_36 rfl (by decide) ?_
  refine v_icmp_ne 41 46 hF dX1_readSum_38 rfl (by decide) (fun _ => ?_) (fun _ => ?_)
  · refine v_bipush (-16) 48 hF dX1_readSum_46 rfl (by decide) ?_
    refine VR.pick [0, 1, 2] rfl ?_
    exact v_X1_readSum_J48 hF hT hP hk_X1_readOr hk_X1_readAnd hk_X1_readNot hk_X1_readSum hk_X1_readTerm hk_X1_readOne _ h7 x1 x2 ((-16 : Int32)) M
  · refine v_bipush (-15) 43 hF dX1_readSum_41 rfl (by decide) ?_
    refine v_goto 48 hF dX1_readSum_43 (by decide) ?_
    refine VR.pick [0, 1, 2] rfl ?_
    exact v_X1_readSum_J48 hF hT hP hk_X1_readOr hk_X1_readAnd hk_X1_readNot hk_X1_readSum hk_X1_readTerm hk_X1_readOne _ h7 x1 x2 ((-15 : Int32)) M
set_option maxRecDepth 100000 in
set_option maxHeartbeats 4000000 in
theorem v_X1_readSum_B7 {X : Cx} {G : Gx} {sh : List Sh} {d : Nat} (hF : FX X G sh 4 cX1_readSum (yX1_readSum).cls none (rgT (d + 1))) (hT : TexAt sh) (hP : TapAt sh) {k_X1_readOr : Int32 → Mm → Option (Unit × Mm)} {k_X1_readAnd : Int32 → Mm → Option (Unit × Mm)} {k_X1_readNot : Int32 → Mm → Option (Unit × Mm)} {k_X1_readSum : Int32 → Mm → Option (Unit × Mm)} {k_X1_readTerm : Int32 → Mm → Option (Unit × Mm)} {k_X1_readOne : Int32 → Mm → Option (Unit × Mm)} (hk_X1_readOr : ∀ (M : Mm) (x1 : Int32), CT yX1_readOr cX1_readOr 3 none (rgT d) G sh [.ref (G.2.2.2.2 5), .int x1] rvV M (k_X1_readOr x1 M)) (hk_X1_readAnd : ∀ (M : Mm) (x1 : Int32), CT yX1_readAnd cX1_readAnd 3 none (rgT d) G sh [.ref (G.2.2.2.2 5), .int x1] rvV M (k_X1_readAnd x1 M)) (hk_X1_readNot : ∀ (M : Mm) (x1 : Int32), CT yX1_readNot cX1_readNot 3 none (rgT d) G sh [.ref (G.2.2.2.2 5), .int x1] rvV M (k_X1_readNot x1 M)) (hk_X1_readSum : ∀ (M : Mm) (x1 : Int32), CT yX1_readSum cX1_readSum 4 none (rgT d) G sh [.ref (G.2.2.2.2 5), .int x1] rvV M (k_X1_readSum x1 M)) (hk_X1_readTerm : ∀ (M : Mm) (x1 : Int32), CT yX1_readTerm cX1_readTerm 3 none (rgT d) G sh [.ref (G.2.2.2.2 5), .int x1] rvV M (k_X1_readTerm x1 M)) (hk_X1_readOne : ∀ (M : Mm) (x1 : Int32), CT yX1_readOne cX1_readOne 2 none (rgT d) G sh [.ref (G.2.2.2.2 5), .int x1] rvV M (k_X1_readOne x1 M)) (n7 : Int32 → Int32 → Mm → Option (Unit × Mm)) (h7 : ∀ (x1 : Int32) (x2 : Int32) (M : Mm), VR X G sh 4 rvV M 7 [(0, .ref (G.2.2.2.2 5)), (1, .int x1), (2, .int x2)] [] (n7 x1 x2 M)) : ∀ (x1 : Int32) (x2 : Int32) (M : Mm), VR X G sh 4 rvV M 7 [(0, .ref (G.2.2.2.2 5)), (1, .int x1), (2, .int x2)] [] (m_X1_readSum_B7  k_X1_readOr k_X1_readAnd k_X1_readNot k_X1_readSum k_X1_readTerm k_X1_readOne n7 x1 x2 M) := by
  intro x1 x2 M
  unfold m_X1_readSum_B7
  refine v_iload_n 2 8 hF dX1_readSum_7 rfl rfl rfl ?_
  refine v_sipush (160) 11 hF dX1_readSum_8 rfl (by decide) ?_
  refine v_icmp_ge 14 72 hF dX1_readSum_11 rfl (by decide) (fun _ => ?_) (fun _ => ?_)
  · exact v_vret hF dX1_readSum_72
  · refine v_aload_n 0 15 hF dX1_readSum_14 rfl rfl rfl ?_
    refine v_getI 18 hF dX1_readSum_15 rfl fl_X1_67 hP.1 rfl ?_
    refine v_bipush (43) 20 hF dX1_readSum_18 rfl (by decide) ?_
    refine v_icmp_eq 23 32 hF dX1_readSum_20 rfl (by decide) (fun _ => ?_) (fun _ => ?_)
    · refine VR.pick [0, 1, 2] rfl ?_
      exact v_X1_readSum_J32 hF hT hP hk_X1_readOr hk_X1_readAnd hk_X1_readNot hk_X1_readSum hk_X1_readTerm hk_X1_readOne _ h7 x1 x2 M
    · refine v_aload_n 0 24 hF dX1_readSum_23 rfl rfl rfl ?_
      refine v_getI 27 hF dX1_readSum_24 rfl fl_X1_67 hP.1 rfl ?_
      refine v_bipush (45) 29 hF dX1_readSum_27 rfl (by decide) ?_
      refine v_icmp_ne 32 72 hF dX1_readSum_29 rfl (by decide) (fun _ => ?_) (fun _ => ?_)
      · exact v_vret hF dX1_readSum_72
      · refine VR.pick [0, 1, 2] rfl ?_
        exact v_X1_readSum_J32 hF hT hP hk_X1_readOr hk_X1_readAnd hk_X1_readNot hk_X1_readSum hk_X1_readTerm hk_X1_readOne _ h7 x1 x2 M
theorem v_X1_readSum_L7 {X : Cx} {G : Gx} {sh : List Sh} {d : Nat} (hF : FX X G sh 4 cX1_readSum (yX1_readSum).cls none (rgT (d + 1))) (hT : TexAt sh) (hP : TapAt sh) {k_X1_readOr : Int32 → Mm → Option (Unit × Mm)} {k_X1_readAnd : Int32 → Mm → Option (Unit × Mm)} {k_X1_readNot : Int32 → Mm → Option (Unit × Mm)} {k_X1_readSum : Int32 → Mm → Option (Unit × Mm)} {k_X1_readTerm : Int32 → Mm → Option (Unit × Mm)} {k_X1_readOne : Int32 → Mm → Option (Unit × Mm)} (hk_X1_readOr : ∀ (M : Mm) (x1 : Int32), CT yX1_readOr cX1_readOr 3 none (rgT d) G sh [.ref (G.2.2.2.2 5), .int x1] rvV M (k_X1_readOr x1 M)) (hk_X1_readAnd : ∀ (M : Mm) (x1 : Int32), CT yX1_readAnd cX1_readAnd 3 none (rgT d) G sh [.ref (G.2.2.2.2 5), .int x1] rvV M (k_X1_readAnd x1 M)) (hk_X1_readNot : ∀ (M : Mm) (x1 : Int32), CT yX1_readNot cX1_readNot 3 none (rgT d) G sh [.ref (G.2.2.2.2 5), .int x1] rvV M (k_X1_readNot x1 M)) (hk_X1_readSum : ∀ (M : Mm) (x1 : Int32), CT yX1_readSum cX1_readSum 4 none (rgT d) G sh [.ref (G.2.2.2.2 5), .int x1] rvV M (k_X1_readSum x1 M)) (hk_X1_readTerm : ∀ (M : Mm) (x1 : Int32), CT yX1_readTerm cX1_readTerm 3 none (rgT d) G sh [.ref (G.2.2.2.2 5), .int x1] rvV M (k_X1_readTerm x1 M)) (hk_X1_readOne : ∀ (M : Mm) (x1 : Int32), CT yX1_readOne cX1_readOne 2 none (rgT d) G sh [.ref (G.2.2.2.2 5), .int x1] rvV M (k_X1_readOne x1 M)) : ∀ (n : Nat), ∀ (x1 : Int32) (x2 : Int32) (M : Mm), VR X G sh 4 rvV M 7 [(0, .ref (G.2.2.2.2 5)), (1, .int x1), (2, .int x2)] [] (m_X1_readSum_L7  k_X1_readOr k_X1_readAnd k_X1_readNot k_X1_readSum k_X1_readTerm k_X1_readOne n x1 x2 M) := by
  intro n
  induction n with
  | zero => intro x1 x2 M; exact VR.none
  | succ n ih => exact v_X1_readSum_B7 hF hT hP hk_X1_readOr hk_X1_readAnd hk_X1_readNot hk_X1_readSum hk_X1_readTerm hk_X1_readOne _ ih
set_option maxRecDepth 100000 in
set_option maxHeartbeats 4000000 in
theorem cb_X1_readSum {G : Gx} {sh : List Sh} {d : Nat} (hT : TexAt sh) (hP : TapAt sh) {k_X1_readOr : Int32 → Mm → Option (Unit × Mm)} {k_X1_readAnd : Int32 → Mm → Option (Unit × Mm)} {k_X1_readNot : Int32 → Mm → Option (Unit × Mm)} {k_X1_readSum : Int32 → Mm → Option (Unit × Mm)} {k_X1_readTerm : Int32 → Mm → Option (Unit × Mm)} {k_X1_readOne : Int32 → Mm → Option (Unit × Mm)} (hk_X1_readOr : ∀ (M : Mm) (x1 : Int32), CT yX1_readOr cX1_readOr 3 none (rgT d) G sh [.ref (G.2.2.2.2 5), .int x1] rvV M (k_X1_readOr x1 M)) (hk_X1_readAnd : ∀ (M : Mm) (x1 : Int32), CT yX1_readAnd cX1_readAnd 3 none (rgT d) G sh [.ref (G.2.2.2.2 5), .int x1] rvV M (k_X1_readAnd x1 M)) (hk_X1_readNot : ∀ (M : Mm) (x1 : Int32), CT yX1_readNot cX1_readNot 3 none (rgT d) G sh [.ref (G.2.2.2.2 5), .int x1] rvV M (k_X1_readNot x1 M)) (hk_X1_readSum : ∀ (M : Mm) (x1 : Int32), CT yX1_readSum cX1_readSum 4 none (rgT d) G sh [.ref (G.2.2.2.2 5), .int x1] rvV M (k_X1_readSum x1 M)) (hk_X1_readTerm : ∀ (M : Mm) (x1 : Int32), CT yX1_readTerm cX1_readTerm 3 none (rgT d) G sh [.ref (G.2.2.2.2 5), .int x1] rvV M (k_X1_readTerm x1 M)) (hk_X1_readOne : ∀ (M : Mm) (x1 : Int32), CT yX1_readOne cX1_readOne 2 none (rgT d) G sh [.ref (G.2.2.2.2 5), .int x1] rvV M (k_X1_readOne x1 M)) (M : Mm) (x1 : Int32) : CT yX1_readSum cX1_readSum 4 none (rgT (d + 1)) G sh [.ref (G.2.2.2.2 5), .int x1] rvV M (mb_X1_readSum  k_X1_readOr k_X1_readAnd k_X1_readNot k_X1_readSum k_X1_readTerm k_X1_readOne x1 M) := by
  refine CT.of (by decide +kernel) (Nat.le_of_ble_eq_true rfl) (fun X hF => ?_)
  show VR X G sh 4 rvV M 0 [(0, .ref (G.2.2.2.2 5)), (1, .int x1)] [] _
  unfold mb_X1_readSum
  refine v_aload_n 0 1 hF dX1_readSum_0 rfl rfl rfl ?_
  refine v_iload_n 1 2 hF dX1_readSum_1 rfl rfl rfl ?_
  refine v_callV ([.int x1]) ([]) 5 hF dX1_readSum_2 rfl cw_X1_81 rfl (hP.1) (hk_X1_readTerm M x1) (rgT_ok d 3 (by decide)) rfl rfl (Nat.le_of_ble_eq_true rfl) (fun _ M6 => ?_)
  refine v_iconst (0) 6 hF dX1_readSum_5 rfl (by decide) ?_
  refine v_istore_n (lo' := fun y7 => [(2, .int y7), (0, .ref (G.2.2.2.2 5)), (1, .int x1)]) 7 hF dX1_readSum_6 rfl rfl (by decide) (fun _ => rfl) (fun y7 => ?_)
  refine VR.pick [1, 2, 0] rfl ?_
  exact v_X1_readSum_L7 hF hT hP hk_X1_readOr hk_X1_readAnd hk_X1_readNot hk_X1_readSum hk_X1_readTerm hk_X1_readOne FU x1 y7 M6
set_option maxRecDepth 100000 in
set_option maxHeartbeats 4000000 in
theorem v_X1_readTerm_B7 {X : Cx} {G : Gx} {sh : List Sh} {d : Nat} (hF : FX X G sh 3 cX1_readTerm (yX1_readTerm).cls none (rgT (d + 1))) (hT : TexAt sh) (hP : TapAt sh) {k_X1_readOr : Int32 → Mm → Option (Unit × Mm)} {k_X1_readAnd : Int32 → Mm → Option (Unit × Mm)} {k_X1_readNot : Int32 → Mm → Option (Unit × Mm)} {k_X1_readSum : Int32 → Mm → Option (Unit × Mm)} {k_X1_readTerm : Int32 → Mm → Option (Unit × Mm)} {k_X1_readOne : Int32 → Mm → Option (Unit × Mm)} (hk_X1_readOr : ∀ (M : Mm) (x1 : Int32), CT yX1_readOr cX1_readOr 3 none (rgT d) G sh [.ref (G.2.2.2.2 5), .int x1] rvV M (k_X1_readOr x1 M)) (hk_X1_readAnd : ∀ (M : Mm) (x1 : Int32), CT yX1_readAnd cX1_readAnd 3 none (rgT d) G sh [.ref (G.2.2.2.2 5), .int x1] rvV M (k_X1_readAnd x1 M)) (hk_X1_readNot : ∀ (M : Mm) (x1 : Int32), CT yX1_readNot cX1_readNot 3 none (rgT d) G sh [.ref (G.2.2.2.2 5), .int x1] rvV M (k_X1_readNot x1 M)) (hk_X1_readSum : ∀ (M : Mm) (x1 : Int32), CT yX1_readSum cX1_readSum 4 none (rgT d) G sh [.ref (G.2.2.2.2 5), .int x1] rvV M (k_X1_readSum x1 M)) (hk_X1_readTerm : ∀ (M : Mm) (x1 : Int32), CT yX1_readTerm cX1_readTerm 3 none (rgT d) G sh [.ref (G.2.2.2.2 5), .int x1] rvV M (k_X1_readTerm x1 M)) (hk_X1_readOne : ∀ (M : Mm) (x1 : Int32), CT yX1_readOne cX1_readOne 2 none (rgT d) G sh [.ref (G.2.2.2.2 5), .int x1] rvV M (k_X1_readOne x1 M)) (n7 : Int32 → Int32 → Mm → Option (Unit × Mm)) (h7 : ∀ (x1 : Int32) (x2 : Int32) (M : Mm), VR X G sh 3 rvV M 7 [(0, .ref (G.2.2.2.2 5)), (1, .int x1), (2, .int x2)] [] (n7 x1 x2 M)) : ∀ (x1 : Int32) (x2 : Int32) (M : Mm), VR X G sh 3 rvV M 7 [(0, .ref (G.2.2.2.2 5)), (1, .int x1), (2, .int x2)] [] (m_X1_readTerm_B7  k_X1_readOr k_X1_readAnd k_X1_readNot k_X1_readSum k_X1_readTerm k_X1_readOne n7 x1 x2 M) := by
  intro x1 x2 M
  unfold m_X1_readTerm_B7
  refine v_iload_n 2 8 hF dX1_readTerm_7 rfl rfl rfl ?_
  refine v_sipush (160) 11 hF dX1_readTerm_8 rfl (by decide) ?_
  refine v_icmp_ge 14 47 hF dX1_readTerm_11 rfl (by decide) (fun _ => ?_) (fun _ => ?_)
  · exact v_vret hF dX1_readTerm_47
  · refine v_aload_n 0 15 hF dX1_readTerm_14 rfl rfl rfl ?_
    refine v_getI 18 hF dX1_readTerm_15 rfl fl_X1_67 hP.1 rfl ?_
    refine v_bipush (42) 20 hF dX1_readTerm_18 rfl (by decide) ?_
    refine v_icmp_ne 23 47 hF dX1_readTerm_20 rfl (by decide) (fun _ => ?_) (fun _ => ?_)
    · exact v_vret hF dX1_readTerm_47
    · refine v_aload_n 0 24 hF dX1_readTerm_23 rfl rfl rfl ?_
      refine v_callV ([]) ([]) 27 hF dX1_readTerm_24 rfl cw_X1_43 rfl (hP.1) (c_X1_advance (G := G) hT hP M) (rgT_le (rc := rmX1_advance) (maxL := 2) d rfl rfl (by decide) (by decide)) rfl rfl (Nat.le_of_ble_eq_true rfl) (fun _ M1 => ?_)
      refine v_aload_n 0 28 hF dX1_readTerm_27 rfl rfl rfl ?_
      refine v_iload_n 1 29 hF dX1_readTerm_28 rfl rfl rfl ?_
      refine v_callV ([.int x1]) ([]) 32 hF dX1_readTerm_29 rfl cw_X1_84 rfl (hP.1) (hk_X1_readOne M1 x1) (rgT_ok d 2 (by decide)) rfl rfl (Nat.le_of_ble_eq_true rfl) (fun _ M2 => ?_)
      refine v_aload_n 0 33 hF dX1_readTerm_32 rfl rfl rfl ?_
      refine v_getR (b := 1) 36 hF dX1_readTerm_33 rfl fl_X1_15 hP.1 rfl ?_
      refine v_bipush (-17) 38 hF dX1_readTerm_36 rfl (by decide) ?_
      refine v_callV ([.int ((-17 : Int32))]) ([]) 41 hF dX1_readTerm_38 rfl cw_X1_70 rfl (hT.1) (c_X2_add (G := G) hT M2 ((-17 : Int32))) (rgT_le (rc := rmX2_add) (maxL := 2) d rfl rfl (by decide) (by decide)) rfl rfl (Nat.le_of_ble_eq_true rfl) (fun _ M3 => ?_)
      refine v_iinc (v := (x2 + 1)) (lo' := fun y4 => [(2, .int y4), (0, .ref (G.2.2.2.2 5)), (1, .int x1)]) 2 44 hF dX1_readTerm_41 rfl rfl rfl (by decide) (fun _ => rfl) (fun y4 => ?_)
      refine v_goto 7 hF dX1_readTerm_44 (by decide) ?_
      refine VR.pick [1, 2, 0] rfl ?_
      exact h7 x1 y4 M3
theorem v_X1_readTerm_L7 {X : Cx} {G : Gx} {sh : List Sh} {d : Nat} (hF : FX X G sh 3 cX1_readTerm (yX1_readTerm).cls none (rgT (d + 1))) (hT : TexAt sh) (hP : TapAt sh) {k_X1_readOr : Int32 → Mm → Option (Unit × Mm)} {k_X1_readAnd : Int32 → Mm → Option (Unit × Mm)} {k_X1_readNot : Int32 → Mm → Option (Unit × Mm)} {k_X1_readSum : Int32 → Mm → Option (Unit × Mm)} {k_X1_readTerm : Int32 → Mm → Option (Unit × Mm)} {k_X1_readOne : Int32 → Mm → Option (Unit × Mm)} (hk_X1_readOr : ∀ (M : Mm) (x1 : Int32), CT yX1_readOr cX1_readOr 3 none (rgT d) G sh [.ref (G.2.2.2.2 5), .int x1] rvV M (k_X1_readOr x1 M)) (hk_X1_readAnd : ∀ (M : Mm) (x1 : Int32), CT yX1_readAnd cX1_readAnd 3 none (rgT d) G sh [.ref (G.2.2.2.2 5), .int x1] rvV M (k_X1_readAnd x1 M)) (hk_X1_readNot : ∀ (M : Mm) (x1 : Int32), CT yX1_readNot cX1_readNot 3 none (rgT d) G sh [.ref (G.2.2.2.2 5), .int x1] rvV M (k_X1_readNot x1 M)) (hk_X1_readSum : ∀ (M : Mm) (x1 : Int32), CT yX1_readSum cX1_readSum 4 none (rgT d) G sh [.ref (G.2.2.2.2 5), .int x1] rvV M (k_X1_readSum x1 M)) (hk_X1_readTerm : ∀ (M : Mm) (x1 : Int32), CT yX1_readTerm cX1_readTerm 3 none (rgT d) G sh [.ref (G.2.2.2.2 5), .int x1] rvV M (k_X1_readTerm x1 M)) (hk_X1_readOne : ∀ (M : Mm) (x1 : Int32), CT yX1_readOne cX1_readOne 2 none (rgT d) G sh [.ref (G.2.2.2.2 5), .int x1] rvV M (k_X1_readOne x1 M)) : ∀ (n : Nat), ∀ (x1 : Int32) (x2 : Int32) (M : Mm), VR X G sh 3 rvV M 7 [(0, .ref (G.2.2.2.2 5)), (1, .int x1), (2, .int x2)] [] (m_X1_readTerm_L7  k_X1_readOr k_X1_readAnd k_X1_readNot k_X1_readSum k_X1_readTerm k_X1_readOne n x1 x2 M) := by
  intro n
  induction n with
  | zero => intro x1 x2 M; exact VR.none
  | succ n ih => exact v_X1_readTerm_B7 hF hT hP hk_X1_readOr hk_X1_readAnd hk_X1_readNot hk_X1_readSum hk_X1_readTerm hk_X1_readOne _ ih
set_option maxRecDepth 100000 in
set_option maxHeartbeats 4000000 in
theorem cb_X1_readTerm {G : Gx} {sh : List Sh} {d : Nat} (hT : TexAt sh) (hP : TapAt sh) {k_X1_readOr : Int32 → Mm → Option (Unit × Mm)} {k_X1_readAnd : Int32 → Mm → Option (Unit × Mm)} {k_X1_readNot : Int32 → Mm → Option (Unit × Mm)} {k_X1_readSum : Int32 → Mm → Option (Unit × Mm)} {k_X1_readTerm : Int32 → Mm → Option (Unit × Mm)} {k_X1_readOne : Int32 → Mm → Option (Unit × Mm)} (hk_X1_readOr : ∀ (M : Mm) (x1 : Int32), CT yX1_readOr cX1_readOr 3 none (rgT d) G sh [.ref (G.2.2.2.2 5), .int x1] rvV M (k_X1_readOr x1 M)) (hk_X1_readAnd : ∀ (M : Mm) (x1 : Int32), CT yX1_readAnd cX1_readAnd 3 none (rgT d) G sh [.ref (G.2.2.2.2 5), .int x1] rvV M (k_X1_readAnd x1 M)) (hk_X1_readNot : ∀ (M : Mm) (x1 : Int32), CT yX1_readNot cX1_readNot 3 none (rgT d) G sh [.ref (G.2.2.2.2 5), .int x1] rvV M (k_X1_readNot x1 M)) (hk_X1_readSum : ∀ (M : Mm) (x1 : Int32), CT yX1_readSum cX1_readSum 4 none (rgT d) G sh [.ref (G.2.2.2.2 5), .int x1] rvV M (k_X1_readSum x1 M)) (hk_X1_readTerm : ∀ (M : Mm) (x1 : Int32), CT yX1_readTerm cX1_readTerm 3 none (rgT d) G sh [.ref (G.2.2.2.2 5), .int x1] rvV M (k_X1_readTerm x1 M)) (hk_X1_readOne : ∀ (M : Mm) (x1 : Int32), CT yX1_readOne cX1_readOne 2 none (rgT d) G sh [.ref (G.2.2.2.2 5), .int x1] rvV M (k_X1_readOne x1 M)) (M : Mm) (x1 : Int32) : CT yX1_readTerm cX1_readTerm 3 none (rgT (d + 1)) G sh [.ref (G.2.2.2.2 5), .int x1] rvV M (mb_X1_readTerm  k_X1_readOr k_X1_readAnd k_X1_readNot k_X1_readSum k_X1_readTerm k_X1_readOne x1 M) := by
  refine CT.of (by decide +kernel) (Nat.le_of_ble_eq_true rfl) (fun X hF => ?_)
  show VR X G sh 3 rvV M 0 [(0, .ref (G.2.2.2.2 5)), (1, .int x1)] [] _
  unfold mb_X1_readTerm
  refine v_aload_n 0 1 hF dX1_readTerm_0 rfl rfl rfl ?_
  refine v_iload_n 1 2 hF dX1_readTerm_1 rfl rfl rfl ?_
  refine v_callV ([.int x1]) ([]) 5 hF dX1_readTerm_2 rfl cw_X1_84 rfl (hP.1) (hk_X1_readOne M x1) (rgT_ok d 2 (by decide)) rfl rfl (Nat.le_of_ble_eq_true rfl) (fun _ M5 => ?_)
  refine v_iconst (0) 6 hF dX1_readTerm_5 rfl (by decide) ?_
  refine v_istore_n (lo' := fun y6 => [(2, .int y6), (0, .ref (G.2.2.2.2 5)), (1, .int x1)]) 7 hF dX1_readTerm_6 rfl rfl (by decide) (fun _ => rfl) (fun y6 => ?_)
  refine VR.pick [1, 2, 0] rfl ?_
  exact v_X1_readTerm_L7 hF hT hP hk_X1_readOr hk_X1_readAnd hk_X1_readNot hk_X1_readSum hk_X1_readTerm hk_X1_readOne FU x1 y6 M5
set_option maxRecDepth 100000 in
set_option maxHeartbeats 4000000 in
theorem v_X1_readOne_J70 {X : Cx} {G : Gx} {sh : List Sh} {d : Nat} (hF : FX X G sh 2 cX1_readOne (yX1_readOne).cls none (rgT (d + 1))) (hT : TexAt sh) (hP : TapAt sh) {k_X1_readOr : Int32 → Mm → Option (Unit × Mm)} {k_X1_readAnd : Int32 → Mm → Option (Unit × Mm)} {k_X1_readNot : Int32 → Mm → Option (Unit × Mm)} {k_X1_readSum : Int32 → Mm → Option (Unit × Mm)} {k_X1_readTerm : Int32 → Mm → Option (Unit × Mm)} {k_X1_readOne : Int32 → Mm → Option (Unit × Mm)} (hk_X1_readOr : ∀ (M : Mm) (x1 : Int32), CT yX1_readOr cX1_readOr 3 none (rgT d) G sh [.ref (G.2.2.2.2 5), .int x1] rvV M (k_X1_readOr x1 M)) (hk_X1_readAnd : ∀ (M : Mm) (x1 : Int32), CT yX1_readAnd cX1_readAnd 3 none (rgT d) G sh [.ref (G.2.2.2.2 5), .int x1] rvV M (k_X1_readAnd x1 M)) (hk_X1_readNot : ∀ (M : Mm) (x1 : Int32), CT yX1_readNot cX1_readNot 3 none (rgT d) G sh [.ref (G.2.2.2.2 5), .int x1] rvV M (k_X1_readNot x1 M)) (hk_X1_readSum : ∀ (M : Mm) (x1 : Int32), CT yX1_readSum cX1_readSum 4 none (rgT d) G sh [.ref (G.2.2.2.2 5), .int x1] rvV M (k_X1_readSum x1 M)) (hk_X1_readTerm : ∀ (M : Mm) (x1 : Int32), CT yX1_readTerm cX1_readTerm 3 none (rgT d) G sh [.ref (G.2.2.2.2 5), .int x1] rvV M (k_X1_readTerm x1 M)) (hk_X1_readOne : ∀ (M : Mm) (x1 : Int32), CT yX1_readOne cX1_readOne 2 none (rgT d) G sh [.ref (G.2.2.2.2 5), .int x1] rvV M (k_X1_readOne x1 M)) : ∀ (x1 : Int32) (M : Mm), VR X G sh 2 rvV M 70 [(0, .ref (G.2.2.2.2 5)), (1, .int x1)] [] (m_X1_readOne_J70  k_X1_readOr k_X1_readAnd k_X1_readNot k_X1_readSum k_X1_readTerm k_X1_readOne x1 M) := by
  intro x1 M
  unfold m_X1_readOne_J70
  refine v_aload_n 0 71 hF dX1_readOne_70 rfl rfl rfl ?_
  refine v_getI 74 hF dX1_readOne_71 rfl fl_X1_67 hP.1 rfl ?_
  refine v_bipush (45) 76 hF dX1_readOne_74 rfl (by decide) ?_
  refine v_icmp_ne 79 106 hF dX1_readOne_76 rfl (by decide) (fun _ => ?_) (fun _ => ?_)
  · refine v_aload_n 0 107 hF dX1_readOne_106 rfl rfl rfl ?_
    refine v_getI 110 hF dX1_readOne_107 rfl fl_X1_67 hP.1 rfl ?_
    refine v_bipush (40) 112 hF dX1_readOne_110 rfl (by decide) ?_
    refine v_icmp_ne 115 139 hF dX1_readOne_112 rfl (by decide) (fun _ => ?_) (fun _ => ?_)
    · refine v_aload_n 0 140 hF dX1_readOne_139 rfl rfl rfl ?_
      refine v_callV ([]) ([]) 143 hF dX1_readOne_140 rfl cw_X1_90 rfl (hP.1) (c_X1_refuse (G := G) hT hP M) (rgT_le (rc := rmX1_refuse) (maxL := 1) d rfl rfl (by decide) (by decide)) rfl rfl (Nat.le_of_ble_eq_true rfl) (fun _ M1 => ?_)
      exact v_vret hF dX1_readOne_143
    · refine v_aload_n 0 116 hF dX1_readOne_115 rfl rfl rfl ?_
      refine v_iload_n 1 117 hF dX1_readOne_116 rfl rfl rfl ?_
      refine v_callI ([.int x1]) ([]) 120 hF dX1_readOne_117 rfl cw_X1_75 rfl (hP.1) (c_X1_opens (G := G) hT hP M x1) (rgT_le (rc := rmX1_opens) (maxL := 2) d rfl rfl (by decide) (by decide)) rfl rfl (Nat.le_of_ble_eq_true rfl) (fun r3 M2 => ?_)
      refine v_if_eq 123 143 hF dX1_readOne_120 rfl (by decide) (fun _ => ?_) (fun _ => ?_)
      · exact v_vret hF dX1_readOne_143
      · refine v_aload_n 0 124 hF dX1_readOne_123 rfl rfl rfl ?_
        refine v_iload_n 1 125 hF dX1_readOne_124 rfl rfl rfl ?_
        refine v_iconst (1) 126 hF dX1_readOne_125 rfl (by decide) ?_
        refine v_iadd 127 hF dX1_readOne_126 rfl ?_
        refine v_callV ([.int ((x1 + (1 : Int32)))]) ([]) 130 hF dX1_readOne_127 rfl cw_X1_55 rfl (hP.1) (hk_X1_readOr M2 ((x1 + (1 : Int32)))) (rgT_ok d 3 (by decide)) rfl rfl (Nat.le_of_ble_eq_true rfl) (fun _ M4 => ?_)
        refine v_aload_n 0 131 hF dX1_readOne_130 rfl rfl rfl ?_
        refine v_bipush (41) 133 hF dX1_readOne_131 rfl (by decide) ?_
        refine v_callV ([.int ((41 : Int32))]) ([]) 136 hF dX1_readOne_133 rfl cw_X1_51 rfl (hP.1) (c_X1_expect (G := G) hT hP M4 ((41 : Int32))) (rgT_le (rc := rmX1_expect) (maxL := 2) d rfl rfl (by decide) (by decide)) rfl rfl (Nat.le_of_ble_eq_true rfl) (fun _ M5 => ?_)
        refine v_goto 143 hF dX1_readOne_136 (by decide) ?_
        exact v_vret hF dX1_readOne_143
  · refine v_aload_n 0 80 hF dX1_readOne_79 rfl rfl rfl ?_
    refine v_iload_n 1 81 hF dX1_readOne_80 rfl rfl rfl ?_
    refine v_callI ([.int x1]) ([]) 84 hF dX1_readOne_81 rfl cw_X1_75 rfl (hP.1) (c_X1_opens (G := G) hT hP M x1) (rgT_le (rc := rmX1_opens) (maxL := 2) d rfl rfl (by decide) (by decide)) rfl rfl (Nat.le_of_ble_eq_true rfl) (fun r7 M6 => ?_)
    refine v_if_eq 87 143 hF dX1_readOne_84 rfl (by decide) (fun _ => ?_) (fun _ => ?_)
    · exact v_vret hF dX1_readOne_143
    · refine v_aload_n 0 88 hF dX1_readOne_87 rfl rfl rfl ?_
      refine v_iload_n 1 89 hF dX1_readOne_88 rfl rfl rfl ?_
      refine v_iconst (1) 90 hF dX1_readOne_89 rfl (by decide) ?_
      refine v_iadd 91 hF dX1_readOne_90 rfl ?_
      refine v_callV ([.int ((x1 + (1 : Int32)))]) ([]) 94 hF dX1_readOne_91 rfl cw_X1_84 rfl (hP.1) (hk_X1_readOne M6 ((x1 + (1 : Int32)))) (rgT_ok d 2 (by decide)) rfl rfl (Nat.le_of_ble_eq_true rfl) (fun _ M8 => ?_)
      refine v_aload_n 0 95 hF dX1_readOne_94 rfl rfl rfl ?_
      refine v_getR (b := 1) 98 hF dX1_readOne_95 rfl fl_X1_15 hP.1 rfl ?_
      refine v_bipush (-22) 100 hF dX1_readOne_98 rfl (by decide) ?_
      refine v_callV ([.int ((-22 : Int32))]) ([]) 103 hF dX1_readOne_100 rfl cw_X1_70 rfl (hT.1) (c_X2_add (G := G) hT M8 ((-22 : Int32))) (rgT_le (rc := rmX2_add) (maxL := 2) d rfl rfl (by decide) (by decide)) rfl rfl (Nat.le_of_ble_eq_true rfl) (fun _ M9 => ?_)
      refine v_goto 143 hF dX1_readOne_103 (by decide) ?_
      exact v_vret hF dX1_readOne_143
set_option maxRecDepth 100000 in
set_option maxHeartbeats 4000000 in
theorem cb_X1_readOne {G : Gx} {sh : List Sh} {d : Nat} (hT : TexAt sh) (hP : TapAt sh) {k_X1_readOr : Int32 → Mm → Option (Unit × Mm)} {k_X1_readAnd : Int32 → Mm → Option (Unit × Mm)} {k_X1_readNot : Int32 → Mm → Option (Unit × Mm)} {k_X1_readSum : Int32 → Mm → Option (Unit × Mm)} {k_X1_readTerm : Int32 → Mm → Option (Unit × Mm)} {k_X1_readOne : Int32 → Mm → Option (Unit × Mm)} (hk_X1_readOr : ∀ (M : Mm) (x1 : Int32), CT yX1_readOr cX1_readOr 3 none (rgT d) G sh [.ref (G.2.2.2.2 5), .int x1] rvV M (k_X1_readOr x1 M)) (hk_X1_readAnd : ∀ (M : Mm) (x1 : Int32), CT yX1_readAnd cX1_readAnd 3 none (rgT d) G sh [.ref (G.2.2.2.2 5), .int x1] rvV M (k_X1_readAnd x1 M)) (hk_X1_readNot : ∀ (M : Mm) (x1 : Int32), CT yX1_readNot cX1_readNot 3 none (rgT d) G sh [.ref (G.2.2.2.2 5), .int x1] rvV M (k_X1_readNot x1 M)) (hk_X1_readSum : ∀ (M : Mm) (x1 : Int32), CT yX1_readSum cX1_readSum 4 none (rgT d) G sh [.ref (G.2.2.2.2 5), .int x1] rvV M (k_X1_readSum x1 M)) (hk_X1_readTerm : ∀ (M : Mm) (x1 : Int32), CT yX1_readTerm cX1_readTerm 3 none (rgT d) G sh [.ref (G.2.2.2.2 5), .int x1] rvV M (k_X1_readTerm x1 M)) (hk_X1_readOne : ∀ (M : Mm) (x1 : Int32), CT yX1_readOne cX1_readOne 2 none (rgT d) G sh [.ref (G.2.2.2.2 5), .int x1] rvV M (k_X1_readOne x1 M)) (M : Mm) (x1 : Int32) : CT yX1_readOne cX1_readOne 2 none (rgT (d + 1)) G sh [.ref (G.2.2.2.2 5), .int x1] rvV M (mb_X1_readOne  k_X1_readOr k_X1_readAnd k_X1_readNot k_X1_readSum k_X1_readTerm k_X1_readOne x1 M) := by
  refine CT.of (by decide +kernel) (Nat.le_of_ble_eq_true rfl) (fun X hF => ?_)
  show VR X G sh 2 rvV M 0 [(0, .ref (G.2.2.2.2 5)), (1, .int x1)] [] _
  unfold mb_X1_readOne
  refine v_aload_n 0 1 hF dX1_readOne_0 rfl rfl rfl ?_
  refine v_getI 4 hF dX1_readOne_1 rfl fl_X1_67 hP.1 rfl ?_
  refine v_iconst (1) 5 hF dX1_readOne_4 rfl (by decide) ?_
  refine v_icmp_ne 8 26 hF dX1_readOne_5 rfl (by decide) (fun _ => ?_) (fun _ => ?_)
  · refine v_aload_n 0 27 hF dX1_readOne_26 rfl rfl rfl ?_
    refine v_getI 30 hF dX1_readOne_27 rfl fl_X1_67 hP.1 rfl ?_
    refine v_sipush (256) 33 hF dX1_readOne_30 rfl (by decide) ?_
    refine v_icmp_lt 36 70 hF dX1_readOne_33 rfl (by decide) (fun _ => ?_) (fun _ => ?_)
    · refine VR.pick [0, 1] rfl ?_
      exact v_X1_readOne_J70 hF hT hP hk_X1_readOr hk_X1_readAnd hk_X1_readNot hk_X1_readSum hk_X1_readTerm hk_X1_readOne x1 M
    · refine v_aload_n 0 37 hF dX1_readOne_36 rfl rfl rfl ?_
      refine v_getI 40 hF dX1_readOne_37 rfl fl_X1_67 hP.1 rfl ?_
      refine v_sipush (262) 43 hF dX1_readOne_40 rfl (by decide) ?_
      refine v_icmp_ge 46 70 hF dX1_readOne_43 rfl (by decide) (fun _ => ?_) (fun _ => ?_)
      · refine VR.pick [0, 1] rfl ?_
        exact v_X1_readOne_J70 hF hT hP hk_X1_readOr hk_X1_readAnd hk_X1_readNot hk_X1_readSum hk_X1_readTerm hk_X1_readOne x1 M
      · refine v_aload_n 0 47 hF dX1_readOne_46 rfl rfl rfl ?_
        refine v_getR (b := 1) 50 hF dX1_readOne_47 rfl fl_X1_15 hP.1 rfl ?_
        refine v_iconst (-1) 51 hF dX1_readOne_50 rfl (by decide) ?_
        refine v_aload_n 0 52 hF dX1_readOne_51 rfl rfl rfl ?_
        refine v_getI 55 hF dX1_readOne_52 rfl fl_X1_67 hP.1 rfl ?_
        refine v_sipush (256) 58 hF dX1_readOne_55 rfl (by decide) ?_
        refine v_isub 59 hF dX1_readOne_58 rfl ?_
        refine v_isub 60 hF dX1_readOne_59 rfl ?_
        refine v_callV ([.int (((-1 : Int32) - ((M 5 3) - (256 : Int32))))]) ([]) 63 hF dX1_readOne_60 rfl cw_X1_70 rfl (hT.1) (c_X2_add (G := G) hT M (((-1 : Int32) - ((M 5 3) - (256 : Int32))))) (rgT_le (rc := rmX2_add) (maxL := 2) d rfl rfl (by decide) (by decide)) rfl rfl (Nat.le_of_ble_eq_true rfl) (fun _ M10 => ?_)
        refine v_aload_n 0 64 hF dX1_readOne_63 rfl rfl rfl ?_
        refine v_callV ([]) ([]) 67 hF dX1_readOne_64 rfl cw_X1_43 rfl (hP.1) (c_X1_advance (G := G) hT hP M10) (rgT_le (rc := rmX1_advance) (maxL := 2) d rfl rfl (by decide) (by decide)) rfl rfl (Nat.le_of_ble_eq_true rfl) (fun _ M11 => ?_)
        refine v_goto 143 hF dX1_readOne_67 (by decide) ?_
        exact v_vret hF dX1_readOne_143
  · refine v_aload_n 0 9 hF dX1_readOne_8 rfl rfl rfl ?_
    refine v_getR (b := 1) 12 hF dX1_readOne_9 rfl fl_X1_15 hP.1 rfl ?_
    refine v_aload_n 0 13 hF dX1_readOne_12 rfl rfl rfl ?_
    refine v_getI 16 hF dX1_readOne_13 rfl fl_X1_87 hP.1 rfl ?_
    refine v_callV ([.int ((M 5 6))]) ([]) 19 hF dX1_readOne_16 rfl cw_X1_70 rfl (hT.1) (c_X2_add (G := G) hT M ((M 5 6))) (rgT_le (rc := rmX2_add) (maxL := 2) d rfl rfl (by decide) (by decide)) rfl rfl (Nat.le_of_ble_eq_true rfl) (fun _ M12 => ?_)
    refine v_aload_n 0 20 hF dX1_readOne_19 rfl rfl rfl ?_
    refine v_callV ([]) ([]) 23 hF dX1_readOne_20 rfl cw_X1_43 rfl (hP.1) (c_X1_advance (G := G) hT hP M12) (rgT_le (rc := rmX1_advance) (maxL := 2) d rfl rfl (by decide) (by decide)) rfl rfl (Nat.le_of_ble_eq_true rfl) (fun _ M13 => ?_)
    refine v_goto 143 hF dX1_readOne_23 (by decide) ?_
    exact v_vret hF dX1_readOne_143
set_option maxRecDepth 100000 in
set_option maxHeartbeats 4000000 in
theorem cg_rgT {G : Gx} {sh : List Sh} (hT : TexAt sh) (hP : TapAt sh) : ∀ d : Nat, (∀ (M : Mm) (x1 : Int32), CT yX1_readOr cX1_readOr 3 none (rgT d) G sh [.ref (G.2.2.2.2 5), .int x1] rvV M ((g_rgT d).1 x1 M)) ∧ (∀ (M : Mm) (x1 : Int32), CT yX1_readAnd cX1_readAnd 3 none (rgT d) G sh [.ref (G.2.2.2.2 5), .int x1] rvV M ((g_rgT d).2.1 x1 M)) ∧ (∀ (M : Mm) (x1 : Int32), CT yX1_readNot cX1_readNot 3 none (rgT d) G sh [.ref (G.2.2.2.2 5), .int x1] rvV M ((g_rgT d).2.2.1 x1 M)) ∧ (∀ (M : Mm) (x1 : Int32), CT yX1_readSum cX1_readSum 4 none (rgT d) G sh [.ref (G.2.2.2.2 5), .int x1] rvV M ((g_rgT d).2.2.2.1 x1 M)) ∧ (∀ (M : Mm) (x1 : Int32), CT yX1_readTerm cX1_readTerm 3 none (rgT d) G sh [.ref (G.2.2.2.2 5), .int x1] rvV M ((g_rgT d).2.2.2.2.1 x1 M)) ∧ (∀ (M : Mm) (x1 : Int32), CT yX1_readOne cX1_readOne 2 none (rgT d) G sh [.ref (G.2.2.2.2 5), .int x1] rvV M ((g_rgT d).2.2.2.2.2 x1 M)) := by
  intro d
  induction d with
  | zero => exact ⟨fun _ _ => CT.none, fun _ _ => CT.none, fun _ _ => CT.none, fun _ _ => CT.none, fun _ _ => CT.none, fun _ _ => CT.none⟩
  | succ d ih => exact ⟨fun M x1 => cb_X1_readOr hT hP (ih.1) (ih.2.1) (ih.2.2.1) (ih.2.2.2.1) (ih.2.2.2.2.1) (ih.2.2.2.2.2) M x1, fun M x1 => cb_X1_readAnd hT hP (ih.1) (ih.2.1) (ih.2.2.1) (ih.2.2.2.1) (ih.2.2.2.2.1) (ih.2.2.2.2.2) M x1, fun M x1 => cb_X1_readNot hT hP (ih.1) (ih.2.1) (ih.2.2.1) (ih.2.2.2.1) (ih.2.2.2.2.1) (ih.2.2.2.2.2) M x1, fun M x1 => cb_X1_readSum hT hP (ih.1) (ih.2.1) (ih.2.2.1) (ih.2.2.2.1) (ih.2.2.2.2.1) (ih.2.2.2.2.2) M x1, fun M x1 => cb_X1_readTerm hT hP (ih.1) (ih.2.1) (ih.2.2.1) (ih.2.2.2.1) (ih.2.2.2.2.1) (ih.2.2.2.2.2) M x1, fun M x1 => cb_X1_readOne hT hP (ih.1) (ih.2.1) (ih.2.2.1) (ih.2.2.2.1) (ih.2.2.2.2.1) (ih.2.2.2.2.2) M x1⟩
theorem c_X1_readOr {G : Gx} {sh : List Sh} (hT : TexAt sh) (hP : TapAt sh) (M : Mm) (x1 : Int32) : CT yX1_readOr cX1_readOr 3 none (rgT 60) G sh [.ref (G.2.2.2.2 5), .int x1] rvV M (m_X1_readOr x1 M) := (cg_rgT hT hP 60).1 M x1
theorem c_X1_readAnd {G : Gx} {sh : List Sh} (hT : TexAt sh) (hP : TapAt sh) (M : Mm) (x1 : Int32) : CT yX1_readAnd cX1_readAnd 3 none (rgT 60) G sh [.ref (G.2.2.2.2 5), .int x1] rvV M (m_X1_readAnd x1 M) := (cg_rgT hT hP 60).2.1 M x1
theorem c_X1_readNot {G : Gx} {sh : List Sh} (hT : TexAt sh) (hP : TapAt sh) (M : Mm) (x1 : Int32) : CT yX1_readNot cX1_readNot 3 none (rgT 60) G sh [.ref (G.2.2.2.2 5), .int x1] rvV M (m_X1_readNot x1 M) := (cg_rgT hT hP 60).2.2.1 M x1
theorem c_X1_readSum {G : Gx} {sh : List Sh} (hT : TexAt sh) (hP : TapAt sh) (M : Mm) (x1 : Int32) : CT yX1_readSum cX1_readSum 4 none (rgT 60) G sh [.ref (G.2.2.2.2 5), .int x1] rvV M (m_X1_readSum x1 M) := (cg_rgT hT hP 60).2.2.2.1 M x1
theorem c_X1_readTerm {G : Gx} {sh : List Sh} (hT : TexAt sh) (hP : TapAt sh) (M : Mm) (x1 : Int32) : CT yX1_readTerm cX1_readTerm 3 none (rgT 60) G sh [.ref (G.2.2.2.2 5), .int x1] rvV M (m_X1_readTerm x1 M) := (cg_rgT hT hP 60).2.2.2.2.1 M x1
theorem c_X1_readOne {G : Gx} {sh : List Sh} (hT : TexAt sh) (hP : TapAt sh) (M : Mm) (x1 : Int32) : CT yX1_readOne cX1_readOne 2 none (rgT 60) G sh [.ref (G.2.2.2.2 5), .int x1] rvV M (m_X1_readOne x1 M) := (cg_rgT hT hP 60).2.2.2.2.2 M x1
abbrev rmX2_hasRoom : Room := { frames := 0, cells := 0, slots := 0, locals := 0 }
def m_X2_hasRoom  (M : Mm) : Option (Int32 × Mm) := if (6 : Int32) ≤ (M 1 0) then (some ((0 : Int32), M)) else (some ((1 : Int32), M))
set_option maxRecDepth 100000 in
set_option maxHeartbeats 4000000 in
theorem c_X2_hasRoom {G : Gx} {sh : List Sh} (hT : TexAt sh) (M : Mm)  : CT yX2_hasRoom cX2_hasRoom 1 (some .boolean) rmX2_hasRoom G sh [.ref (G.2.2.2.2 1)] rvI M (m_X2_hasRoom   M) := by
  refine CT.of (by decide +kernel) (Nat.le_of_ble_eq_true rfl) (fun X hF => ?_)
  show VR X G sh 1 rvI M 0 [(0, .ref (G.2.2.2.2 1))] [] _
  unfold m_X2_hasRoom
  refine v_aload_n 0 1 hF dX2_hasRoom_0 rfl rfl rfl ?_
  refine v_getI 4 hF dX2_hasRoom_1 rfl fl_X2_21 hT.1 rfl ?_
  refine v_bipush (6) 6 hF dX2_hasRoom_4 rfl (by decide) ?_
  refine v_icmp_ge 9 13 hF dX2_hasRoom_6 rfl (by decide) (fun _ => ?_) (fun _ => ?_)
  · refine v_iconst (0) 14 hF dX2_hasRoom_13 rfl (by decide) ?_
    exact v_zret0 hF dX2_hasRoom_14 rfl
  · refine v_iconst (1) 10 hF dX2_hasRoom_9 rfl (by decide) ?_
    refine v_goto 14 hF dX2_hasRoom_10 (by decide) ?_
    exact v_zret0 hF dX2_hasRoom_14 rfl
abbrev rmX2_begin : Room := { frames := 1, cells := 0, slots := 0, locals := 20 }
def m_X2_begin_J27 (s0 : Int32) (M : Mm) : Option (Unit × Mm) := lt1 (up M 1 9 s0) fun M1 => some ((), M1)
def m_X2_begin  (M : Mm) : Option (Unit × Mm) := bd (m_X2_hasRoom M) fun r3 M2 => if r3 = 0 then (m_X2_begin_J27 ((960 : Int32)) M2) else (gd (inr (((M2 1 0) * (3 : Int32))) 19) (m_X2_begin_J27 ((M2 3 (((M2 1 0) * (3 : Int32))).toNatClampNeg)) M2))
set_option maxRecDepth 100000 in
set_option maxHeartbeats 4000000 in
theorem v_X2_begin_J27 {X : Cx} {G : Gx} {sh : List Sh} (hF : FX X G sh 1 cX2_begin (yX2_begin).cls none rmX2_begin) (hT : TexAt sh) : ∀ (s0 : Int32) (M : Mm), VR X G sh 1 rvV M 27 [(0, .ref (G.2.2.2.2 1))] [.int s0, .ref (G.2.2.2.2 1)] (m_X2_begin_J27  s0 M) := by
  intro s0 M
  unfold m_X2_begin_J27
  refine v_putI 30 hF dX2_begin_27 rfl fl_X2_29 fp_X2_9 hT.1 rfl (fun M1 => ?_)
  exact v_vret hF dX2_begin_30
set_option maxRecDepth 100000 in
set_option maxHeartbeats 4000000 in
theorem c_X2_begin {G : Gx} {sh : List Sh} (hT : TexAt sh) (M : Mm)  : CT yX2_begin cX2_begin 1 none rmX2_begin G sh [.ref (G.2.2.2.2 1)] rvV M (m_X2_begin   M) := by
  refine CT.of (by decide +kernel) (Nat.le_of_ble_eq_true rfl) (fun X hF => ?_)
  show VR X G sh 1 rvV M 0 [(0, .ref (G.2.2.2.2 1))] [] _
  unfold m_X2_begin
  refine v_aload_n 0 1 hF dX2_begin_0 rfl rfl rfl ?_
  refine v_aload_n 0 2 hF dX2_begin_1 rfl rfl rfl ?_
  refine v_callI ([]) ([.ref (G.2.2.2.2 1)]) 5 hF dX2_begin_2 rfl cw_X2_25 rfl (hT.1) (c_X2_hasRoom (G := G) hT M) ⟨rfl, rfl, Nat.le_of_ble_eq_true rfl, Nat.le_of_ble_eq_true rfl⟩ rfl rfl (Nat.le_of_ble_eq_true rfl) (fun r3 M2 => ?_)
  refine v_if_eq 8 22 hF dX2_begin_5 rfl (by decide) (fun _ => ?_) (fun _ => ?_)
  · refine v_aload_n 0 23 hF dX2_begin_22 rfl rfl rfl ?_
    refine v_getR (b := 2) 26 hF dX2_begin_23 rfl fl_X2_11 hT.1 rfl ?_
    refine v_alen 960 27 hF dX2_begin_26 rfl (hT.2.1) (Or.inl rfl) (by decide) ?_
    refine VR.pick [0] rfl ?_
    exact v_X2_begin_J27 hF hT ((960 : Int32)) M2
  · refine v_aload_n 0 9 hF dX2_begin_8 rfl rfl rfl ?_
    refine v_getR (b := 3) 12 hF dX2_begin_9 rfl fl_X2_15 hT.1 rfl ?_
    refine v_aload_n 0 13 hF dX2_begin_12 rfl rfl rfl ?_
    refine v_getI 16 hF dX2_begin_13 rfl fl_X2_21 hT.1 rfl ?_
    refine v_iconst (3) 17 hF dX2_begin_16 rfl (by decide) ?_
    refine v_imul 18 hF dX2_begin_17 rfl ?_
    refine v_iald 19 hF dX2_begin_18 rfl (hT.2.2.1) ?_
    refine v_goto 27 hF dX2_begin_19 (by decide) ?_
    refine VR.pick [0] rfl ?_
    exact v_X2_begin_J27 hF hT ((M2 3 (((M2 1 0) * (3 : Int32))).toNatClampNeg)) M2
