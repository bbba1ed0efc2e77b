abbrev rgM (d : Nat) : Room := { frames := d + 3, cells := 0, slots := 0, locals := 48 * d + 72 }
theorem rgM_ok (d maxL : Nat) (h : maxL ≤ 29) : rmok (rgM d) (rgM (d + 1)) maxL := ⟨rfl, rfl, by show d + 3 + 1 ≤ d + 1 + 3; omega, by show 8 + (maxL + 11) + (48 * d + 72) ≤ 48 * (d + 1) + 72; omega⟩
theorem rgM_le {rc : Room} {maxL : Nat} (d : Nat) (h1 : rc.cells = 0) (h2 : rc.slots = 0) (h3 : rc.frames ≤ 3) (h4 : rc.locals + maxL ≤ 72) : rmok rc (rgM (d + 1)) maxL := ⟨h1, h2, by show rc.frames + 1 ≤ d + 1 + 3; omega, by show 8 + (maxL + 11) + rc.locals ≤ 48 * (d + 1) + 72; omega⟩
def m_X5_either_J44 (k_X5_either : Mm → Option (Int32 × Mm)) (k_X5_both : Mm → Option (Int32 × Mm)) (k_X5_not : Mm → Option (Int32 × Mm)) (k_X5_added : Mm → Option (Int32 × Mm)) (k_X5_term : Mm → Option (Int32 × Mm)) (k_X5_atom : Mm → Option (Int32 × Mm)) (n5 : Int32 → Mm → Option (Int32 × Mm)) (s0 : Int32) (M : Mm) : Option (Int32 × Mm) := lt1 s0 fun y1 => n5 y1 M
def m_X5_either_J39 (k_X5_either : Mm → Option (Int32 × Mm)) (k_X5_both : Mm → Option (Int32 × Mm)) (k_X5_not : Mm → Option (Int32 × Mm)) (k_X5_added : Mm → Option (Int32 × Mm)) (k_X5_term : Mm → Option (Int32 × Mm)) (k_X5_atom : Mm → Option (Int32 × Mm)) (n5 : Int32 → Mm → Option (Int32 × Mm))  (M : Mm) : Option (Int32 × Mm) := m_X5_either_J44 k_X5_either k_X5_both k_X5_not k_X5_added k_X5_term k_X5_atom n5 ((1 : Int32)) M
def m_X5_either_B5 (k_X5_either : Mm → Option (Int32 × Mm)) (k_X5_both : Mm → Option (Int32 × Mm)) (k_X5_not : Mm → Option (Int32 × Mm)) (k_X5_added : Mm → Option (Int32 × Mm)) (k_X5_term : Mm → Option (Int32 × Mm)) (k_X5_atom : Mm → Option (Int32 × Mm)) (n5 : Int32 → Mm → Option (Int32 × Mm)) (x1 : Int32) (M : Mm) : Option (Int32 × Mm) := bd (m_X5_isWord ((111 : Int32)) ((114 : Int32)) ((0 : Int32)) ((0 : Int32)) ((0 : Int32)) ((0 : Int32)) ((0 : Int32)) ((0 : Int32)) M) fun r3 M2 => if r3 = 0 then (some (x1, M2)) else (bd (m_X5_next M2) fun _ M4 => bd (k_X5_both M4) fun r6 M5 => lt1 r6 fun y7 => if x1 = 0 then (if y7 = 0 then (m_X5_either_J44 k_X5_either k_X5_both k_X5_not k_X5_added k_X5_term k_X5_atom n5 ((0 : Int32)) M5) else (m_X5_either_J39 k_X5_either k_X5_both k_X5_not k_X5_added k_X5_term k_X5_atom n5 M5)) else (m_X5_either_J39 k_X5_either k_X5_both k_X5_not k_X5_added k_X5_term k_X5_atom n5 M5))
def m_X5_either_L5 (k_X5_either : Mm → Option (Int32 × Mm)) (k_X5_both : Mm → Option (Int32 × Mm)) (k_X5_not : Mm → Option (Int32 × Mm)) (k_X5_added : Mm → Option (Int32 × Mm)) (k_X5_term : Mm → Option (Int32 × Mm)) (k_X5_atom : Mm → Option (Int32 × Mm)) : Nat → Int32 → Mm → Option (Int32 × Mm)
  | 0 => fun _ _ => none
  | n + 1 => m_X5_either_B5  k_X5_either k_X5_both k_X5_not k_X5_added k_X5_term k_X5_atom (m_X5_either_L5  k_X5_either k_X5_both k_X5_not k_X5_added k_X5_term k_X5_atom n)
def mb_X5_either (k_X5_either : Mm → Option (Int32 × Mm)) (k_X5_both : Mm → Option (Int32 × Mm)) (k_X5_not : Mm → Option (Int32 × Mm)) (k_X5_added : Mm → Option (Int32 × Mm)) (k_X5_term : Mm → Option (Int32 × Mm)) (k_X5_atom : Mm → Option (Int32 × Mm))  (M : Mm) : Option (Int32 × Mm) := bd (k_X5_both M) fun r9 M8 => lt1 r9 fun y10 => m_X5_either_L5 k_X5_either k_X5_both k_X5_not k_X5_added k_X5_term k_X5_atom FU y10 M8
def m_X5_both_J45 (k_X5_either : Mm → Option (Int32 × Mm)) (k_X5_both : Mm → Option (Int32 × Mm)) (k_X5_not : Mm → Option (Int32 × Mm)) (k_X5_added : Mm → Option (Int32 × Mm)) (k_X5_term : Mm → Option (Int32 × Mm)) (k_X5_atom : Mm → Option (Int32 × Mm)) (n5 : Int32 → Mm → Option (Int32 × Mm)) (s0 : Int32) (M : Mm) : Option (Int32 × Mm) := lt1 s0 fun y1 => n5 y1 M
def m_X5_both_J44 (k_X5_either : Mm → Option (Int32 × Mm)) (k_X5_both : Mm → Option (Int32 × Mm)) (k_X5_not : Mm → Option (Int32 × Mm)) (k_X5_added : Mm → Option (Int32 × Mm)) (k_X5_term : Mm → Option (Int32 × Mm)) (k_X5_atom : Mm → Option (Int32 × Mm)) (n5 : Int32 → Mm → Option (Int32 × Mm))  (M : Mm) : Option (Int32 × Mm) := m_X5_both_J45 k_X5_either k_X5_both k_X5_not k_X5_added k_X5_term k_X5_atom n5 ((0 : Int32)) M
def m_X5_both_B5 (k_X5_either : Mm → Option (Int32 × Mm)) (k_X5_both : Mm → Option (Int32 × Mm)) (k_X5_not : Mm → Option (Int32 × Mm)) (k_X5_added : Mm → Option (Int32 × Mm)) (k_X5_term : Mm → Option (Int32 × Mm)) (k_X5_atom : Mm → Option (Int32 × Mm)) (n5 : Int32 → Mm → Option (Int32 × Mm)) (x1 : Int32) (M : Mm) : Option (Int32 × Mm) := bd (m_X5_isWord ((97 : Int32)) ((110 : Int32)) ((100 : Int32)) ((0 : Int32)) ((0 : Int32)) ((0 : Int32)) ((0 : Int32)) ((0 : Int32)) M) fun r3 M2 => if r3 = 0 then (some (x1, M2)) else (bd (m_X5_next M2) fun _ M4 => bd (k_X5_not M4) fun r6 M5 => lt1 r6 fun y7 => if x1 = 0 then (m_X5_both_J44 k_X5_either k_X5_both k_X5_not k_X5_added k_X5_term k_X5_atom n5 M5) else (if y7 = 0 then (m_X5_both_J44 k_X5_either k_X5_both k_X5_not k_X5_added k_X5_term k_X5_atom n5 M5) else (m_X5_both_J45 k_X5_either k_X5_both k_X5_not k_X5_added k_X5_term k_X5_atom n5 ((1 : Int32)) M5)))
def m_X5_both_L5 (k_X5_either : Mm → Option (Int32 × Mm)) (k_X5_both : Mm → Option (Int32 × Mm)) (k_X5_not : Mm → Option (Int32 × Mm)) (k_X5_added : Mm → Option (Int32 × Mm)) (k_X5_term : Mm → Option (Int32 × Mm)) (k_X5_atom : Mm → Option (Int32 × Mm)) : Nat → Int32 → Mm → Option (Int32 × Mm)
  | 0 => fun _ _ => none
  | n + 1 => m_X5_both_B5  k_X5_either k_X5_both k_X5_not k_X5_added k_X5_term k_X5_atom (m_X5_both_L5  k_X5_either k_X5_both k_X5_not k_X5_added k_X5_term k_X5_atom n)
def mb_X5_both (k_X5_either : Mm → Option (Int32 × Mm)) (k_X5_both : Mm → Option (Int32 × Mm)) (k_X5_not : Mm → Option (Int32 × Mm)) (k_X5_added : Mm → Option (Int32 × Mm)) (k_X5_term : Mm → Option (Int32 × Mm)) (k_X5_atom : Mm → Option (Int32 × Mm))  (M : Mm) : Option (Int32 × Mm) := bd (k_X5_not M) fun r9 M8 => lt1 r9 fun y10 => m_X5_both_L5 k_X5_either k_X5_both k_X5_not k_X5_added k_X5_term k_X5_atom FU y10 M8
def m_X5_not_J120 (k_X5_either : Mm → Option (Int32 × Mm)) (k_X5_both : Mm → Option (Int32 × Mm)) (k_X5_not : Mm → Option (Int32 × Mm)) (k_X5_added : Mm → Option (Int32 × Mm)) (k_X5_term : Mm → Option (Int32 × Mm)) (k_X5_atom : Mm → Option (Int32 × Mm))  (M : Mm) : Option (Int32 × Mm) := some ((1 : Int32), M)
def m_X5_not_J93 (k_X5_either : Mm → Option (Int32 × Mm)) (k_X5_both : Mm → Option (Int32 × Mm)) (k_X5_not : Mm → Option (Int32 × Mm)) (k_X5_added : Mm → Option (Int32 × Mm)) (k_X5_term : Mm → Option (Int32 × Mm)) (k_X5_atom : Mm → Option (Int32 × Mm)) (x1 : Int32) (s0 : Int32) (M : Mm) : Option (Int32 × Mm) := lt1 s0 fun y1 => bd (m_X5_next M) fun _ M2 => bd (k_X5_added M2) fun r4 M3 => lt1 r4 fun y5 => if y1 = 0 then (if x1 = y5 then (m_X5_not_J120 k_X5_either k_X5_both k_X5_not k_X5_added k_X5_term k_X5_atom M3) else (some ((0 : Int32), M3))) else (if y5 ≤ x1 then (some ((0 : Int32), M3)) else (m_X5_not_J120 k_X5_either k_X5_both k_X5_not k_X5_added k_X5_term k_X5_atom M3))
def m_X5_not_J77 (k_X5_either : Mm → Option (Int32 × Mm)) (k_X5_both : Mm → Option (Int32 × Mm)) (k_X5_not : Mm → Option (Int32 × Mm)) (k_X5_added : Mm → Option (Int32 × Mm)) (k_X5_term : Mm → Option (Int32 × Mm)) (k_X5_atom : Mm → Option (Int32 × Mm)) (x1 : Int32) (M : Mm) : Option (Int32 × Mm) := if (lg_cmp ((M 0 25).toInt64) ((60 : Int64))) = 0 then (m_X5_not_J93 k_X5_either k_X5_both k_X5_not k_X5_added k_X5_term k_X5_atom x1 ((1 : Int32)) M) else (m_X5_not_J93 k_X5_either k_X5_both k_X5_not k_X5_added k_X5_term k_X5_atom x1 ((0 : Int32)) M)
def mb_X5_not (k_X5_either : Mm → Option (Int32 × Mm)) (k_X5_both : Mm → Option (Int32 × Mm)) (k_X5_not : Mm → Option (Int32 × Mm)) (k_X5_added : Mm → Option (Int32 × Mm)) (k_X5_term : Mm → Option (Int32 × Mm)) (k_X5_atom : Mm → Option (Int32 × Mm))  (M : Mm) : Option (Int32 × Mm) := bd (m_X5_isWord ((110 : Int32)) ((111 : Int32)) ((116 : Int32)) ((0 : Int32)) ((0 : Int32)) ((0 : Int32)) ((0 : Int32)) ((0 : Int32)) M) fun r7 M6 => if r7 = 0 then (bd (k_X5_added M6) fun r9 M8 => lt1 r9 fun y10 => bd (m_X5_isSign ((60 : Int32)) M8) fun r12 M11 => if r12 = 0 then (bd (m_X5_isSign ((61 : Int32)) M11) fun r14 M13 => if r14 = 0 then (some (y10, M13)) else (m_X5_not_J77 k_X5_either k_X5_both k_X5_not k_X5_added k_X5_term k_X5_atom y10 M13)) else (m_X5_not_J77 k_X5_either k_X5_both k_X5_not k_X5_added k_X5_term k_X5_atom y10 M11)) else (bd (m_X5_opens M6) fun r16 M15 => if r16 = 0 then (some ((0 : Int32), M15)) else (bd (k_X5_not M15) fun r18 M17 => lt1 r18 fun y19 => lt1 (up M17 0 26 (((M17 0 26) - (1 : Int32)))) fun M20 => if y19 = 0 then (some ((1 : Int32), M20)) else (some ((0 : Int32), M20))))
def m_X5_added_J62 (k_X5_either : Mm → Option (Int32 × Mm)) (k_X5_both : Mm → Option (Int32 × Mm)) (k_X5_not : Mm → Option (Int32 × Mm)) (k_X5_added : Mm → Option (Int32 × Mm)) (k_X5_term : Mm → Option (Int32 × Mm)) (k_X5_atom : Mm → Option (Int32 × Mm)) (n5 : Int32 → Mm → Option (Int32 × Mm)) (s0 : Int32) (M : Mm) : Option (Int32 × Mm) := lt1 s0 fun y1 => n5 y1 M
def m_X5_added_J39 (k_X5_either : Mm → Option (Int32 × Mm)) (k_X5_both : Mm → Option (Int32 × Mm)) (k_X5_not : Mm → Option (Int32 × Mm)) (k_X5_added : Mm → Option (Int32 × Mm)) (k_X5_term : Mm → Option (Int32 × Mm)) (k_X5_atom : Mm → Option (Int32 × Mm)) (n5 : Int32 → Mm → Option (Int32 × Mm)) (x1 : Int32) (s0 : Int32) (M : Mm) : Option (Int32 × Mm) := lt1 s0 fun y2 => bd (m_X5_next M) fun _ M3 => bd (k_X5_term M3) fun r5 M4 => lt1 r5 fun y6 => if y2 = 0 then (m_X5_added_J62 k_X5_either k_X5_both k_X5_not k_X5_added k_X5_term k_X5_atom n5 ((x1 - y6)) M4) else (m_X5_added_J62 k_X5_either k_X5_both k_X5_not k_X5_added k_X5_term k_X5_atom n5 ((x1 + y6)) M4)
def m_X5_added_J23 (k_X5_either : Mm → Option (Int32 × Mm)) (k_X5_both : Mm → Option (Int32 × Mm)) (k_X5_not : Mm → Option (Int32 × Mm)) (k_X5_added : Mm → Option (Int32 × Mm)) (k_X5_term : Mm → Option (Int32 × Mm)) (k_X5_atom : Mm → Option (Int32 × Mm)) (n5 : Int32 → Mm → Option (Int32 × Mm)) (x1 : Int32) (M : Mm) : Option (Int32 × Mm) := if (lg_cmp ((M 0 25).toInt64) ((43 : Int64))) = 0 then (m_X5_added_J39 k_X5_either k_X5_both k_X5_not k_X5_added k_X5_term k_X5_atom n5 x1 ((1 : Int32)) M) else (m_X5_added_J39 k_X5_either k_X5_both k_X5_not k_X5_added k_X5_term k_X5_atom n5 x1 ((0 : Int32)) M)
def m_X5_added_B5 (k_X5_either : Mm → Option (Int32 × Mm)) (k_X5_both : Mm → Option (Int32 × Mm)) (k_X5_not : Mm → Option (Int32 × Mm)) (k_X5_added : Mm → Option (Int32 × Mm)) (k_X5_term : Mm → Option (Int32 × Mm)) (k_X5_atom : Mm → Option (Int32 × Mm)) (n5 : Int32 → Mm → Option (Int32 × Mm)) (x1 : Int32) (M : Mm) : Option (Int32 × Mm) := bd (m_X5_isSign ((43 : Int32)) M) fun r8 M7 => if r8 = 0 then (bd (m_X5_isSign ((45 : Int32)) M7) fun r10 M9 => if r10 = 0 then (some (x1, M9)) else (m_X5_added_J23 k_X5_either k_X5_both k_X5_not k_X5_added k_X5_term k_X5_atom n5 x1 M9)) else (m_X5_added_J23 k_X5_either k_X5_both k_X5_not k_X5_added k_X5_term k_X5_atom n5 x1 M7)
def m_X5_added_L5 (k_X5_either : Mm → Option (Int32 × Mm)) (k_X5_both : Mm → Option (Int32 × Mm)) (k_X5_not : Mm → Option (Int32 × Mm)) (k_X5_added : Mm → Option (Int32 × Mm)) (k_X5_term : Mm → Option (Int32 × Mm)) (k_X5_atom : Mm → Option (Int32 × Mm)) : Nat → Int32 → Mm → Option (Int32 × Mm)
  | 0 => fun _ _ => none
  | n + 1 => m_X5_added_B5  k_X5_either k_X5_both k_X5_not k_X5_added k_X5_term k_X5_atom (m_X5_added_L5  k_X5_either k_X5_both k_X5_not k_X5_added k_X5_term k_X5_atom n)
def mb_X5_added (k_X5_either : Mm → Option (Int32 × Mm)) (k_X5_both : Mm → Option (Int32 × Mm)) (k_X5_not : Mm → Option (Int32 × Mm)) (k_X5_added : Mm → Option (Int32 × Mm)) (k_X5_term : Mm → Option (Int32 × Mm)) (k_X5_atom : Mm → Option (Int32 × Mm))  (M : Mm) : Option (Int32 × Mm) := bd (k_X5_term M) fun r12 M11 => lt1 r12 fun y13 => m_X5_added_L5 k_X5_either k_X5_both k_X5_not k_X5_added k_X5_term k_X5_atom FU y13 M11
def m_X5_term_B5 (k_X5_either : Mm → Option (Int32 × Mm)) (k_X5_both : Mm → Option (Int32 × Mm)) (k_X5_not : Mm → Option (Int32 × Mm)) (k_X5_added : Mm → Option (Int32 × Mm)) (k_X5_term : Mm → Option (Int32 × Mm)) (k_X5_atom : Mm → Option (Int32 × Mm)) (n5 : Int32 → Mm → Option (Int32 × Mm)) (x1 : Int32) (M : Mm) : Option (Int32 × Mm) := bd (m_X5_isSign ((42 : Int32)) M) fun r2 M1 => if r2 = 0 then (some (x1, M1)) else (bd (m_X5_next M1) fun _ M3 => bd (k_X5_atom M3) fun r5 M4 => lt1 ((x1 * r5)) fun y6 => n5 y6 M4)
def m_X5_term_L5 (k_X5_either : Mm → Option (Int32 × Mm)) (k_X5_both : Mm → Option (Int32 × Mm)) (k_X5_not : Mm → Option (Int32 × Mm)) (k_X5_added : Mm → Option (Int32 × Mm)) (k_X5_term : Mm → Option (Int32 × Mm)) (k_X5_atom : Mm → Option (Int32 × Mm)) : Nat → Int32 → Mm → Option (Int32 × Mm)
  | 0 => fun _ _ => none
  | n + 1 => m_X5_term_B5  k_X5_either k_X5_both k_X5_not k_X5_added k_X5_term k_X5_atom (m_X5_term_L5  k_X5_either k_X5_both k_X5_not k_X5_added k_X5_term k_X5_atom n)
def mb_X5_term (k_X5_either : Mm → Option (Int32 × Mm)) (k_X5_both : Mm → Option (Int32 × Mm)) (k_X5_not : Mm → Option (Int32 × Mm)) (k_X5_added : Mm → Option (Int32 × Mm)) (k_X5_term : Mm → Option (Int32 × Mm)) (k_X5_atom : Mm → Option (Int32 × Mm))  (M : Mm) : Option (Int32 × Mm) := bd (k_X5_atom M) fun r8 M7 => lt1 r8 fun y9 => m_X5_term_L5 k_X5_either k_X5_both k_X5_not k_X5_added k_X5_term k_X5_atom FU y9 M7
def m_X5_atom_J157 (k_X5_either : Mm → Option (Int32 × Mm)) (k_X5_both : Mm → Option (Int32 × Mm)) (k_X5_not : Mm → Option (Int32 × Mm)) (k_X5_added : Mm → Option (Int32 × Mm)) (k_X5_term : Mm → Option (Int32 × Mm)) (k_X5_atom : Mm → Option (Int32 × Mm)) (x1 : Int32) (M : Mm) : Option (Int32 × Mm) := bd (m_X5_fail M) fun _ M1 => some (x1, M1)
def m_X5_atom_J123 (k_X5_either : Mm → Option (Int32 × Mm)) (k_X5_both : Mm → Option (Int32 × Mm)) (k_X5_not : Mm → Option (Int32 × Mm)) (k_X5_added : Mm → Option (Int32 × Mm)) (k_X5_term : Mm → Option (Int32 × Mm)) (k_X5_atom : Mm → Option (Int32 × Mm)) (x1 : Int32) (M : Mm) : Option (Int32 × Mm) := if (M 0 27) = 0 then (if (M 0 23) = (1 : Int32) then (bd (m_X5_name M) fun r3 M2 => lt1 r3 fun y4 => if (M2 0 27) = 0 then (bd (m_X5_next M2) fun _ M5 => some (y4, M5)) else (some (y4, M2))) else (m_X5_atom_J157 k_X5_either k_X5_both k_X5_not k_X5_added k_X5_term k_X5_atom x1 M)) else (m_X5_atom_J157 k_X5_either k_X5_both k_X5_not k_X5_added k_X5_term k_X5_atom x1 M)
def m_X5_atom_J71 (k_X5_either : Mm → Option (Int32 × Mm)) (k_X5_both : Mm → Option (Int32 × Mm)) (k_X5_not : Mm → Option (Int32 × Mm)) (k_X5_added : Mm → Option (Int32 × Mm)) (k_X5_term : Mm → Option (Int32 × Mm)) (k_X5_atom : Mm → Option (Int32 × Mm)) (x1 : Int32) (M : Mm) : Option (Int32 × Mm) := lt1 (up M 0 26 (((M 0 26) - (1 : Int32)))) fun M6 => if (M6 0 27) = 0 then (bd (m_X5_next M6) fun _ M7 => some (x1, M7)) else (some (x1, M6))
def mb_X5_atom (k_X5_either : Mm → Option (Int32 × Mm)) (k_X5_both : Mm → Option (Int32 × Mm)) (k_X5_not : Mm → Option (Int32 × Mm)) (k_X5_added : Mm → Option (Int32 × Mm)) (k_X5_term : Mm → Option (Int32 × Mm)) (k_X5_atom : Mm → Option (Int32 × Mm))  (M : Mm) : Option (Int32 × Mm) := lt1 ((0 : Int32)) fun y8 => bd (m_X5_isSign ((45 : Int32)) M) fun r10 M9 => if r10 = 0 then (bd (m_X5_isSign ((40 : Int32)) M9) fun r12 M11 => if r12 = 0 then (if (M11 0 27) = 0 then (if (M11 0 23) = (2 : Int32) then (lt1 ((((M11 0 25).toInt64).toInt32)) fun y13 => bd (m_X5_next M11) fun _ M14 => some (y13, M14)) else (m_X5_atom_J123 k_X5_either k_X5_both k_X5_not k_X5_added k_X5_term k_X5_atom y8 M11)) else (m_X5_atom_J123 k_X5_either k_X5_both k_X5_not k_X5_added k_X5_term k_X5_atom y8 M11)) else (bd (m_X5_opens M11) fun r16 M15 => if r16 = 0 then (some (y8, M15)) else (bd (k_X5_either M15) fun r18 M17 => lt1 r18 fun y19 => bd (m_X5_isSign ((41 : Int32)) M17) fun r21 M20 => if r21 = 0 then (bd (m_X5_fail M20) fun _ M22 => m_X5_atom_J71 k_X5_either k_X5_both k_X5_not k_X5_added k_X5_term k_X5_atom y19 M22) else (m_X5_atom_J71 k_X5_either k_X5_both k_X5_not k_X5_added k_X5_term k_X5_atom y19 M20)))) else (bd (m_X5_opens M9) fun r24 M23 => if r24 = 0 then (some (y8, M23)) else (bd (k_X5_atom M23) fun r26 M25 => lt1 ((-r26)) fun y27 => lt1 (up M25 0 26 (((M25 0 26) - (1 : Int32)))) fun M28 => some (y27, M28)))
def g_rgM : Nat → (Mm → Option (Int32 × Mm)) × (Mm → Option (Int32 × Mm)) × (Mm → Option (Int32 × Mm)) × (Mm → Option (Int32 × Mm)) × (Mm → Option (Int32 × Mm)) × (Mm → Option (Int32 × Mm))
  | 0 => (fun _ => none, fun _ => none, fun _ => none, fun _ => none, fun _ => none, fun _ => none)
  | d + 1 => let g := g_rgM d; (mb_X5_either g.1 g.2.1 g.2.2.1 g.2.2.2.1 g.2.2.2.2.1 g.2.2.2.2.2, mb_X5_both g.1 g.2.1 g.2.2.1 g.2.2.2.1 g.2.2.2.2.1 g.2.2.2.2.2, mb_X5_not g.1 g.2.1 g.2.2.1 g.2.2.2.1 g.2.2.2.2.1 g.2.2.2.2.2, mb_X5_added g.1 g.2.1 g.2.2.1 g.2.2.2.1 g.2.2.2.2.1 g.2.2.2.2.2, mb_X5_term g.1 g.2.1 g.2.2.1 g.2.2.2.1 g.2.2.2.2.1 g.2.2.2.2.2, mb_X5_atom g.1 g.2.1 g.2.2.1 g.2.2.2.1 g.2.2.2.2.1 g.2.2.2.2.2)
def m_X5_either (M : Mm) : Option (Int32 × Mm) := (g_rgM 60).1 M
def m_X5_both (M : Mm) : Option (Int32 × Mm) := (g_rgM 60).2.1 M
def m_X5_not (M : Mm) : Option (Int32 × Mm) := (g_rgM 60).2.2.1 M
def m_X5_added (M : Mm) : Option (Int32 × Mm) := (g_rgM 60).2.2.2.1 M
def m_X5_term (M : Mm) : Option (Int32 × Mm) := (g_rgM 60).2.2.2.2.1 M
def m_X5_atom (M : Mm) : Option (Int32 × Mm) := (g_rgM 60).2.2.2.2.2 M
set_option maxRecDepth 100000 in
set_option maxHeartbeats 4000000 in
theorem v_X5_either_J44 {X : Cx} {G : Gx} {sh : List Sh} {d : Nat} (hF : FX X G sh 3 cX5_either (yX5_either).cls (some .int) (rgM (d + 1))) (hs : ModAt sh) {k_X5_either : Mm → Option (Int32 × Mm)} {k_X5_both : Mm → Option (Int32 × Mm)} {k_X5_not : Mm → Option (Int32 × Mm)} {k_X5_added : Mm → Option (Int32 × Mm)} {k_X5_term : Mm → Option (Int32 × Mm)} {k_X5_atom : Mm → Option (Int32 × Mm)} (hk_X5_either : ∀ (M : Mm), CT yX5_either cX5_either 3 (some .int) (rgM d) G sh [.ref (G.2.2.2.2 0)] rvI M (k_X5_either  M)) (hk_X5_both : ∀ (M : Mm), CT yX5_both cX5_both 3 (some .int) (rgM d) G sh [.ref (G.2.2.2.2 0)] rvI M (k_X5_both  M)) (hk_X5_not : ∀ (M : Mm), CT yX5_not cX5_not 4 (some .int) (rgM d) G sh [.ref (G.2.2.2.2 0)] rvI M (k_X5_not  M)) (hk_X5_added : ∀ (M : Mm), CT yX5_added cX5_added 4 (some .int) (rgM d) G sh [.ref (G.2.2.2.2 0)] rvI M (k_X5_added  M)) (hk_X5_term : ∀ (M : Mm), CT yX5_term cX5_term 2 (some .int) (rgM d) G sh [.ref (G.2.2.2.2 0)] rvI M (k_X5_term  M)) (hk_X5_atom : ∀ (M : Mm), CT yX5_atom cX5_atom 2 (some .int) (rgM d) G sh [.ref (G.2.2.2.2 0)] rvI M (k_X5_atom  M)) (n5 : Int32 → Mm → Option (Int32 × Mm)) (h5 : ∀ (x1 : Int32) (M : Mm), VR X G sh 3 rvI M 5 [(0, .ref (G.2.2.2.2 0)), (1, .int x1)] [] (n5 x1 M)) : ∀ (s0 : Int32) (M : Mm), VR X G sh 3 rvI M 44 [(0, .ref (G.2.2.2.2 0))] [.int s0] (m_X5_either_J44  k_X5_either k_X5_both k_X5_not k_X5_added k_X5_term k_X5_atom n5 s0 M) := by
  intro s0 M
  unfold m_X5_either_J44
  refine v_istore_n (lo' := fun y1 => [(1, .int y1), (0, .ref (G.2.2.2.2 0))]) 45 hF dX5_either_44 rfl rfl (by decide) (fun _ => rfl) (fun y1 => ?_)
  refine v_goto 5 hF dX5_either_45 (by decide) ?_
  refine VR.pick [1, 0] rfl ?_
  exact h5 y1 M
set_option maxRecDepth 100000 in
set_option maxHeartbeats 4000000 in
theorem v_X5_either_J39 {X : Cx} {G : Gx} {sh : List Sh} {d : Nat} (hF : FX X G sh 3 cX5_either (yX5_either).cls (some .int) (rgM (d + 1))) (hs : ModAt sh) {k_X5_either : Mm → Option (Int32 × Mm)} {k_X5_both : Mm → Option (Int32 × Mm)} {k_X5_not : Mm → Option (Int32 × Mm)} {k_X5_added : Mm → Option (Int32 × Mm)} {k_X5_term : Mm → Option (Int32 × Mm)} {k_X5_atom : Mm → Option (Int32 × Mm)} (hk_X5_either : ∀ (M : Mm), CT yX5_either cX5_either 3 (some .int) (rgM d) G sh [.ref (G.2.2.2.2 0)] rvI M (k_X5_either  M)) (hk_X5_both : ∀ (M : Mm), CT yX5_both cX5_both 3 (some .int) (rgM d) G sh [.ref (G.2.2.2.2 0)] rvI M (k_X5_both  M)) (hk_X5_not : ∀ (M : Mm), CT yX5_not cX5_not 4 (some .int) (rgM d) G sh [.ref (G.2.2.2.2 0)] rvI M (k_X5_not  M)) (hk_X5_added : ∀ (M : Mm), CT yX5_added cX5_added 4 (some .int) (rgM d) G sh [.ref (G.2.2.2.2 0)] rvI M (k_X5_added  M)) (hk_X5_term : ∀ (M : Mm), CT yX5_term cX5_term 2 (some .int) (rgM d) G sh [.ref (G.2.2.2.2 0)] rvI M (k_X5_term  M)) (hk_X5_atom : ∀ (M : Mm), CT yX5_atom cX5_atom 2 (some .int) (rgM d) G sh [.ref (G.2.2.2.2 0)] rvI M (k_X5_atom  M)) (n5 : Int32 → Mm → Option (Int32 × Mm)) (h5 : ∀ (x1 : Int32) (M : Mm), VR X G sh 3 rvI M 5 [(0, .ref (G.2.2.2.2 0)), (1, .int x1)] [] (n5 x1 M)) : ∀ (M : Mm), VR X G sh 3 rvI M 39 [(0, .ref (G.2.2.2.2 0))] [] (m_X5_either_J39  k_X5_either k_X5_both k_X5_not k_X5_added k_X5_term k_X5_atom n5  M) := by
  intro  M
  unfold m_X5_either_J39
  refine v_iconst (1) 40 hF dX5_either_39 rfl (by decide) ?_
  refine v_goto 44 hF dX5_either_40 (by decide) ?_
  refine VR.pick [0] rfl ?_
  exact v_X5_either_J44 hF hs hk_X5_either hk_X5_both hk_X5_not hk_X5_added hk_X5_term hk_X5_atom _ h5 ((1 : Int32)) M
set_option maxRecDepth 100000 in
set_option maxHeartbeats 4000000 in
theorem v_X5_either_B5 {X : Cx} {G : Gx} {sh : List Sh} {d : Nat} (hF : FX X G sh 3 cX5_either (yX5_either).cls (some .int) (rgM (d + 1))) (hs : ModAt sh) {k_X5_either : Mm → Option (Int32 × Mm)} {k_X5_both : Mm → Option (Int32 × Mm)} {k_X5_not : Mm → Option (Int32 × Mm)} {k_X5_added : Mm → Option (Int32 × Mm)} {k_X5_term : Mm → Option (Int32 × Mm)} {k_X5_atom : Mm → Option (Int32 × Mm)} (hk_X5_either : ∀ (M : Mm), CT yX5_either cX5_either 3 (some .int) (rgM d) G sh [.ref (G.2.2.2.2 0)] rvI M (k_X5_either  M)) (hk_X5_both : ∀ (M : Mm), CT yX5_both cX5_both 3 (some .int) (rgM d) G sh [.ref (G.2.2.2.2 0)] rvI M (k_X5_both  M)) (hk_X5_not : ∀ (M : Mm), CT yX5_not cX5_not 4 (some .int) (rgM d) G sh [.ref (G.2.2.2.2 0)] rvI M (k_X5_not  M)) (hk_X5_added : ∀ (M : Mm), CT yX5_added cX5_added 4 (some .int) (rgM d) G sh [.ref (G.2.2.2.2 0)] rvI M (k_X5_added  M)) (hk_X5_term : ∀ (M : Mm), CT yX5_term cX5_term 2 (some .int) (rgM d) G sh [.ref (G.2.2.2.2 0)] rvI M (k_X5_term  M)) (hk_X5_atom : ∀ (M : Mm), CT yX5_atom cX5_atom 2 (some .int) (rgM d) G sh [.ref (G.2.2.2.2 0)] rvI M (k_X5_atom  M)) (n5 : Int32 → Mm → Option (Int32 × Mm)) (h5 : ∀ (x1 : Int32) (M : Mm), VR X G sh 3 rvI M 5 [(0, .ref (G.2.2.2.2 0)), (1, .int x1)] [] (n5 x1 M)) : ∀ (x1 : Int32) (M : Mm), VR X G sh 3 rvI M 5 [(0, .ref (G.2.2.2.2 0)), (1, .int x1)] [] (m_X5_either_B5  k_X5_either k_X5_both k_X5_not k_X5_added k_X5_term k_X5_atom n5 x1 M) := by
  intro x1 M
  unfold m_X5_either_B5
  refine v_aload_n 0 6 hF dX5_either_5 rfl rfl rfl ?_
  refine v_bipush (111) 8 hF dX5_either_6 rfl (by decide) ?_
  refine v_bipush (114) 10 hF dX5_either_8 rfl (by decide) ?_
  refine v_iconst (0) 11 hF dX5_either_10 rfl (by decide) ?_
  refine v_iconst (0) 12 hF dX5_either_11 rfl (by decide) ?_
  refine v_iconst (0) 13 hF dX5_either_12 rfl (by decide) ?_
  refine v_iconst (0) 14 hF dX5_either_13 rfl (by decide) ?_
  refine v_iconst (0) 15 hF dX5_either_14 rfl (by decide) ?_
  refine v_iconst (0) 16 hF dX5_either_15 rfl (by decide) ?_
  refine v_callI ([.int ((111 : Int32)), .int ((114 : Int32)), .int ((0 : Int32)), .int ((0 : Int32)), .int ((0 : Int32)), .int ((0 : Int32)), .int ((0 : Int32)), .int ((0 : Int32))]) ([]) 19 hF dX5_either_16 rfl cw_X5_184 rfl (hs.1) (c_X5_isWord (G := G) hs M ((111 : Int32)) ((114 : Int32)) ((0 : Int32)) ((0 : Int32)) ((0 : Int32)) ((0 : Int32)) ((0 : Int32)) ((0 : Int32))) (rgM_le (rc := rmX5_isWord) (maxL := 9) d rfl rfl (by decide) (by decide)) rfl rfl (Nat.le_of_ble_eq_true rfl) (fun r3 M2 => ?_)
  refine v_if_eq 22 48 hF dX5_either_19 rfl (by decide) (fun _ => ?_) (fun _ => ?_)
  · refine v_iload_n 1 49 hF dX5_either_48 rfl rfl rfl ?_
    exact v_iret hF dX5_either_49
  · refine v_aload_n 0 23 hF dX5_either_22 rfl rfl rfl ?_
    refine v_callV ([]) ([]) 26 hF dX5_either_23 rfl cw_X5_181 rfl (hs.1) (c_X5_next (G := G) hs M2) (rgM_le (rc := rmX5_next) (maxL := 3) d rfl rfl (by decide) (by decide)) rfl rfl (Nat.le_of_ble_eq_true rfl) (fun _ M4 => ?_)
    refine v_aload_n 0 27 hF dX5_either_26 rfl rfl rfl ?_
    refine v_callI ([]) ([]) 30 hF dX5_either_27 rfl cw_X5_236 rfl (hs.1) (hk_X5_both M4) (rgM_ok d 3 (by decide)) rfl rfl (Nat.le_of_ble_eq_true rfl) (fun r6 M5 => ?_)
    refine v_istore_n (lo' := fun y7 => [(2, .int y7), (0, .ref (G.2.2.2.2 0)), (1, .int x1)]) 31 hF dX5_either_30 rfl rfl (by decide) (fun _ => rfl) (fun y7 => ?_)
    refine v_iload_n 2 32 hF dX5_either_31 rfl rfl rfl ?_
    refine v_if_ne 35 39 hF dX5_either_32 rfl (by decide) (fun _ => ?_) (fun _ => ?_)
    · refine VR.pick [1] rfl ?_
      exact v_X5_either_J39 hF hs hk_X5_either hk_X5_both hk_X5_not hk_X5_added hk_X5_term hk_X5_atom _ h5 M5
    · refine v_iload_n 0 36 hF dX5_either_35 rfl rfl rfl ?_
      refine v_if_eq 39 43 hF dX5_either_36 rfl (by decide) (fun _ => ?_) (fun _ => ?_)
      · refine v_iconst (0) 44 hF dX5_either_43 rfl (by decide) ?_
        refine VR.pick [1] rfl ?_
        exact v_X5_either_J44 hF hs hk_X5_either hk_X5_both hk_X5_not hk_X5_added hk_X5_term hk_X5_atom _ h5 ((0 : Int32)) M5
      · refine VR.pick [1] rfl ?_
        exact v_X5_either_J39 hF hs hk_X5_either hk_X5_both hk_X5_not hk_X5_added hk_X5_term hk_X5_atom _ h5 M5
theorem v_X5_either_L5 {X : Cx} {G : Gx} {sh : List Sh} {d : Nat} (hF : FX X G sh 3 cX5_either (yX5_either).cls (some .int) (rgM (d + 1))) (hs : ModAt sh) {k_X5_either : Mm → Option (Int32 × Mm)} {k_X5_both : Mm → Option (Int32 × Mm)} {k_X5_not : Mm → Option (Int32 × Mm)} {k_X5_added : Mm → Option (Int32 × Mm)} {k_X5_term : Mm → Option (Int32 × Mm)} {k_X5_atom : Mm → Option (Int32 × Mm)} (hk_X5_either : ∀ (M : Mm), CT yX5_either cX5_either 3 (some .int) (rgM d) G sh [.ref (G.2.2.2.2 0)] rvI M (k_X5_either  M)) (hk_X5_both : ∀ (M : Mm), CT yX5_both cX5_both 3 (some .int) (rgM d) G sh [.ref (G.2.2.2.2 0)] rvI M (k_X5_both  M)) (hk_X5_not : ∀ (M : Mm), CT yX5_not cX5_not 4 (some .int) (rgM d) G sh [.ref (G.2.2.2.2 0)] rvI M (k_X5_not  M)) (hk_X5_added : ∀ (M : Mm), CT yX5_added cX5_added 4 (some .int) (rgM d) G sh [.ref (G.2.2.2.2 0)] rvI M (k_X5_added  M)) (hk_X5_term : ∀ (M : Mm), CT yX5_term cX5_term 2 (some .int) (rgM d) G sh [.ref (G.2.2.2.2 0)] rvI M (k_X5_term  M)) (hk_X5_atom : ∀ (M : Mm), CT yX5_atom cX5_atom 2 (some .int) (rgM d) G sh [.ref (G.2.2.2.2 0)] rvI M (k_X5_atom  M)) : ∀ (n : Nat), ∀ (x1 : Int32) (M : Mm), VR X G sh 3 rvI M 5 [(0, .ref (G.2.2.2.2 0)), (1, .int x1)] [] (m_X5_either_L5  k_X5_either k_X5_both k_X5_not k_X5_added k_X5_term k_X5_atom n x1 M) := by
  intro n
  induction n with
  | zero => intro x1 M; exact VR.none
  | succ n ih => exact v_X5_either_B5 hF hs hk_X5_either hk_X5_both hk_X5_not hk_X5_added hk_X5_term hk_X5_atom _ ih
set_option maxRecDepth 100000 in
set_option maxHeartbeats 4000000 in
theorem cb_X5_either {G : Gx} {sh : List Sh} {d : Nat} (hs : ModAt sh) {k_X5_either : Mm → Option (Int32 × Mm)} {k_X5_both : Mm → Option (Int32 × Mm)} {k_X5_not : Mm → Option (Int32 × Mm)} {k_X5_added : Mm → Option (Int32 × Mm)} {k_X5_term : Mm → Option (Int32 × Mm)} {k_X5_atom : Mm → Option (Int32 × Mm)} (hk_X5_either : ∀ (M : Mm), CT yX5_either cX5_either 3 (some .int) (rgM d) G sh [.ref (G.2.2.2.2 0)] rvI M (k_X5_either  M)) (hk_X5_both : ∀ (M : Mm), CT yX5_both cX5_both 3 (some .int) (rgM d) G sh [.ref (G.2.2.2.2 0)] rvI M (k_X5_both  M)) (hk_X5_not : ∀ (M : Mm), CT yX5_not cX5_not 4 (some .int) (rgM d) G sh [.ref (G.2.2.2.2 0)] rvI M (k_X5_not  M)) (hk_X5_added : ∀ (M : Mm), CT yX5_added cX5_added 4 (some .int) (rgM d) G sh [.ref (G.2.2.2.2 0)] rvI M (k_X5_added  M)) (hk_X5_term : ∀ (M : Mm), CT yX5_term cX5_term 2 (some .int) (rgM d) G sh [.ref (G.2.2.2.2 0)] rvI M (k_X5_term  M)) (hk_X5_atom : ∀ (M : Mm), CT yX5_atom cX5_atom 2 (some .int) (rgM d) G sh [.ref (G.2.2.2.2 0)] rvI M (k_X5_atom  M)) (M : Mm)  : CT yX5_either cX5_either 3 (some .int) (rgM (d + 1)) G sh [.ref (G.2.2.2.2 0)] rvI M (mb_X5_either  k_X5_either k_X5_both k_X5_not k_X5_added k_X5_term k_X5_atom  M) := by
  refine CT.of (by decide +kernel) (Nat.le_of_ble_eq_true rfl) (fun X hF => ?_)
  show VR X G sh 3 rvI M 0 [(0, .ref (G.2.2.2.2 0))] [] _
  unfold mb_X5_either
  refine v_aload_n 0 1 hF dX5_either_0 rfl rfl rfl ?_
  refine v_callI ([]) ([]) 4 hF dX5_either_1 rfl cw_X5_236 rfl (hs.1) (hk_X5_both M) (rgM_ok d 3 (by decide)) rfl rfl (Nat.le_of_ble_eq_true rfl) (fun r9 M8 => ?_)
  refine v_istore_n (lo' := fun y10 => [(1, .int y10), (0, .ref (G.2.2.2.2 0))]) 5 hF dX5_either_4 rfl rfl (by decide) (fun _ => rfl) (fun y10 => ?_)
  refine VR.pick [1, 0] rfl ?_
  exact v_X5_either_L5 hF hs hk_X5_either hk_X5_both hk_X5_not hk_X5_added hk_X5_term hk_X5_atom FU y10 M8
set_option maxRecDepth 100000 in
set_option maxHeartbeats 4000000 in
theorem v_X5_both_J45 {X : Cx} {G : Gx} {sh : List Sh} {d : Nat} (hF : FX X G sh 3 cX5_both (yX5_both).cls (some .int) (rgM (d + 1))) (hs : ModAt sh) {k_X5_either : Mm → Option (Int32 × Mm)} {k_X5_both : Mm → Option (Int32 × Mm)} {k_X5_not : Mm → Option (Int32 × Mm)} {k_X5_added : Mm → Option (Int32 × Mm)} {k_X5_term : Mm → Option (Int32 × Mm)} {k_X5_atom : Mm → Option (Int32 × Mm)} (hk_X5_either : ∀ (M : Mm), CT yX5_either cX5_either 3 (some .int) (rgM d) G sh [.ref (G.2.2.2.2 0)] rvI M (k_X5_either  M)) (hk_X5_both : ∀ (M : Mm), CT yX5_both cX5_both 3 (some .int) (rgM d) G sh [.ref (G.2.2.2.2 0)] rvI M (k_X5_both  M)) (hk_X5_not : ∀ (M : Mm), CT yX5_not cX5_not 4 (some .int) (rgM d) G sh [.ref (G.2.2.2.2 0)] rvI M (k_X5_not  M)) (hk_X5_added : ∀ (M : Mm), CT yX5_added cX5_added 4 (some .int) (rgM d) G sh [.ref (G.2.2.2.2 0)] rvI M (k_X5_added  M)) (hk_X5_term : ∀ (M : Mm), CT yX5_term cX5_term 2 (some .int) (rgM d) G sh [.ref (G.2.2.2.2 0)] rvI M (k_X5_term  M)) (hk_X5_atom : ∀ (M : Mm), CT yX5_atom cX5_atom 2 (some .int) (rgM d) G sh [.ref (G.2.2.2.2 0)] rvI M (k_X5_atom  M)) (n5 : Int32 → Mm → Option (Int32 × Mm)) (h5 : ∀ (x1 : Int32) (M : Mm), VR X G sh 3 rvI M 5 [(0, .ref (G.2.2.2.2 0)), (1, .int x1)] [] (n5 x1 M)) : ∀ (s0 : Int32) (M : Mm), VR X G sh 3 rvI M 45 [(0, .ref (G.2.2.2.2 0))] [.int s0] (m_X5_both_J45  k_X5_either k_X5_both k_X5_not k_X5_added k_X5_term k_X5_atom n5 s0 M) := by
  intro s0 M
  unfold m_X5_both_J45
  refine v_istore_n (lo' := fun y1 => [(1, .int y1), (0, .ref (G.2.2.2.2 0))]) 46 hF dX5_both_45 rfl rfl (by decide) (fun _ => rfl) (fun y1 => ?_)
  refine v_goto 5 hF dX5_both_46 (by decide) ?_
  refine VR.pick [1, 0] rfl ?_
  exact h5 y1 M
set_option maxRecDepth 100000 in
set_option maxHeartbeats 4000000 in
theorem v_X5_both_J44 {X : Cx} {G : Gx} {sh : List Sh} {d : Nat} (hF : FX X G sh 3 cX5_both (yX5_both).cls (some .int) (rgM (d + 1))) (hs : ModAt sh) {k_X5_either : Mm → Option (Int32 × Mm)} {k_X5_both : Mm → Option (Int32 × Mm)} {k_X5_not : Mm → Option (Int32 × Mm)} {k_X5_added : Mm → Option (Int32 × Mm)} {k_X5_term : Mm → Option (Int32 × Mm)} {k_X5_atom : Mm → Option (Int32 × Mm)} (hk_X5_either : ∀ (M : Mm), CT yX5_either cX5_either 3 (some .int) (rgM d) G sh [.ref (G.2.2.2.2 0)] rvI M (k_X5_either  M)) (hk_X5_both : ∀ (M : Mm), CT yX5_both cX5_both 3 (some .int) (rgM d) G sh [.ref (G.2.2.2.2 0)] rvI M (k_X5_both  M)) (hk_X5_not : ∀ (M : Mm), CT yX5_not cX5_not 4 (some .int) (rgM d) G sh [.ref (G.2.2.2.2 0)] rvI M (k_X5_not  M)) (hk_X5_added : ∀ (M : Mm), CT yX5_added cX5_added 4 (some .int) (rgM d) G sh [.ref (G.2.2.2.2 0)] rvI M (k_X5_added  M)) (hk_X5_term : ∀ (M : Mm), CT yX5_term cX5_term 2 (some .int) (rgM d) G sh [.ref (G.2.2.2.2 0)] rvI M (k_X5_term  M)) (hk_X5_atom : ∀ (M : Mm), CT yX5_atom cX5_atom 2 (some .int) (rgM d) G sh [.ref (G.2.2.2.2 0)] rvI M (k_X5_atom  M)) (n5 : Int32 → Mm → Option (Int32 × Mm)) (h5 : ∀ (x1 : Int32) (M : Mm), VR X G sh 3 rvI M 5 [(0, .ref (G.2.2.2.2 0)), (1, .int x1)] [] (n5 x1 M)) : ∀ (M : Mm), VR X G sh 3 rvI M 44 [(0, .ref (G.2.2.2.2 0))] [] (m_X5_both_J44  k_X5_either k_X5_both k_X5_not k_X5_added k_X5_term k_X5_atom n5  M) := by
  intro  M
  unfold m_X5_both_J44
  refine v_iconst (0) 45 hF dX5_both_44 rfl (by decide) ?_
  refine VR.pick [0] rfl ?_
  exact v_X5_both_J45 hF hs hk_X5_either hk_X5_both hk_X5_not hk_X5_added hk_X5_term hk_X5_atom _ h5 ((0 : Int32)) M
set_option maxRecDepth 100000 in
set_option maxHeartbeats 4000000 in
theorem v_X5_both_B5 {X : Cx} {G : Gx} {sh : List Sh} {d : Nat} (hF : FX X G sh 3 cX5_both (yX5_both).cls (some .int) (rgM (d + 1))) (hs : ModAt sh) {k_X5_either : Mm → Option (Int32 × Mm)} {k_X5_both : Mm → Option (Int32 × Mm)} {k_X5_not : Mm → Option (Int32 × Mm)} {k_X5_added : Mm → Option (Int32 × Mm)} {k_X5_term : Mm → Option (Int32 × Mm)} {k_X5_atom : Mm → Option (Int32 × Mm)} (hk_X5_either : ∀ (M : Mm), CT yX5_either cX5_either 3 (some .int) (rgM d) G sh [.ref (G.2.2.2.2 0)] rvI M (k_X5_either  M)) (hk_X5_both : ∀ (M : Mm), CT yX5_both cX5_both 3 (some .int) (rgM d) G sh [.ref (G.2.2.2.2 0)] rvI M (k_X5_both  M)) (hk_X5_not : ∀ (M : Mm), CT yX5_not cX5_not 4 (some .int) (rgM d) G sh [.ref (G.2.2.2.2 0)] rvI M (k_X5_not  M)) (hk_X5_added : ∀ (M : Mm), CT yX5_added cX5_added 4 (some .int) (rgM d) G sh [.ref (G.2.2.2.2 0)] rvI M (k_X5_added  M)) (hk_X5_term : ∀ (M : Mm), CT yX5_term cX5_term 2 (some .int) (rgM d) G sh [.ref (G.2.2.2.2 0)] rvI M (k_X5_term  M)) (hk_X5_atom : ∀ (M : Mm), CT yX5_atom cX5_atom 2 (some .int) (rgM d) G sh [.ref (G.2.2.2.2 0)] rvI M (k_X5_atom  M)) (n5 : Int32 → Mm → Option (Int32 × Mm)) (h5 : ∀ (x1 : Int32) (M : Mm), VR X G sh 3 rvI M 5 [(0, .ref (G.2.2.2.2 0)), (1, .int x1)] [] (n5 x1 M)) : ∀ (x1 : Int32) (M : Mm), VR X G sh 3 rvI M 5 [(0, .ref (G.2.2.2.2 0)), (1, .int x1)] [] (m_X5_both_B5  k_X5_either k_X5_both k_X5_not k_X5_added k_X5_term k_X5_atom n5 x1 M) := by
  intro x1 M
  unfold m_X5_both_B5
  refine v_aload_n 0 6 hF dX5_both_5 rfl rfl rfl ?_
  refine v_bipush (97) 8 hF dX5_both_6 rfl (by decide) ?_
  refine v_bipush (110) 10 hF dX5_both_8 rfl (by decide) ?_
  refine v_bipush (100) 12 hF dX5_both_10 rfl (by decide) ?_
  refine v_iconst (0) 13 hF dX5_both_12 rfl (by decide) ?_
  refine v_iconst (0) 14 hF dX5_both_13 rfl (by decide) ?_
  refine v_iconst (0) 15 hF dX5_both_14 rfl (by decide) ?_
  refine v_iconst (0) 16 hF dX5_both_15 rfl (by decide) ?_
  refine v_iconst (0) 17 hF dX5_both_16 rfl (by decide) ?_
  refine v_callI ([.int ((97 : Int32)), .int ((110 : Int32)), .int ((100 : Int32)), .int ((0 : Int32)), .int ((0 : Int32)), .int ((0 : Int32)), .int ((0 : Int32)), .int ((0 : Int32))]) ([]) 20 hF dX5_both_17 rfl cw_X5_184 rfl (hs.1) (c_X5_isWord (G := G) hs M ((97 : Int32)) ((110 : Int32)) ((100 : Int32)) ((0 : Int32)) ((0 : Int32)) ((0 : Int32)) ((0 : Int32)) ((0 : Int32))) (rgM_le (rc := rmX5_isWord) (maxL := 9) d rfl rfl (by decide) (by decide)) rfl rfl (Nat.le_of_ble_eq_true rfl) (fun r3 M2 => ?_)
  refine v_if_eq 23 49 hF dX5_both_20 rfl (by decide) (fun _ => ?_) (fun _ => ?_)
  · refine v_iload_n 1 50 hF dX5_both_49 rfl rfl rfl ?_
    exact v_iret hF dX5_both_50
  · refine v_aload_n 0 24 hF dX5_both_23 rfl rfl rfl ?_
    refine v_callV ([]) ([]) 27 hF dX5_both_24 rfl cw_X5_181 rfl (hs.1) (c_X5_next (G := G) hs M2) (rgM_le (rc := rmX5_next) (maxL := 3) d rfl rfl (by decide) (by decide)) rfl rfl (Nat.le_of_ble_eq_true rfl) (fun _ M4 => ?_)
    refine v_aload_n 0 28 hF dX5_both_27 rfl rfl rfl ?_
    refine v_callI ([]) ([]) 31 hF dX5_both_28 rfl cw_X5_228 rfl (hs.1) (hk_X5_not M4) (rgM_ok d 4 (by decide)) rfl rfl (Nat.le_of_ble_eq_true rfl) (fun r6 M5 => ?_)
    refine v_istore_n (lo' := fun y7 => [(2, .int y7), (0, .ref (G.2.2.2.2 0)), (1, .int x1)]) 32 hF dX5_both_31 rfl rfl (by decide) (fun _ => rfl) (fun y7 => ?_)
    refine v_iload_n 2 33 hF dX5_both_32 rfl rfl rfl ?_
    refine v_if_eq 36 44 hF dX5_both_33 rfl (by decide) (fun _ => ?_) (fun _ => ?_)
    · refine VR.pick [1] rfl ?_
      exact v_X5_both_J44 hF hs hk_X5_either hk_X5_both hk_X5_not hk_X5_added hk_X5_term hk_X5_atom _ h5 M5
    · refine v_iload_n 0 37 hF dX5_both_36 rfl rfl rfl ?_
      refine v_if_eq 40 44 hF dX5_both_37 rfl (by decide) (fun _ => ?_) (fun _ => ?_)
      · refine VR.pick [1] rfl ?_
        exact v_X5_both_J44 hF hs hk_X5_either hk_X5_both hk_X5_not hk_X5_added hk_X5_term hk_X5_atom _ h5 M5
      · refine v_iconst (1) 41 hF dX5_both_40 rfl (by decide) ?_
        refine v_goto 45 hF dX5_both_41 (by decide) ?_
        refine VR.pick [1] rfl ?_
        exact v_X5_both_J45 hF hs hk_X5_either hk_X5_both hk_X5_not hk_X5_added hk_X5_term hk_X5_atom _ h5 ((1 : Int32)) M5
theorem v_X5_both_L5 {X : Cx} {G : Gx} {sh : List Sh} {d : Nat} (hF : FX X G sh 3 cX5_both (yX5_both).cls (some .int) (rgM (d + 1))) (hs : ModAt sh) {k_X5_either : Mm → Option (Int32 × Mm)} {k_X5_both : Mm → Option (Int32 × Mm)} {k_X5_not : Mm → Option (Int32 × Mm)} {k_X5_added : Mm → Option (Int32 × Mm)} {k_X5_term : Mm → Option (Int32 × Mm)} {k_X5_atom : Mm → Option (Int32 × Mm)} (hk_X5_either : ∀ (M : Mm), CT yX5_either cX5_either 3 (some .int) (rgM d) G sh [.ref (G.2.2.2.2 0)] rvI M (k_X5_either  M)) (hk_X5_both : ∀ (M : Mm), CT yX5_both cX5_both 3 (some .int) (rgM d) G sh [.ref (G.2.2.2.2 0)] rvI M (k_X5_both  M)) (hk_X5_not : ∀ (M : Mm), CT yX5_not cX5_not 4 (some .int) (rgM d) G sh [.ref (G.2.2.2.2 0)] rvI M (k_X5_not  M)) (hk_X5_added : ∀ (M : Mm), CT yX5_added cX5_added 4 (some .int) (rgM d) G sh [.ref (G.2.2.2.2 0)] rvI M (k_X5_added  M)) (hk_X5_term : ∀ (M : Mm), CT yX5_term cX5_term 2 (some .int) (rgM d) G sh [.ref (G.2.2.2.2 0)] rvI M (k_X5_term  M)) (hk_X5_atom : ∀ (M : Mm), CT yX5_atom cX5_atom 2 (some .int) (rgM d) G sh [.ref (G.2.2.2.2 0)] rvI M (k_X5_atom  M)) : ∀ (n : Nat), ∀ (x1 : Int32) (M : Mm), VR X G sh 3 rvI M 5 [(0, .ref (G.2.2.2.2 0)), (1, .int x1)] [] (m_X5_both_L5  k_X5_either k_X5_both k_X5_not k_X5_added k_X5_term k_X5_atom n x1 M) := by
  intro n
  induction n with
  | zero => intro x1 M; exact VR.none
  | succ n ih => exact v_X5_both_B5 hF hs hk_X5_either hk_X5_both hk_X5_not hk_X5_added hk_X5_term hk_X5_atom _ ih
set_option maxRecDepth 100000 in
set_option maxHeartbeats 4000000 in
theorem cb_X5_both {G : Gx} {sh : List Sh} {d : Nat} (hs : ModAt sh) {k_X5_either : Mm → Option (Int32 × Mm)} {k_X5_both : Mm → Option (Int32 × Mm)} {k_X5_not : Mm → Option (Int32 × Mm)} {k_X5_added : Mm → Option (Int32 × Mm)} {k_X5_term : Mm → Option (Int32 × Mm)} {k_X5_atom : Mm → Option (Int32 × Mm)} (hk_X5_either : ∀ (M : Mm), CT yX5_either cX5_either 3 (some .int) (rgM d) G sh [.ref (G.2.2.2.2 0)] rvI M (k_X5_either  M)) (hk_X5_both : ∀ (M : Mm), CT yX5_both cX5_both 3 (some .int) (rgM d) G sh [.ref (G.2.2.2.2 0)] rvI M (k_X5_both  M)) (hk_X5_not : ∀ (M : Mm), CT yX5_not cX5_not 4 (some .int) (rgM d) G sh [.ref (G.2.2.2.2 0)] rvI M (k_X5_not  M)) (hk_X5_added : ∀ (M : Mm), CT yX5_added cX5_added 4 (some .int) (rgM d) G sh [.ref (G.2.2.2.2 0)] rvI M (k_X5_added  M)) (hk_X5_term : ∀ (M : Mm), CT yX5_term cX5_term 2 (some .int) (rgM d) G sh [.ref (G.2.2.2.2 0)] rvI M (k_X5_term  M)) (hk_X5_atom : ∀ (M : Mm), CT yX5_atom cX5_atom 2 (some .int) (rgM d) G sh [.ref (G.2.2.2.2 0)] rvI M (k_X5_atom  M)) (M : Mm)  : CT yX5_both cX5_both 3 (some .int) (rgM (d + 1)) G sh [.ref (G.2.2.2.2 0)] rvI M (mb_X5_both  k_X5_either k_X5_both k_X5_not k_X5_added k_X5_term k_X5_atom  M) := by
  refine CT.of (by decide +kernel) (Nat.le_of_ble_eq_true rfl) (fun X hF => ?_)
  show VR X G sh 3 rvI M 0 [(0, .ref (G.2.2.2.2 0))] [] _
  unfold mb_X5_both
  refine v_aload_n 0 1 hF dX5_both_0 rfl rfl rfl ?_
  refine v_callI ([]) ([]) 4 hF dX5_both_1 rfl cw_X5_228 rfl (hs.1) (hk_X5_not M) (rgM_ok d 4 (by decide)) rfl rfl (Nat.le_of_ble_eq_true rfl) (fun r9 M8 => ?_)
  refine v_istore_n (lo' := fun y10 => [(1, .int y10), (0, .ref (G.2.2.2.2 0))]) 5 hF dX5_both_4 rfl rfl (by decide) (fun _ => rfl) (fun y10 => ?_)
  refine VR.pick [1, 0] rfl ?_
  exact v_X5_both_L5 hF hs hk_X5_either hk_X5_both hk_X5_not hk_X5_added hk_X5_term hk_X5_atom FU y10 M8
set_option maxRecDepth 100000 in
set_option maxHeartbeats 4000000 in
theorem v_X5_not_J120 {X : Cx} {G : Gx} {sh : List Sh} {d : Nat} (hF : FX X G sh 4 cX5_not (yX5_not).cls (some .int) (rgM (d + 1))) (hs : ModAt sh) {k_X5_either : Mm → Option (Int32 × Mm)} {k_X5_both : Mm → Option (Int32 × Mm)} {k_X5_not : Mm → Option (Int32 × Mm)} {k_X5_added : Mm → Option (Int32 × Mm)} {k_X5_term : Mm → Option (Int32 × Mm)} {k_X5_atom : Mm → Option (Int32 × Mm)} (hk_X5_either : ∀ (M : Mm), CT yX5_either cX5_either 3 (some .int) (rgM d) G sh [.ref (G.2.2.2.2 0)] rvI M (k_X5_either  M)) (hk_X5_both : ∀ (M : Mm), CT yX5_both cX5_both 3 (some .int) (rgM d) G sh [.ref (G.2.2.2.2 0)] rvI M (k_X5_both  M)) (hk_X5_not : ∀ (M : Mm), CT yX5_not cX5_not 4 (some .int) (rgM d) G sh [.ref (G.2.2.2.2 0)] rvI M (k_X5_not  M)) (hk_X5_added : ∀ (M : Mm), CT yX5_added cX5_added 4 (some .int) (rgM d) G sh [.ref (G.2.2.2.2 0)] rvI M (k_X5_added  M)) (hk_X5_term : ∀ (M : Mm), CT yX5_term cX5_term 2 (some .int) (rgM d) G sh [.ref (G.2.2.2.2 0)] rvI M (k_X5_term  M)) (hk_X5_atom : ∀ (M : Mm), CT yX5_atom cX5_atom 2 (some .int) (rgM d) G sh [.ref (G.2.2.2.2 0)] rvI M (k_X5_atom  M)) : ∀ (M : Mm), VR X G sh 4 rvI M 120 [(0, .ref (G.2.2.2.2 0))] [] (m_X5_not_J120  k_X5_either k_X5_both k_X5_not k_X5_added k_X5_term k_X5_atom  M) := by
  intro  M
  unfold m_X5_not_J120
  refine v_iconst (1) 121 hF dX5_not_120 rfl (by decide) ?_
  refine v_goto 125 hF dX5_not_121 (by decide) ?_
  exact v_iret hF dX5_not_125
set_option maxRecDepth 100000 in
set_option maxHeartbeats 4000000 in
theorem v_X5_not_J93 {X : Cx} {G : Gx} {sh : List Sh} {d : Nat} (hF : FX X G sh 4 cX5_not (yX5_not).cls (some .int) (rgM (d + 1))) (hs : ModAt sh) {k_X5_either : Mm → Option (Int32 × Mm)} {k_X5_both : Mm → Option (Int32 × Mm)} {k_X5_not : Mm → Option (Int32 × Mm)} {k_X5_added : Mm → Option (Int32 × Mm)} {k_X5_term : Mm → Option (Int32 × Mm)} {k_X5_atom : Mm → Option (Int32 × Mm)} (hk_X5_either : ∀ (M : Mm), CT yX5_either cX5_either 3 (some .int) (rgM d) G sh [.ref (G.2.2.2.2 0)] rvI M (k_X5_either  M)) (hk_X5_both : ∀ (M : Mm), CT yX5_both cX5_both 3 (some .int) (rgM d) G sh [.ref (G.2.2.2.2 0)] rvI M (k_X5_both  M)) (hk_X5_not : ∀ (M : Mm), CT yX5_not cX5_not 4 (some .int) (rgM d) G sh [.ref (G.2.2.2.2 0)] rvI M (k_X5_not  M)) (hk_X5_added : ∀ (M : Mm), CT yX5_added cX5_added 4 (some .int) (rgM d) G sh [.ref (G.2.2.2.2 0)] rvI M (k_X5_added  M)) (hk_X5_term : ∀ (M : Mm), CT yX5_term cX5_term 2 (some .int) (rgM d) G sh [.ref (G.2.2.2.2 0)] rvI M (k_X5_term  M)) (hk_X5_atom : ∀ (M : Mm), CT yX5_atom cX5_atom 2 (some .int) (rgM d) G sh [.ref (G.2.2.2.2 0)] rvI M (k_X5_atom  M)) : ∀ (x1 : Int32) (s0 : Int32) (M : Mm), VR X G sh 4 rvI M 93 [(0, .ref (G.2.2.2.2 0)), (1, .int x1)] [.int s0] (m_X5_not_J93  k_X5_either k_X5_both k_X5_not k_X5_added k_X5_term k_X5_atom x1 s0 M) := by
  intro x1 s0 M
  unfold m_X5_not_J93
  refine v_istore_n (lo' := fun y1 => [(2, .int y1), (0, .ref (G.2.2.2.2 0)), (1, .int x1)]) 94 hF dX5_not_93 rfl rfl (by decide) (fun _ => rfl) (fun y1 => ?_)
  refine v_aload_n 1 95 hF dX5_not_94 rfl rfl rfl ?_
  refine v_callV ([]) ([]) 98 hF dX5_not_95 rfl cw_X5_181 rfl (hs.1) (c_X5_next (G := G) hs M) (rgM_le (rc := rmX5_next) (maxL := 3) d rfl rfl (by decide) (by decide)) rfl rfl (Nat.le_of_ble_eq_true rfl) (fun _ M2 => ?_)
  refine v_aload_n 1 99 hF dX5_not_98 rfl rfl rfl ?_
  refine v_callI ([]) ([]) 102 hF dX5_not_99 rfl cw_X5_231 rfl (hs.1) (hk_X5_added M2) (rgM_ok d 4 (by decide)) rfl rfl (Nat.le_of_ble_eq_true rfl) (fun r4 M3 => ?_)
  refine v_istore_n (lo' := fun y5 => [(3, .int y5), (2, .int y1), (0, .ref (G.2.2.2.2 0)), (1, .int x1)]) 103 hF dX5_not_102 rfl rfl (by decide) (fun _ => rfl) (fun y5 => ?_)
  refine v_iload_n 1 104 hF dX5_not_103 rfl rfl rfl ?_
  refine v_if_eq 107 115 hF dX5_not_104 rfl (by decide) (fun _ => ?_) (fun _ => ?_)
  · refine v_iload_n 3 116 hF dX5_not_115 rfl rfl rfl ?_
    refine v_iload_n 0 117 hF dX5_not_116 rfl rfl rfl ?_
    refine v_icmp_ne 120 124 hF dX5_not_117 rfl (by decide) (fun _ => ?_) (fun _ => ?_)
    · refine v_iconst (0) 125 hF dX5_not_124 rfl (by decide) ?_
      exact v_iret hF dX5_not_125
    · refine VR.pick [2] rfl ?_
      exact v_X5_not_J120 hF hs hk_X5_either hk_X5_both hk_X5_not hk_X5_added hk_X5_term hk_X5_atom M3
  · refine v_iload_n 3 108 hF dX5_not_107 rfl rfl rfl ?_
    refine v_iload_n 0 109 hF dX5_not_108 rfl rfl rfl ?_
    refine v_icmp_ge 112 124 hF dX5_not_109 rfl (by decide) (fun _ => ?_) (fun _ => ?_)
    · refine v_iconst (0) 125 hF dX5_not_124 rfl (by decide) ?_
      exact v_iret hF dX5_not_125
    · refine v_goto 120 hF dX5_not_112 (by decide) ?_
      refine VR.pick [2] rfl ?_
      exact v_X5_not_J120 hF hs hk_X5_either hk_X5_both hk_X5_not hk_X5_added hk_X5_term hk_X5_atom M3
set_option maxRecDepth 100000 in
set_option maxHeartbeats 4000000 in
theorem v_X5_not_J77 {X : Cx} {G : Gx} {sh : List Sh} {d : Nat} (hF : FX X G sh 4 cX5_not (yX5_not).cls (some .int) (rgM (d + 1))) (hs : ModAt sh) {k_X5_either : Mm → Option (Int32 × Mm)} {k_X5_both : Mm → Option (Int32 × Mm)} {k_X5_not : Mm → Option (Int32 × Mm)} {k_X5_added : Mm → Option (Int32 × Mm)} {k_X5_term : Mm → Option (Int32 × Mm)} {k_X5_atom : Mm → Option (Int32 × Mm)} (hk_X5_either : ∀ (M : Mm), CT yX5_either cX5_either 3 (some .int) (rgM d) G sh [.ref (G.2.2.2.2 0)] rvI M (k_X5_either  M)) (hk_X5_both : ∀ (M : Mm), CT yX5_both cX5_both 3 (some .int) (rgM d) G sh [.ref (G.2.2.2.2 0)] rvI M (k_X5_both  M)) (hk_X5_not : ∀ (M : Mm), CT yX5_not cX5_not 4 (some .int) (rgM d) G sh [.ref (G.2.2.2.2 0)] rvI M (k_X5_not  M)) (hk_X5_added : ∀ (M : Mm), CT yX5_added cX5_added 4 (some .int) (rgM d) G sh [.ref (G.2.2.2.2 0)] rvI M (k_X5_added  M)) (hk_X5_term : ∀ (M : Mm), CT yX5_term cX5_term 2 (some .int) (rgM d) G sh [.ref (G.2.2.2.2 0)] rvI M (k_X5_term  M)) (hk_X5_atom : ∀ (M : Mm), CT yX5_atom cX5_atom 2 (some .int) (rgM d) G sh [.ref (G.2.2.2.2 0)] rvI M (k_X5_atom  M)) : ∀ (x1 : Int32) (M : Mm), VR X G sh 4 rvI M 77 [(0, .ref (G.2.2.2.2 0)), (1, .int x1)] [] (m_X5_not_J77  k_X5_either k_X5_both k_X5_not k_X5_added k_X5_term k_X5_atom x1 M) := by
  intro x1 M
  unfold m_X5_not_J77
  refine v_aload_n 0 78 hF dX5_not_77 rfl rfl rfl ?_
  refine v_getJ 81 hF dX5_not_78 rfl fl_X5_162 hs.1 rfl ?_
  refine v_ldc2 (60) 84 hF dX5_not_81 rfl cc_X5_234 ?_
  refine v_lcmp 85 hF dX5_not_84 rfl ?_
  refine v_if_ne 88 92 hF dX5_not_85 rfl (by decide) (fun _ => ?_) (fun _ => ?_)
  · refine v_iconst (0) 93 hF dX5_not_92 rfl (by decide) ?_
    refine VR.pick [0, 1] rfl ?_
    exact v_X5_not_J93 hF hs hk_X5_either hk_X5_both hk_X5_not hk_X5_added hk_X5_term hk_X5_atom x1 ((0 : Int32)) M
  · refine v_iconst (1) 89 hF dX5_not_88 rfl (by decide) ?_
    refine v_goto 93 hF dX5_not_89 (by decide) ?_
    refine VR.pick [0, 1] rfl ?_
    exact v_X5_not_J93 hF hs hk_X5_either hk_X5_both hk_X5_not hk_X5_added hk_X5_term hk_X5_atom x1 ((1 : Int32)) M
set_option maxRecDepth 100000 in
set_option maxHeartbeats 4000000 in
theorem cb_X5_not {G : Gx} {sh : List Sh} {d : Nat} (hs : ModAt sh) {k_X5_either : Mm → Option (Int32 × Mm)} {k_X5_both : Mm → Option (Int32 × Mm)} {k_X5_not : Mm → Option (Int32 × Mm)} {k_X5_added : Mm → Option (Int32 × Mm)} {k_X5_term : Mm → Option (Int32 × Mm)} {k_X5_atom : Mm → Option (Int32 × Mm)} (hk_X5_either : ∀ (M : Mm), CT yX5_either cX5_either 3 (some .int) (rgM d) G sh [.ref (G.2.2.2.2 0)] rvI M (k_X5_either  M)) (hk_X5_both : ∀ (M : Mm), CT yX5_both cX5_both 3 (some .int) (rgM d) G sh [.ref (G.2.2.2.2 0)] rvI M (k_X5_both  M)) (hk_X5_not : ∀ (M : Mm), CT yX5_not cX5_not 4 (some .int) (rgM d) G sh [.ref (G.2.2.2.2 0)] rvI M (k_X5_not  M)) (hk_X5_added : ∀ (M : Mm), CT yX5_added cX5_added 4 (some .int) (rgM d) G sh [.ref (G.2.2.2.2 0)] rvI M (k_X5_added  M)) (hk_X5_term : ∀ (M : Mm), CT yX5_term cX5_term 2 (some .int) (rgM d) G sh [.ref (G.2.2.2.2 0)] rvI M (k_X5_term  M)) (hk_X5_atom : ∀ (M : Mm), CT yX5_atom cX5_atom 2 (some .int) (rgM d) G sh [.ref (G.2.2.2.2 0)] rvI M (k_X5_atom  M)) (M : Mm)  : CT yX5_not cX5_not 4 (some .int) (rgM (d + 1)) G sh [.ref (G.2.2.2.2 0)] rvI M (mb_X5_not  k_X5_either k_X5_both k_X5_not k_X5_added k_X5_term k_X5_atom  M) := by
  refine CT.of (by decide +kernel) (Nat.le_of_ble_eq_true rfl) (fun X hF => ?_)
  show VR X G sh 4 rvI M 0 [(0, .ref (G.2.2.2.2 0))] [] _
  unfold mb_X5_not
  refine v_aload_n 0 1 hF dX5_not_0 rfl rfl rfl ?_
  refine v_bipush (110) 3 hF dX5_not_1 rfl (by decide) ?_
  refine v_bipush (111) 5 hF dX5_not_3 rfl (by decide) ?_
  refine v_bipush (116) 7 hF dX5_not_5 rfl (by decide) ?_
  refine v_iconst (0) 8 hF dX5_not_7 rfl (by decide) ?_
  refine v_iconst (0) 9 hF dX5_not_8 rfl (by decide) ?_
  refine v_iconst (0) 10 hF dX5_not_9 rfl (by decide) ?_
  refine v_iconst (0) 11 hF dX5_not_10 rfl (by decide) ?_
  refine v_iconst (0) 12 hF dX5_not_11 rfl (by decide) ?_
  refine v_callI ([.int ((110 : Int32)), .int ((111 : Int32)), .int ((116 : Int32)), .int ((0 : Int32)), .int ((0 : Int32)), .int ((0 : Int32)), .int ((0 : Int32)), .int ((0 : Int32))]) ([]) 15 hF dX5_not_12 rfl cw_X5_184 rfl (hs.1) (c_X5_isWord (G := G) hs M ((110 : Int32)) ((111 : Int32)) ((116 : Int32)) ((0 : Int32)) ((0 : Int32)) ((0 : Int32)) ((0 : Int32)) ((0 : Int32))) (rgM_le (rc := rmX5_isWord) (maxL := 9) d rfl rfl (by decide) (by decide)) rfl rfl (Nat.le_of_ble_eq_true rfl) (fun r7 M6 => ?_)
  refine v_if_eq 18 52 hF dX5_not_15 rfl (by decide) (fun _ => ?_) (fun _ => ?_)
  · refine v_aload_n 0 53 hF dX5_not_52 rfl rfl rfl ?_
    refine v_callI ([]) ([]) 56 hF dX5_not_53 rfl cw_X5_231 rfl (hs.1) (hk_X5_added M6) (rgM_ok d 4 (by decide)) rfl rfl (Nat.le_of_ble_eq_true rfl) (fun r9 M8 => ?_)
    refine v_istore_n (lo' := fun y10 => [(1, .int y10), (0, .ref (G.2.2.2.2 0))]) 57 hF dX5_not_56 rfl rfl (by decide) (fun _ => rfl) (fun y10 => ?_)
    refine v_aload_n 1 58 hF dX5_not_57 rfl rfl rfl ?_
    refine v_bipush (60) 60 hF dX5_not_58 rfl (by decide) ?_
    refine v_callI ([.int ((60 : Int32))]) ([]) 63 hF dX5_not_60 rfl cw_X5_206 rfl (hs.1) (c_X5_isSign (G := G) hs M8 ((60 : Int32))) (rgM_le (rc := rmX5_isSign) (maxL := 2) d rfl rfl (by decide) (by decide)) rfl rfl (Nat.le_of_ble_eq_true rfl) (fun r12 M11 => ?_)
    refine v_if_ne 66 77 hF dX5_not_63 rfl (by decide) (fun _ => ?_) (fun _ => ?_)
    · refine VR.pick [1, 0] rfl ?_
      exact v_X5_not_J77 hF hs hk_X5_either hk_X5_both hk_X5_not hk_X5_added hk_X5_term hk_X5_atom y10 M11
    · refine v_aload_n 1 67 hF dX5_not_66 rfl rfl rfl ?_
      refine v_bipush (61) 69 hF dX5_not_67 rfl (by decide) ?_
      refine v_callI ([.int ((61 : Int32))]) ([]) 72 hF dX5_not_69 rfl cw_X5_206 rfl (hs.1) (c_X5_isSign (G := G) hs M11 ((61 : Int32))) (rgM_le (rc := rmX5_isSign) (maxL := 2) d rfl rfl (by decide) (by decide)) rfl rfl (Nat.le_of_ble_eq_true rfl) (fun r14 M13 => ?_)
      refine v_if_ne 75 77 hF dX5_not_72 rfl (by decide) (fun _ => ?_) (fun _ => ?_)
      · refine VR.pick [1, 0] rfl ?_
        exact v_X5_not_J77 hF hs hk_X5_either hk_X5_both hk_X5_not hk_X5_added hk_X5_term hk_X5_atom y10 M13
      · refine v_iload_n 0 76 hF dX5_not_75 rfl rfl rfl ?_
        exact v_iret hF dX5_not_76
  · refine v_aload_n 0 19 hF dX5_not_18 rfl rfl rfl ?_
    refine v_callI ([]) ([]) 22 hF dX5_not_19 rfl cw_X5_209 rfl (hs.1) (c_X5_opens (G := G) hs M6) (rgM_le (rc := rmX5_opens) (maxL := 1) d rfl rfl (by decide) (by decide)) rfl rfl (Nat.le_of_ble_eq_true rfl) (fun r16 M15 => ?_)
    refine v_if_ne 25 27 hF dX5_not_22 rfl (by decide) (fun _ => ?_) (fun _ => ?_)
    · refine v_aload_n 0 28 hF dX5_not_27 rfl rfl rfl ?_
      refine v_callI ([]) ([]) 31 hF dX5_not_28 rfl cw_X5_228 rfl (hs.1) (hk_X5_not M15) (rgM_ok d 4 (by decide)) rfl rfl (Nat.le_of_ble_eq_true rfl) (fun r18 M17 => ?_)
      refine v_istore_n (lo' := fun y19 => [(1, .int y19), (0, .ref (G.2.2.2.2 0))]) 32 hF dX5_not_31 rfl rfl (by decide) (fun _ => rfl) (fun y19 => ?_)
      refine v_aload_n 1 33 hF dX5_not_32 rfl rfl rfl ?_
      refine v_dupR 34 hF dX5_not_33 rfl ?_
      refine v_getI 37 hF dX5_not_34 rfl fl_X5_175 hs.1 rfl ?_
      refine v_iconst (1) 38 hF dX5_not_37 rfl (by decide) ?_
      refine v_isub 39 hF dX5_not_38 rfl ?_
      refine v_putI 42 hF dX5_not_39 rfl fl_X5_175 fp_X5_26 hs.1 rfl (fun M20 => ?_)
      refine v_iload_n 0 43 hF dX5_not_42 rfl rfl rfl ?_
      refine v_if_ne 46 50 hF dX5_not_43 rfl (by decide) (fun _ => ?_) (fun _ => ?_)
      · refine v_iconst (0) 51 hF dX5_not_50 rfl (by decide) ?_
        exact v_iret hF dX5_not_51
      · refine v_iconst (1) 47 hF dX5_not_46 rfl (by decide) ?_
        refine v_goto 51 hF dX5_not_47 (by decide) ?_
        exact v_iret hF dX5_not_51
    · refine v_iconst (0) 26 hF dX5_not_25 rfl (by decide) ?_
      exact v_iret hF dX5_not_26
set_option maxRecDepth 100000 in
set_option maxHeartbeats 4000000 in
theorem v_X5_added_J62 {X : Cx} {G : Gx} {sh : List Sh} {d : Nat} (hF : FX X G sh 4 cX5_added (yX5_added).cls (some .int) (rgM (d + 1))) (hs : ModAt sh) {k_X5_either : Mm → Option (Int32 × Mm)} {k_X5_both : Mm → Option (Int32 × Mm)} {k_X5_not : Mm → Option (Int32 × Mm)} {k_X5_added : Mm → Option (Int32 × Mm)} {k_X5_term : Mm → Option (Int32 × Mm)} {k_X5_atom : Mm → Option (Int32 × Mm)} (hk_X5_either : ∀ (M : Mm), CT yX5_either cX5_either 3 (some .int) (rgM d) G sh [.ref (G.2.2.2.2 0)] rvI M (k_X5_either  M)) (hk_X5_both : ∀ (M : Mm), CT yX5_both cX5_both 3 (some .int) (rgM d) G sh [.ref (G.2.2.2.2 0)] rvI M (k_X5_both  M)) (hk_X5_not : ∀ (M : Mm), CT yX5_not cX5_not 4 (some .int) (rgM d) G sh [.ref (G.2.2.2.2 0)] rvI M (k_X5_not  M)) (hk_X5_added : ∀ (M : Mm), CT yX5_added cX5_added 4 (some .int) (rgM d) G sh [.ref (G.2.2.2.2 0)] rvI M (k_X5_added  M)) (hk_X5_term : ∀ (M : Mm), CT yX5_term cX5_term 2 (some .int) (rgM d) G sh [.ref (G.2.2.2.2 0)] rvI M (k_X5_term  M)) (hk_X5_atom : ∀ (M : Mm), CT yX5_atom cX5_atom 2 (some .int) (rgM d) G sh [.ref (G.2.2.2.2 0)] rvI M (k_X5_atom  M)) (n5 : Int32 → Mm → Option (Int32 × Mm)) (h5 : ∀ (x1 : Int32) (M : Mm), VR X G sh 4 rvI M 5 [(0, .ref (G.2.2.2.2 0)), (1, .int x1)] [] (n5 x1 M)) : ∀ (s0 : Int32) (M : Mm), VR X G sh 4 rvI M 62 [(0, .ref (G.2.2.2.2 0))] [.int s0] (m_X5_added_J62  k_X5_either k_X5_both k_X5_not k_X5_added k_X5_term k_X5_atom n5 s0 M) := by
  intro s0 M
  unfold m_X5_added_J62
  refine v_istore_n (lo' := fun y1 => [(1, .int y1), (0, .ref (G.2.2.2.2 0))]) 63 hF dX5_added_62 rfl rfl (by decide) (fun _ => rfl) (fun y1 => ?_)
  refine v_goto 5 hF dX5_added_63 (by decide) ?_
  refine VR.pick [1, 0] rfl ?_
  exact h5 y1 M
set_option maxRecDepth 100000 in
set_option maxHeartbeats 4000000 in
theorem v_X5_added_J39 {X : Cx} {G : Gx} {sh : List Sh} {d : Nat} (hF : FX X G sh 4 cX5_added (yX5_added).cls (some .int) (rgM (d + 1))) (hs : ModAt sh) {k_X5_either : Mm → Option (Int32 × Mm)} {k_X5_both : Mm → Option (Int32 × Mm)} {k_X5_not : Mm → Option (Int32 × Mm)} {k_X5_added : Mm → Option (Int32 × Mm)} {k_X5_term : Mm → Option (Int32 × Mm)} {k_X5_atom : Mm → Option (Int32 × Mm)} (hk_X5_either : ∀ (M : Mm), CT yX5_either cX5_either 3 (some .int) (rgM d) G sh [.ref (G.2.2.2.2 0)] rvI M (k_X5_either  M)) (hk_X5_both : ∀ (M : Mm), CT yX5_both cX5_both 3 (some .int) (rgM d) G sh [.ref (G.2.2.2.2 0)] rvI M (k_X5_both  M)) (hk_X5_not : ∀ (M : Mm), CT yX5_not cX5_not 4 (some .int) (rgM d) G sh [.ref (G.2.2.2.2 0)] rvI M (k_X5_not  M)) (hk_X5_added : ∀ (M : Mm), CT yX5_added cX5_added 4 (some .int) (rgM d) G sh [.ref (G.2.2.2.2 0)] rvI M (k_X5_added  M)) (hk_X5_term : ∀ (M : Mm), CT yX5_term cX5_term 2 (some .int) (rgM d) G sh [.ref (G.2.2.2.2 0)] rvI M (k_X5_term  M)) (hk_X5_atom : ∀ (M : Mm), CT yX5_atom cX5_atom 2 (some .int) (rgM d) G sh [.ref (G.2.2.2.2 0)] rvI M (k_X5_atom  M)) (n5 : Int32 → Mm → Option (Int32 × Mm)) (h5 : ∀ (x1 : Int32) (M : Mm), VR X G sh 4 rvI M 5 [(0, .ref (G.2.2.2.2 0)), (1, .int x1)] [] (n5 x1 M)) : ∀ (x1 : Int32) (s0 : Int32) (M : Mm), VR X G sh 4 rvI M 39 [(0, .ref (G.2.2.2.2 0)), (1, .int x1)] [.int s0] (m_X5_added_J39  k_X5_either k_X5_both k_X5_not k_X5_added k_X5_term k_X5_atom n5 x1 s0 M) := by
  intro x1 s0 M
  unfold m_X5_added_J39
  refine v_istore_n (lo' := fun y2 => [(2, .int y2), (0, .ref (G.2.2.2.2 0)), (1, .int x1)]) 40 hF dX5_added_39 rfl rfl (by decide) (fun _ => rfl) (fun y2 => ?_)
  refine v_aload_n 1 41 hF dX5_added_40 rfl rfl rfl ?_
  refine v_callV ([]) ([]) 44 hF dX5_added_41 rfl cw_X5_181 rfl (hs.1) (c_X5_next (G := G) hs M) (rgM_le (rc := rmX5_next) (maxL := 3) d rfl rfl (by decide) (by decide)) rfl rfl (Nat.le_of_ble_eq_true rfl) (fun _ M3 => ?_)
  refine v_aload_n 1 45 hF dX5_added_44 rfl rfl rfl ?_
  refine v_callI ([]) ([]) 48 hF dX5_added_45 rfl cw_X5_223 rfl (hs.1) (hk_X5_term M3) (rgM_ok d 2 (by decide)) rfl rfl (Nat.le_of_ble_eq_true rfl) (fun r5 M4 => ?_)
  refine v_istore_n (lo' := fun y6 => [(3, .int y6), (2, .int y2), (0, .ref (G.2.2.2.2 0)), (1, .int x1)]) 49 hF dX5_added_48 rfl rfl (by decide) (fun _ => rfl) (fun y6 => ?_)
  refine v_iload_n 1 50 hF dX5_added_49 rfl rfl rfl ?_
  refine v_if_eq 53 59 hF dX5_added_50 rfl (by decide) (fun _ => ?_) (fun _ => ?_)
  · refine v_iload_n 3 60 hF dX5_added_59 rfl rfl rfl ?_
    refine v_iload_n 0 61 hF dX5_added_60 rfl rfl rfl ?_
    refine v_isub 62 hF dX5_added_61 rfl ?_
    refine VR.pick [2] rfl ?_
    exact v_X5_added_J62 hF hs hk_X5_either hk_X5_both hk_X5_not hk_X5_added hk_X5_term hk_X5_atom _ h5 ((x1 - y6)) M4
  · refine v_iload_n 3 54 hF dX5_added_53 rfl rfl rfl ?_
    refine v_iload_n 0 55 hF dX5_added_54 rfl rfl rfl ?_
    refine v_iadd 56 hF dX5_added_55 rfl ?_
    refine v_goto 62 hF dX5_added_56 (by decide) ?_
    refine VR.pick [2] rfl ?_
    exact v_X5_added_J62 hF hs hk_X5_either hk_X5_both hk_X5_not hk_X5_added hk_X5_term hk_X5_atom _ h5 ((x1 + y6)) M4
set_option maxRecDepth 100000 in
set_option maxHeartbeats 4000000 in
theorem v_X5_added_J23 {X : Cx} {G : Gx} {sh : List Sh} {d : Nat} (hF : FX X G sh 4 cX5_added (yX5_added).cls (some .int) (rgM (d + 1))) (hs : ModAt sh) {k_X5_either : Mm → Option (Int32 × Mm)} {k_X5_both : Mm → Option (Int32 × Mm)} {k_X5_not : Mm → Option (Int32 × Mm)} {k_X5_added : Mm → Option (Int32 × Mm)} {k_X5_term : Mm → Option (Int32 × Mm)} {k_X5_atom : Mm → Option (Int32 × Mm)} (hk_X5_either : ∀ (M : Mm), CT yX5_either cX5_either 3 (some .int) (rgM d) G sh [.ref (G.2.2.2.2 0)] rvI M (k_X5_either  M)) (hk_X5_both : ∀ (M : Mm), CT yX5_both cX5_both 3 (some .int) (rgM d) G sh [.ref (G.2.2.2.2 0)] rvI M (k_X5_both  M)) (hk_X5_not : ∀ (M : Mm), CT yX5_not cX5_not 4 (some .int) (rgM d) G sh [.ref (G.2.2.2.2 0)] rvI M (k_X5_not  M)) (hk_X5_added : ∀ (M : Mm), CT yX5_added cX5_added 4 (some .int) (rgM d) G sh [.ref (G.2.2.2.2 0)] rvI M (k_X5_added  M)) (hk_X5_term : ∀ (M : Mm), CT yX5_term cX5_term 2 (some .int) (rgM d) G sh [.ref (G.2.2.2.2 0)] rvI M (k_X5_term  M)) (hk_X5_atom : ∀ (M : Mm), CT yX5_atom cX5_atom 2 (some .int) (rgM d) G sh [.ref (G.2.2.2.2 0)] rvI M (k_X5_atom  M)) (n5 : Int32 → Mm → Option (Int32 × Mm)) (h5 : ∀ (x1 : Int32) (M : Mm), VR X G sh 4 rvI M 5 [(0, .ref (G.2.2.2.2 0)), (1, .int x1)] [] (n5 x1 M)) : ∀ (x1 : Int32) (M : Mm), VR X G sh 4 rvI M 23 [(0, .ref (G.2.2.2.2 0)), (1, .int x1)] [] (m_X5_added_J23  k_X5_either k_X5_both k_X5_not k_X5_added k_X5_term k_X5_atom n5 x1 M) := by
  intro x1 M
  unfold m_X5_added_J23
  refine v_aload_n 0 24 hF dX5_added_23 rfl rfl rfl ?_
  refine v_getJ 27 hF dX5_added_24 rfl fl_X5_162 hs.1 rfl ?_
  refine v_ldc2 (43) 30 hF dX5_added_27 rfl cc_X5_226 ?_
  refine v_lcmp 31 hF dX5_added_30 rfl ?_
  refine v_if_ne 34 38 hF dX5_added_31 rfl (by decide) (fun _ => ?_) (fun _ => ?_)
  · refine v_iconst (0) 39 hF dX5_added_38 rfl (by decide) ?_
    refine VR.pick [0, 1] rfl ?_
    exact v_X5_added_J39 hF hs hk_X5_either hk_X5_both hk_X5_not hk_X5_added hk_X5_term hk_X5_atom _ h5 x1 ((0 : Int32)) M
  · refine v_iconst (1) 35 hF dX5_added_34 rfl (by decide) ?_
    refine v_goto 39 hF dX5_added_35 (by decide) ?_
    refine VR.pick [0, 1] rfl ?_
    exact v_X5_added_J39 hF hs hk_X5_either hk_X5_both hk_X5_not hk_X5_added hk_X5_term hk_X5_atom _ h5 x1 ((1 : Int32)) M
set_option maxRecDepth 100000 in
set_option maxHeartbeats 4000000 in
theorem v_X5_added_B5 {X : Cx} {G : Gx} {sh : List Sh} {d : Nat} (hF : FX X G sh 4 cX5_added (yX5_added).cls (some .int) (rgM (d + 1))) (hs : ModAt sh) {k_X5_either : Mm → Option (Int32 × Mm)} {k_X5_both : Mm → Option (Int32 × Mm)} {k_X5_not : Mm → Option (Int32 × Mm)} {k_X5_added : Mm → Option (Int32 × Mm)} {k_X5_term : Mm → Option (Int32 × Mm)} {k_X5_atom : Mm → Option (Int32 × Mm)} (hk_X5_either : ∀ (M : Mm), CT yX5_either cX5_either 3 (some .int) (rgM d) G sh [.ref (G.2.2.2.2 0)] rvI M (k_X5_either  M)) (hk_X5_both : ∀ (M : Mm), CT yX5_both cX5_both 3 (some .int) (rgM d) G sh [.ref (G.2.2.2.2 0)] rvI M (k_X5_both  M)) (hk_X5_not : ∀ (M : Mm), CT yX5_not cX5_not 4 (some .int) (rgM d) G sh [.ref (G.2.2.2.2 0)] rvI M (k_X5_not  M)) (hk_X5_added : ∀ (M : Mm), CT yX5_added cX5_added 4 (some .int) (rgM d) G sh [.ref (G.2.2.2.2 0)] rvI M (k_X5_added  M)) (hk_X5_term : ∀ (M : Mm), CT yX5_term cX5_term 2 (some .int) (rgM d) G sh [.ref (G.2.2.2.2 0)] rvI M (k_X5_term  M)) (hk_X5_atom : ∀ (M : Mm), CT yX5_atom cX5_atom 2 (some .int) (rgM d) G sh [.ref (G.2.2.2.2 0)] rvI M (k_X5_atom  M)) (n5 : Int32 → Mm → Option (Int32 × Mm)) (h5 : ∀ (x1 : Int32) (M : Mm), VR X G sh 4 rvI M 5 [(0, .ref (G.2.2.2.2 0)), (1, .int x1)] [] (n5 x1 M)) : ∀ (x1 : Int32) (M : Mm), VR X G sh 4 rvI M 5 [(0, .ref (G.2.2.2.2 0)), (1, .int x1)] [] (m_X5_added_B5  k_X5_either k_X5_both k_X5_not k_X5_added k_X5_term k_X5_atom n5 x1 M) := by
  intro x1 M
  unfold m_X5_added_B5
  refine v_aload_n 0 6 hF dX5_added_5 rfl rfl rfl ?_
  refine v_bipush (43) 8 hF dX5_added_6 rfl (by decide) ?_
  refine v_callI ([.int ((43 : Int32))]) ([]) 11 hF dX5_added_8 rfl cw_X5_206 rfl (hs.1) (c_X5_isSign (G := G) hs M ((43 : Int32))) (rgM_le (rc := rmX5_isSign) (maxL := 2) d rfl rfl (by decide) (by decide)) rfl rfl (Nat.le_of_ble_eq_true rfl) (fun r8 M7 => ?_)
  refine v_if_ne 14 23 hF dX5_added_11 rfl (by decide) (fun _ => ?_) (fun _ => ?_)
  · refine VR.pick [0, 1] rfl ?_
    exact v_X5_added_J23 hF hs hk_X5_either hk_X5_both hk_X5_not hk_X5_added hk_X5_term hk_X5_atom _ h5 x1 M7
  · refine v_aload_n 0 15 hF dX5_added_14 rfl rfl rfl ?_
    refine v_bipush (45) 17 hF dX5_added_15 rfl (by decide) ?_
    refine v_callI ([.int ((45 : Int32))]) ([]) 20 hF dX5_added_17 rfl cw_X5_206 rfl (hs.1) (c_X5_isSign (G := G) hs M7 ((45 : Int32))) (rgM_le (rc := rmX5_isSign) (maxL := 2) d rfl rfl (by decide) (by decide)) rfl rfl (Nat.le_of_ble_eq_true rfl) (fun r10 M9 => ?_)
    refine v_if_eq 23 66 hF dX5_added_20 rfl (by decide) (fun _ => ?_) (fun _ => ?_)
    · refine v_iload_n 1 67 hF dX5_added_66 rfl rfl rfl ?_
      exact v_iret hF dX5_added_67
    · refine VR.pick [0, 1] rfl ?_
      exact v_X5_added_J23 hF hs hk_X5_either hk_X5_both hk_X5_not hk_X5_added hk_X5_term hk_X5_atom _ h5 x1 M9
theorem v_X5_added_L5 {X : Cx} {G : Gx} {sh : List Sh} {d : Nat} (hF : FX X G sh 4 cX5_added (yX5_added).cls (some .int) (rgM (d + 1))) (hs : ModAt sh) {k_X5_either : Mm → Option (Int32 × Mm)} {k_X5_both : Mm → Option (Int32 × Mm)} {k_X5_not : Mm → Option (Int32 × Mm)} {k_X5_added : Mm → Option (Int32 × Mm)} {k_X5_term : Mm → Option (Int32 × Mm)} {k_X5_atom : Mm → Option (Int32 × Mm)} (hk_X5_either : ∀ (M : Mm), CT yX5_either cX5_either 3 (some .int) (rgM d) G sh [.ref (G.2.2.2.2 0)] rvI M (k_X5_either  M)) (hk_X5_both : ∀ (M : Mm), CT yX5_both cX5_both 3 (some .int) (rgM d) G sh [.ref (G.2.2.2.2 0)] rvI M (k_X5_both  M)) (hk_X5_not : ∀ (M : Mm), CT yX5_not cX5_not 4 (some .int) (rgM d) G sh [.ref (G.2.2.2.2 0)] rvI M (k_X5_not  M)) (hk_X5_added : ∀ (M : Mm), CT yX5_added cX5_added 4 (some .int) (rgM d) G sh [.ref (G.2.2.2.2 0)] rvI M (k_X5_added  M)) (hk_X5_term : ∀ (M : Mm), CT yX5_term cX5_term 2 (some .int) (rgM d) G sh [.ref (G.2.2.2.2 0)] rvI M (k_X5_term  M)) (hk_X5_atom : ∀ (M : Mm), CT yX5_atom cX5_atom 2 (some .int) (rgM d) G sh [.ref (G.2.2.2.2 0)] rvI M (k_X5_atom  M)) : ∀ (n : Nat), ∀ (x1 : Int32) (M : Mm), VR X G sh 4 rvI M 5 [(0, .ref (G.2.2.2.2 0)), (1, .int x1)] [] (m_X5_added_L5  k_X5_either k_X5_both k_X5_not k_X5_added k_X5_term k_X5_atom n x1 M) := by
  intro n
  induction n with
  | zero => intro x1 M; exact VR.none
  | succ n ih => exact v_X5_added_B5 hF hs hk_X5_either hk_X5_both hk_X5_not hk_X5_added hk_X5_term hk_X5_atom _ ih
set_option maxRecDepth 100000 in
set_option maxHeartbeats 4000000 in
theorem cb_X5_added {G : Gx} {sh : List Sh} {d : Nat} (hs : ModAt sh) {k_X5_either : Mm → Option (Int32 × Mm)} {k_X5_both : Mm → Option (Int32 × Mm)} {k_X5_not : Mm → Option (Int32 × Mm)} {k_X5_added : Mm → Option (Int32 × Mm)} {k_X5_term : Mm → Option (Int32 × Mm)} {k_X5_atom : Mm → Option (Int32 × Mm)} (hk_X5_either : ∀ (M : Mm), CT yX5_either cX5_either 3 (some .int) (rgM d) G sh [.ref (G.2.2.2.2 0)] rvI M (k_X5_either  M)) (hk_X5_both : ∀ (M : Mm), CT yX5_both cX5_both 3 (some .int) (rgM d) G sh [.ref (G.2.2.2.2 0)] rvI M (k_X5_both  M)) (hk_X5_not : ∀ (M : Mm), CT yX5_not cX5_not 4 (some .int) (rgM d) G sh [.ref (G.2.2.2.2 0)] rvI M (k_X5_not  M)) (hk_X5_added : ∀ (M : Mm), CT yX5_added cX5_added 4 (some .int) (rgM d) G sh [.ref (G.2.2.2.2 0)] rvI M (k_X5_added  M)) (hk_X5_term : ∀ (M : Mm), CT yX5_term cX5_term 2 (some .int) (rgM d) G sh [.ref (G.2.2.2.2 0)] rvI M (k_X5_term  M)) (hk_X5_atom : ∀ (M : Mm), CT yX5_atom cX5_atom 2 (some .int) (rgM d) G sh [.ref (G.2.2.2.2 0)] rvI M (k_X5_atom  M)) (M : Mm)  : CT yX5_added cX5_added 4 (some .int) (rgM (d + 1)) G sh [.ref (G.2.2.2.2 0)] rvI M (mb_X5_added  k_X5_either k_X5_both k_X5_not k_X5_added k_X5_term k_X5_atom  M) := by
  refine CT.of (by decide +kernel) (Nat.le_of_ble_eq_true rfl) (fun X hF => ?_)
  show VR X G sh 4 rvI M 0 [(0, .ref (G.2.2.2.2 0))] [] _
  unfold mb_X5_added
  refine v_aload_n 0 1 hF dX5_added_0 rfl rfl rfl ?_
  refine v_callI ([]) ([]) 4 hF dX5_added_1 rfl cw_X5_223 rfl (hs.1) (hk_X5_term M) (rgM_ok d 2 (by decide)) rfl rfl (Nat.le_of_ble_eq_true rfl) (fun r12 M11 => ?_)
  refine v_istore_n (lo' := fun y13 => [(1, .int y13), (0, .ref (G.2.2.2.2 0))]) 5 hF dX5_added_4 rfl rfl (by decide) (fun _ => rfl) (fun y13 => ?_)
  refine VR.pick [1, 0] rfl ?_
  exact v_X5_added_L5 hF hs hk_X5_either hk_X5_both hk_X5_not hk_X5_added hk_X5_term hk_X5_atom FU y13 M11
set_option maxRecDepth 100000 in
set_option maxHeartbeats 4000000 in
theorem v_X5_term_B5 {X : Cx} {G : Gx} {sh : List Sh} {d : Nat} (hF : FX X G sh 2 cX5_term (yX5_term).cls (some .int) (rgM (d + 1))) (hs : ModAt sh) {k_X5_either : Mm → Option (Int32 × Mm)} {k_X5_both : Mm → Option (Int32 × Mm)} {k_X5_not : Mm → Option (Int32 × Mm)} {k_X5_added : Mm → Option (Int32 × Mm)} {k_X5_term : Mm → Option (Int32 × Mm)} {k_X5_atom : Mm → Option (Int32 × Mm)} (hk_X5_either : ∀ (M : Mm), CT yX5_either cX5_either 3 (some .int) (rgM d) G sh [.ref (G.2.2.2.2 0)] rvI M (k_X5_either  M)) (hk_X5_both : ∀ (M : Mm), CT yX5_both cX5_both 3 (some .int) (rgM d) G sh [.ref (G.2.2.2.2 0)] rvI M (k_X5_both  M)) (hk_X5_not : ∀ (M : Mm), CT yX5_not cX5_not 4 (some .int) (rgM d) G sh [.ref (G.2.2.2.2 0)] rvI M (k_X5_not  M)) (hk_X5_added : ∀ (M : Mm), CT yX5_added cX5_added 4 (some .int) (rgM d) G sh [.ref (G.2.2.2.2 0)] rvI M (k_X5_added  M)) (hk_X5_term : ∀ (M : Mm), CT yX5_term cX5_term 2 (some .int) (rgM d) G sh [.ref (G.2.2.2.2 0)] rvI M (k_X5_term  M)) (hk_X5_atom : ∀ (M : Mm), CT yX5_atom cX5_atom 2 (some .int) (rgM d) G sh [.ref (G.2.2.2.2 0)] rvI M (k_X5_atom  M)) (n5 : Int32 → Mm → Option (Int32 × Mm)) (h5 : ∀ (x1 : Int32) (M : Mm), VR X G sh 2 rvI M 5 [(0, .ref (G.2.2.2.2 0)), (1, .int x1)] [] (n5 x1 M)) : ∀ (x1 : Int32) (M : Mm), VR X G sh 2 rvI M 5 [(0, .ref (G.2.2.2.2 0)), (1, .int x1)] [] (m_X5_term_B5  k_X5_either k_X5_both k_X5_not k_X5_added k_X5_term k_X5_atom n5 x1 M) := by
  intro x1 M
  unfold m_X5_term_B5
  refine v_aload_n 0 6 hF dX5_term_5 rfl rfl rfl ?_
  refine v_bipush (42) 8 hF dX5_term_6 rfl (by decide) ?_
  refine v_callI ([.int ((42 : Int32))]) ([]) 11 hF dX5_term_8 rfl cw_X5_206 rfl (hs.1) (c_X5_isSign (G := G) hs M ((42 : Int32))) (rgM_le (rc := rmX5_isSign) (maxL := 2) d rfl rfl (by decide) (by decide)) rfl rfl (Nat.le_of_ble_eq_true rfl) (fun r2 M1 => ?_)
  refine v_if_eq 14 28 hF dX5_term_11 rfl (by decide) (fun _ => ?_) (fun _ => ?_)
  · refine v_iload_n 1 29 hF dX5_term_28 rfl rfl rfl ?_
    exact v_iret hF dX5_term_29
  · refine v_aload_n 0 15 hF dX5_term_14 rfl rfl rfl ?_
    refine v_callV ([]) ([]) 18 hF dX5_term_15 rfl cw_X5_181 rfl (hs.1) (c_X5_next (G := G) hs M1) (rgM_le (rc := rmX5_next) (maxL := 3) d rfl rfl (by decide) (by decide)) rfl rfl (Nat.le_of_ble_eq_true rfl) (fun _ M3 => ?_)
    refine v_iload_n 1 19 hF dX5_term_18 rfl rfl rfl ?_
    refine v_aload_n 0 20 hF dX5_term_19 rfl rfl rfl ?_
    refine v_callI ([]) ([.int x1]) 23 hF dX5_term_20 rfl cw_X5_213 rfl (hs.1) (hk_X5_atom M3) (rgM_ok d 2 (by decide)) rfl rfl (Nat.le_of_ble_eq_true rfl) (fun r5 M4 => ?_)
    refine v_imul 24 hF dX5_term_23 rfl ?_
    refine v_istore_n (lo' := fun y6 => [(1, .int y6), (0, .ref (G.2.2.2.2 0))]) 25 hF dX5_term_24 rfl rfl (by decide) (fun _ => rfl) (fun y6 => ?_)
    refine v_goto 5 hF dX5_term_25 (by decide) ?_
    refine VR.pick [1, 0] rfl ?_
    exact h5 y6 M4
theorem v_X5_term_L5 {X : Cx} {G : Gx} {sh : List Sh} {d : Nat} (hF : FX X G sh 2 cX5_term (yX5_term).cls (some .int) (rgM (d + 1))) (hs : ModAt sh) {k_X5_either : Mm → Option (Int32 × Mm)} {k_X5_both : Mm → Option (Int32 × Mm)} {k_X5_not : Mm → Option (Int32 × Mm)} {k_X5_added : Mm → Option (Int32 × Mm)} {k_X5_term : Mm → Option (Int32 × Mm)} {k_X5_atom : Mm → Option (Int32 × Mm)} (hk_X5_either : ∀ (M : Mm), CT yX5_either cX5_either 3 (some .int) (rgM d) G sh [.ref (G.2.2.2.2 0)] rvI M (k_X5_either  M)) (hk_X5_both : ∀ (M : Mm), CT yX5_both cX5_both 3 (some .int) (rgM d) G sh [.ref (G.2.2.2.2 0)] rvI M (k_X5_both  M)) (hk_X5_not : ∀ (M : Mm), CT yX5_not cX5_not 4 (some .int) (rgM d) G sh [.ref (G.2.2.2.2 0)] rvI M (k_X5_not  M)) (hk_X5_added : ∀ (M : Mm), CT yX5_added cX5_added 4 (some .int) (rgM d) G sh [.ref (G.2.2.2.2 0)] rvI M (k_X5_added  M)) (hk_X5_term : ∀ (M : Mm), CT yX5_term cX5_term 2 (some .int) (rgM d) G sh [.ref (G.2.2.2.2 0)] rvI M (k_X5_term  M)) (hk_X5_atom : ∀ (M : Mm), CT yX5_atom cX5_atom 2 (some .int) (rgM d) G sh [.ref (G.2.2.2.2 0)] rvI M (k_X5_atom  M)) : ∀ (n : Nat), ∀ (x1 : Int32) (M : Mm), VR X G sh 2 rvI M 5 [(0, .ref (G.2.2.2.2 0)), (1, .int x1)] [] (m_X5_term_L5  k_X5_either k_X5_both k_X5_not k_X5_added k_X5_term k_X5_atom n x1 M) := by
  intro n
  induction n with
  | zero => intro x1 M; exact VR.none
  | succ n ih => exact v_X5_term_B5 hF hs hk_X5_either hk_X5_both hk_X5_not hk_X5_added hk_X5_term hk_X5_atom _ ih
set_option maxRecDepth 100000 in
set_option maxHeartbeats 4000000 in
theorem cb_X5_term {G : Gx} {sh : List Sh} {d : Nat} (hs : ModAt sh) {k_X5_either : Mm → Option (Int32 × Mm)} {k_X5_both : Mm → Option (Int32 × Mm)} {k_X5_not : Mm → Option (Int32 × Mm)} {k_X5_added : Mm → Option (Int32 × Mm)} {k_X5_term : Mm → Option (Int32 × Mm)} {k_X5_atom : Mm → Option (Int32 × Mm)} (hk_X5_either : ∀ (M : Mm), CT yX5_either cX5_either 3 (some .int) (rgM d) G sh [.ref (G.2.2.2.2 0)] rvI M (k_X5_either  M)) (hk_X5_both : ∀ (M : Mm), CT yX5_both cX5_both 3 (some .int) (rgM d) G sh [.ref (G.2.2.2.2 0)] rvI M (k_X5_both  M)) (hk_X5_not : ∀ (M : Mm), CT yX5_not cX5_not 4 (some .int) (rgM d) G sh [.ref (G.2.2.2.2 0)] rvI M (k_X5_not  M)) (hk_X5_added : ∀ (M : Mm), CT yX5_added cX5_added 4 (some .int) (rgM d) G sh [.ref (G.2.2.2.2 0)] rvI M (k_X5_added  M)) (hk_X5_term : ∀ (M : Mm), CT yX5_term cX5_term 2 (some .int) (rgM d) G sh [.ref (G.2.2.2.2 0)] rvI M (k_X5_term  M)) (hk_X5_atom : ∀ (M : Mm), CT yX5_atom cX5_atom 2 (some .int) (rgM d) G sh [.ref (G.2.2.2.2 0)] rvI M (k_X5_atom  M)) (M : Mm)  : CT yX5_term cX5_term 2 (some .int) (rgM (d + 1)) G sh [.ref (G.2.2.2.2 0)] rvI M (mb_X5_term  k_X5_either k_X5_both k_X5_not k_X5_added k_X5_term k_X5_atom  M) := by
  refine CT.of (by decide +kernel) (Nat.le_of_ble_eq_true rfl) (fun X hF => ?_)
  show VR X G sh 2 rvI M 0 [(0, .ref (G.2.2.2.2 0))] [] _
  unfold mb_X5_term
  refine v_aload_n 0 1 hF dX5_term_0 rfl rfl rfl ?_
  refine v_callI ([]) ([]) 4 hF dX5_term_1 rfl cw_X5_213 rfl (hs.1) (hk_X5_atom M) (rgM_ok d 2 (by decide)) rfl rfl (Nat.le_of_ble_eq_true rfl) (fun r8 M7 => ?_)
  refine v_istore_n (lo' := fun y9 => [(1, .int y9), (0, .ref (G.2.2.2.2 0))]) 5 hF dX5_term_4 rfl rfl (by decide) (fun _ => rfl) (fun y9 => ?_)
  refine VR.pick [1, 0] rfl ?_
  exact v_X5_term_L5 hF hs hk_X5_either hk_X5_both hk_X5_not hk_X5_added hk_X5_term hk_X5_atom FU y9 M7
set_option maxRecDepth 100000 in
set_option maxHeartbeats 4000000 in
theorem v_X5_atom_J157 {X : Cx} {G : Gx} {sh : List Sh} {d : Nat} (hF : FX X G sh 2 cX5_atom (yX5_atom).cls (some .int) (rgM (d + 1))) (hs : ModAt sh) {k_X5_either : Mm → Option (Int32 × Mm)} {k_X5_both : Mm → Option (Int32 × Mm)} {k_X5_not : Mm → Option (Int32 × Mm)} {k_X5_added : Mm → Option (Int32 × Mm)} {k_X5_term : Mm → Option (Int32 × Mm)} {k_X5_atom : Mm → Option (Int32 × Mm)} (hk_X5_either : ∀ (M : Mm), CT yX5_either cX5_either 3 (some .int) (rgM d) G sh [.ref (G.2.2.2.2 0)] rvI M (k_X5_either  M)) (hk_X5_both : ∀ (M : Mm), CT yX5_both cX5_both 3 (some .int) (rgM d) G sh [.ref (G.2.2.2.2 0)] rvI M (k_X5_both  M)) (hk_X5_not : ∀ (M : Mm), CT yX5_not cX5_not 4 (some .int) (rgM d) G sh [.ref (G.2.2.2.2 0)] rvI M (k_X5_not  M)) (hk_X5_added : ∀ (M : Mm), CT yX5_added cX5_added 4 (some .int) (rgM d) G sh [.ref (G.2.2.2.2 0)] rvI M (k_X5_added  M)) (hk_X5_term : ∀ (M : Mm), CT yX5_term cX5_term 2 (some .int) (rgM d) G sh [.ref (G.2.2.2.2 0)] rvI M (k_X5_term  M)) (hk_X5_atom : ∀ (M : Mm), CT yX5_atom cX5_atom 2 (some .int) (rgM d) G sh [.ref (G.2.2.2.2 0)] rvI M (k_X5_atom  M)) : ∀ (x1 : Int32) (M : Mm), VR X G sh 2 rvI M 157 [(0, .ref (G.2.2.2.2 0)), (1, .int x1)] [] (m_X5_atom_J157  k_X5_either k_X5_both k_X5_not k_X5_added k_X5_term k_X5_atom x1 M) := by
  intro x1 M
  unfold m_X5_atom_J157
  refine v_aload_n 0 158 hF dX5_atom_157 rfl rfl rfl ?_
  refine v_callV ([]) ([]) 161 hF dX5_atom_158 rfl cw_X5_178 rfl (hs.1) (c_X5_fail (G := G) hs M) (rgM_le (rc := rmX5_fail) (maxL := 1) d rfl rfl (by decide) (by decide)) rfl rfl (Nat.le_of_ble_eq_true rfl) (fun _ M1 => ?_)
  refine v_iload_n 1 162 hF dX5_atom_161 rfl rfl rfl ?_
  exact v_iret hF dX5_atom_162
set_option maxRecDepth 100000 in
set_option maxHeartbeats 4000000 in
theorem v_X5_atom_J123 {X : Cx} {G : Gx} {sh : List Sh} {d : Nat} (hF : FX X G sh 2 cX5_atom (yX5_atom).cls (some .int) (rgM (d + 1))) (hs : ModAt sh) {k_X5_either : Mm → Option (Int32 × Mm)} {k_X5_both : Mm → Option (Int32 × Mm)} {k_X5_not : Mm → Option (Int32 × Mm)} {k_X5_added : Mm → Option (Int32 × Mm)} {k_X5_term : Mm → Option (Int32 × Mm)} {k_X5_atom : Mm → Option (Int32 × Mm)} (hk_X5_either : ∀ (M : Mm), CT yX5_either cX5_either 3 (some .int) (rgM d) G sh [.ref (G.2.2.2.2 0)] rvI M (k_X5_either  M)) (hk_X5_both : ∀ (M : Mm), CT yX5_both cX5_both 3 (some .int) (rgM d) G sh [.ref (G.2.2.2.2 0)] rvI M (k_X5_both  M)) (hk_X5_not : ∀ (M : Mm), CT yX5_not cX5_not 4 (some .int) (rgM d) G sh [.ref (G.2.2.2.2 0)] rvI M (k_X5_not  M)) (hk_X5_added : ∀ (M : Mm), CT yX5_added cX5_added 4 (some .int) (rgM d) G sh [.ref (G.2.2.2.2 0)] rvI M (k_X5_added  M)) (hk_X5_term : ∀ (M : Mm), CT yX5_term cX5_term 2 (some .int) (rgM d) G sh [.ref (G.2.2.2.2 0)] rvI M (k_X5_term  M)) (hk_X5_atom : ∀ (M : Mm), CT yX5_atom cX5_atom 2 (some .int) (rgM d) G sh [.ref (G.2.2.2.2 0)] rvI M (k_X5_atom  M)) : ∀ (x1 : Int32) (M : Mm), VR X G sh 2 rvI M 123 [(0, .ref (G.2.2.2.2 0)), (1, .int x1)] [] (m_X5_atom_J123  k_X5_either k_X5_both k_X5_not k_X5_added k_X5_term k_X5_atom x1 M) := by
  intro x1 M
  unfold m_X5_atom_J123
  refine v_aload_n 0 124 hF dX5_atom_123 rfl rfl rfl ?_
  refine v_getI 127 hF dX5_atom_124 rfl fl_X5_166 hs.1 rfl ?_
  refine v_if_ne 130 157 hF dX5_atom_127 rfl (by decide) (fun _ => ?_) (fun _ => ?_)
  · refine VR.pick [0, 1] rfl ?_
    exact v_X5_atom_J157 hF hs hk_X5_either hk_X5_both hk_X5_not hk_X5_added hk_X5_term hk_X5_atom x1 M
  · refine v_aload_n 0 131 hF dX5_atom_130 rfl rfl rfl ?_
    refine v_getI 134 hF dX5_atom_131 rfl fl_X5_151 hs.1 rfl ?_
    refine v_iconst (1) 135 hF dX5_atom_134 rfl (by decide) ?_
    refine v_icmp_ne 138 157 hF dX5_atom_135 rfl (by decide) (fun _ => ?_) (fun _ => ?_)
    · refine VR.pick [0, 1] rfl ?_
      exact v_X5_atom_J157 hF hs hk_X5_either hk_X5_both hk_X5_not hk_X5_added hk_X5_term hk_X5_atom x1 M
    · refine v_aload_n 0 139 hF dX5_atom_138 rfl rfl rfl ?_
      refine v_callI ([]) ([]) 142 hF dX5_atom_139 rfl cw_X5_220 rfl (hs.1) (c_X5_name (G := G) hs M) (rgM_le (rc := rmX5_name) (maxL := 1) d rfl rfl (by decide) (by decide)) rfl rfl (Nat.le_of_ble_eq_true rfl) (fun r3 M2 => ?_)
      refine v_istore_n (lo' := fun y4 => [(1, .int y4), (0, .ref (G.2.2.2.2 0))]) 143 hF dX5_atom_142 rfl rfl (by decide) (fun _ => rfl) (fun y4 => ?_)
      refine v_aload_n 1 144 hF dX5_atom_143 rfl rfl rfl ?_
      refine v_getI 147 hF dX5_atom_144 rfl fl_X5_166 hs.1 rfl ?_
      refine v_if_ne 150 161 hF dX5_atom_147 rfl (by decide) (fun _ => ?_) (fun _ => ?_)
      · refine v_iload_n 0 162 hF dX5_atom_161 rfl rfl rfl ?_
        exact v_iret hF dX5_atom_162
      · refine v_aload_n 1 151 hF dX5_atom_150 rfl rfl rfl ?_
        refine v_callV ([]) ([]) 154 hF dX5_atom_151 rfl cw_X5_181 rfl (hs.1) (c_X5_next (G := G) hs M2) (rgM_le (rc := rmX5_next) (maxL := 3) d rfl rfl (by decide) (by decide)) rfl rfl (Nat.le_of_ble_eq_true rfl) (fun _ M5 => ?_)
        refine v_goto 161 hF dX5_atom_154 (by decide) ?_
        refine v_iload_n 0 162 hF dX5_atom_161 rfl rfl rfl ?_
        exact v_iret hF dX5_atom_162
set_option maxRecDepth 100000 in
set_option maxHeartbeats 4000000 in
theorem v_X5_atom_J71 {X : Cx} {G : Gx} {sh : List Sh} {d : Nat} (hF : FX X G sh 2 cX5_atom (yX5_atom).cls (some .int) (rgM (d + 1))) (hs : ModAt sh) {k_X5_either : Mm → Option (Int32 × Mm)} {k_X5_both : Mm → Option (Int32 × Mm)} {k_X5_not : Mm → Option (Int32 × Mm)} {k_X5_added : Mm → Option (Int32 × Mm)} {k_X5_term : Mm → Option (Int32 × Mm)} {k_X5_atom : Mm → Option (Int32 × Mm)} (hk_X5_either : ∀ (M : Mm), CT yX5_either cX5_either 3 (some .int) (rgM d) G sh [.ref (G.2.2.2.2 0)] rvI M (k_X5_either  M)) (hk_X5_both : ∀ (M : Mm), CT yX5_both cX5_both 3 (some .int) (rgM d) G sh [.ref (G.2.2.2.2 0)] rvI M (k_X5_both  M)) (hk_X5_not : ∀ (M : Mm), CT yX5_not cX5_not 4 (some .int) (rgM d) G sh [.ref (G.2.2.2.2 0)] rvI M (k_X5_not  M)) (hk_X5_added : ∀ (M : Mm), CT yX5_added cX5_added 4 (some .int) (rgM d) G sh [.ref (G.2.2.2.2 0)] rvI M (k_X5_added  M)) (hk_X5_term : ∀ (M : Mm), CT yX5_term cX5_term 2 (some .int) (rgM d) G sh [.ref (G.2.2.2.2 0)] rvI M (k_X5_term  M)) (hk_X5_atom : ∀ (M : Mm), CT yX5_atom cX5_atom 2 (some .int) (rgM d) G sh [.ref (G.2.2.2.2 0)] rvI M (k_X5_atom  M)) : ∀ (x1 : Int32) (M : Mm), VR X G sh 2 rvI M 71 [(0, .ref (G.2.2.2.2 0)), (1, .int x1)] [] (m_X5_atom_J71  k_X5_either k_X5_both k_X5_not k_X5_added k_X5_term k_X5_atom x1 M) := by
  intro x1 M
  unfold m_X5_atom_J71
  refine v_aload_n 0 72 hF dX5_atom_71 rfl rfl rfl ?_
  refine v_dupR 73 hF dX5_atom_72 rfl ?_
  refine v_getI 76 hF dX5_atom_73 rfl fl_X5_175 hs.1 rfl ?_
  refine v_iconst (1) 77 hF dX5_atom_76 rfl (by decide) ?_
  refine v_isub 78 hF dX5_atom_77 rfl ?_
  refine v_putI 81 hF dX5_atom_78 rfl fl_X5_175 fp_X5_26 hs.1 rfl (fun M6 => ?_)
  refine v_aload_n 0 82 hF dX5_atom_81 rfl rfl rfl ?_
  refine v_getI 85 hF dX5_atom_82 rfl fl_X5_166 hs.1 rfl ?_
  refine v_if_ne 88 161 hF dX5_atom_85 rfl (by decide) (fun _ => ?_) (fun _ => ?_)
  · refine v_iload_n 1 162 hF dX5_atom_161 rfl rfl rfl ?_
    exact v_iret hF dX5_atom_162
  · refine v_aload_n 0 89 hF dX5_atom_88 rfl rfl rfl ?_
    refine v_callV ([]) ([]) 92 hF dX5_atom_89 rfl cw_X5_181 rfl (hs.1) (c_X5_next (G := G) hs M6) (rgM_le (rc := rmX5_next) (maxL := 3) d rfl rfl (by decide) (by decide)) rfl rfl (Nat.le_of_ble_eq_true rfl) (fun _ M7 => ?_)
    refine v_goto 161 hF dX5_atom_92 (by decide) ?_
    refine v_iload_n 1 162 hF dX5_atom_161 rfl rfl rfl ?_
    exact v_iret hF dX5_atom_162
set_option maxRecDepth 100000 in
set_option maxHeartbeats 4000000 in
theorem cb_X5_atom {G : Gx} {sh : List Sh} {d : Nat} (hs : ModAt sh) {k_X5_either : Mm → Option (Int32 × Mm)} {k_X5_both : Mm → Option (Int32 × Mm)} {k_X5_not : Mm → Option (Int32 × Mm)} {k_X5_added : Mm → Option (Int32 × Mm)} {k_X5_term : Mm → Option (Int32 × Mm)} {k_X5_atom : Mm → Option (Int32 × Mm)} (hk_X5_either : ∀ (M : Mm), CT yX5_either cX5_either 3 (some .int) (rgM d) G sh [.ref (G.2.2.2.2 0)] rvI M (k_X5_either  M)) (hk_X5_both : ∀ (M : Mm), CT yX5_both cX5_both 3 (some .int) (rgM d) G sh [.ref (G.2.2.2.2 0)] rvI M (k_X5_both  M)) (hk_X5_not : ∀ (M : Mm), CT yX5_not cX5_not 4 (some .int) (rgM d) G sh [.ref (G.2.2.2.2 0)] rvI M (k_X5_not  M)) (hk_X5_added : ∀ (M : Mm), CT yX5_added cX5_added 4 (some .int) (rgM d) G sh [.ref (G.2.2.2.2 0)] rvI M (k_X5_added  M)) (hk_X5_term : ∀ (M : Mm), CT yX5_term cX5_term 2 (some .int) (rgM d) G sh [.ref (G.2.2.2.2 0)] rvI M (k_X5_term  M)) (hk_X5_atom : ∀ (M : Mm), CT yX5_atom cX5_atom 2 (some .int) (rgM d) G sh [.ref (G.2.2.2.2 0)] rvI M (k_X5_atom  M)) (M : Mm)  : CT yX5_atom cX5_atom 2 (some .int) (rgM (d + 1)) G sh [.ref (G.2.2.2.2 0)] rvI M (mb_X5_atom  k_X5_either k_X5_both k_X5_not k_X5_added k_X5_term k_X5_atom  M) := by
  refine CT.of (by decide +kernel) (Nat.le_of_ble_eq_true rfl) (fun X hF => ?_)
  show VR X G sh 2 rvI M 0 [(0, .ref (G.2.2.2.2 0))] [] _
  unfold mb_X5_atom
  refine v_iconst (0) 1 hF dX5_atom_0 rfl (by decide) ?_
  refine v_istore_n (lo' := fun y8 => [(1, .int y8), (0, .ref (G.2.2.2.2 0))]) 2 hF dX5_atom_1 rfl rfl (by decide) (fun _ => rfl) (fun y8 => ?_)
  refine v_aload_n 1 3 hF dX5_atom_2 rfl rfl rfl ?_
  refine v_bipush (45) 5 hF dX5_atom_3 rfl (by decide) ?_
  refine v_callI ([.int ((45 : Int32))]) ([]) 8 hF dX5_atom_5 rfl cw_X5_206 rfl (hs.1) (c_X5_isSign (G := G) hs M ((45 : Int32))) (rgM_le (rc := rmX5_isSign) (maxL := 2) d rfl rfl (by decide) (by decide)) rfl rfl (Nat.le_of_ble_eq_true rfl) (fun r10 M9 => ?_)
  refine v_if_eq 11 37 hF dX5_atom_8 rfl (by decide) (fun _ => ?_) (fun _ => ?_)
  · refine v_aload_n 1 38 hF dX5_atom_37 rfl rfl rfl ?_
    refine v_bipush (40) 40 hF dX5_atom_38 rfl (by decide) ?_
    refine v_callI ([.int ((40 : Int32))]) ([]) 43 hF dX5_atom_40 rfl cw_X5_206 rfl (hs.1) (c_X5_isSign (G := G) hs M9 ((40 : Int32))) (rgM_le (rc := rmX5_isSign) (maxL := 2) d rfl rfl (by decide) (by decide)) rfl rfl (Nat.le_of_ble_eq_true rfl) (fun r12 M11 => ?_)
    refine v_if_eq 46 95 hF dX5_atom_43 rfl (by decide) (fun _ => ?_) (fun _ => ?_)
    · refine v_aload_n 1 96 hF dX5_atom_95 rfl rfl rfl ?_
      refine v_getI 99 hF dX5_atom_96 rfl fl_X5_166 hs.1 rfl ?_
      refine v_if_ne 102 123 hF dX5_atom_99 rfl (by decide) (fun _ => ?_) (fun _ => ?_)
      · refine VR.pick [1, 0] rfl ?_
        exact v_X5_atom_J123 hF hs hk_X5_either hk_X5_both hk_X5_not hk_X5_added hk_X5_term hk_X5_atom y8 M11
      · refine v_aload_n 1 103 hF dX5_atom_102 rfl rfl rfl ?_
        refine v_getI 106 hF dX5_atom_103 rfl fl_X5_151 hs.1 rfl ?_
        refine v_iconst (2) 107 hF dX5_atom_106 rfl (by decide) ?_
        refine v_icmp_ne 110 123 hF dX5_atom_107 rfl (by decide) (fun _ => ?_) (fun _ => ?_)
        · refine VR.pick [1, 0] rfl ?_
          exact v_X5_atom_J123 hF hs hk_X5_either hk_X5_both hk_X5_not hk_X5_added hk_X5_term hk_X5_atom y8 M11
        · refine v_aload_n 1 111 hF dX5_atom_110 rfl rfl rfl ?_
          refine v_getJ 114 hF dX5_atom_111 rfl fl_X5_162 hs.1 rfl ?_
          refine v_l2i 115 hF dX5_atom_114 rfl ?_
          refine v_istore_n (lo' := fun y13 => [(1, .int y13), (0, .ref (G.2.2.2.2 0))]) 116 hF dX5_atom_115 rfl rfl (by decide) (fun _ => rfl) (fun y13 => ?_)
          refine v_aload_n 1 117 hF dX5_atom_116 rfl rfl rfl ?_
          refine v_callV ([]) ([]) 120 hF dX5_atom_117 rfl cw_X5_181 rfl (hs.1) (c_X5_next (G := G) hs M11) (rgM_le (rc := rmX5_next) (maxL := 3) d rfl rfl (by decide) (by decide)) rfl rfl (Nat.le_of_ble_eq_true rfl) (fun _ M14 => ?_)
          refine v_goto 161 hF dX5_atom_120 (by decide) ?_
          refine v_iload_n 0 162 hF dX5_atom_161 rfl rfl rfl ?_
          exact v_iret hF dX5_atom_162
    · refine v_aload_n 1 47 hF dX5_atom_46 rfl rfl rfl ?_
      refine v_callI ([]) ([]) 50 hF dX5_atom_47 rfl cw_X5_209 rfl (hs.1) (c_X5_opens (G := G) hs M11) (rgM_le (rc := rmX5_opens) (maxL := 1) d rfl rfl (by decide) (by decide)) rfl rfl (Nat.le_of_ble_eq_true rfl) (fun r16 M15 => ?_)
      refine v_if_eq 53 161 hF dX5_atom_50 rfl (by decide) (fun _ => ?_) (fun _ => ?_)
      · refine v_iload_n 0 162 hF dX5_atom_161 rfl rfl rfl ?_
        exact v_iret hF dX5_atom_162
      · refine v_aload_n 1 54 hF dX5_atom_53 rfl rfl rfl ?_
        refine v_callI ([]) ([]) 57 hF dX5_atom_54 rfl cw_X5_217 rfl (hs.1) (hk_X5_either M15) (rgM_ok d 3 (by decide)) rfl rfl (Nat.le_of_ble_eq_true rfl) (fun r18 M17 => ?_)
        refine v_istore_n (lo' := fun y19 => [(1, .int y19), (0, .ref (G.2.2.2.2 0))]) 58 hF dX5_atom_57 rfl rfl (by decide) (fun _ => rfl) (fun y19 => ?_)
        refine v_aload_n 1 59 hF dX5_atom_58 rfl rfl rfl ?_
        refine v_bipush (41) 61 hF dX5_atom_59 rfl (by decide) ?_
        refine v_callI ([.int ((41 : Int32))]) ([]) 64 hF dX5_atom_61 rfl cw_X5_206 rfl (hs.1) (c_X5_isSign (G := G) hs M17 ((41 : Int32))) (rgM_le (rc := rmX5_isSign) (maxL := 2) d rfl rfl (by decide) (by decide)) rfl rfl (Nat.le_of_ble_eq_true rfl) (fun r21 M20 => ?_)
        refine v_if_ne 67 71 hF dX5_atom_64 rfl (by decide) (fun _ => ?_) (fun _ => ?_)
        · refine VR.pick [1, 0] rfl ?_
          exact v_X5_atom_J71 hF hs hk_X5_either hk_X5_both hk_X5_not hk_X5_added hk_X5_term hk_X5_atom y19 M20
        · refine v_aload_n 1 68 hF dX5_atom_67 rfl rfl rfl ?_
          refine v_callV ([]) ([]) 71 hF dX5_atom_68 rfl cw_X5_178 rfl (hs.1) (c_X5_fail (G := G) hs M20) (rgM_le (rc := rmX5_fail) (maxL := 1) d rfl rfl (by decide) (by decide)) rfl rfl (Nat.le_of_ble_eq_true rfl) (fun _ M22 => ?_)
          refine VR.pick [1, 0] rfl ?_
          exact v_X5_atom_J71 hF hs hk_X5_either hk_X5_both hk_X5_not hk_X5_added hk_X5_term hk_X5_atom y19 M22
  · refine v_aload_n 1 12 hF dX5_atom_11 rfl rfl rfl ?_
    refine v_callI ([]) ([]) 15 hF dX5_atom_12 rfl cw_X5_209 rfl (hs.1) (c_X5_opens (G := G) hs M9) (rgM_le (rc := rmX5_opens) (maxL := 1) d rfl rfl (by decide) (by decide)) rfl rfl (Nat.le_of_ble_eq_true rfl) (fun r24 M23 => ?_)
    refine v_if_eq 18 161 hF dX5_atom_15 rfl (by decide) (fun _ => ?_) (fun _ => ?_)
    · refine v_iload_n 0 162 hF dX5_atom_161 rfl rfl rfl ?_
      exact v_iret hF dX5_atom_162
    · refine v_aload_n 1 19 hF dX5_atom_18 rfl rfl rfl ?_
      refine v_callI ([]) ([]) 22 hF dX5_atom_19 rfl cw_X5_213 rfl (hs.1) (hk_X5_atom M23) (rgM_ok d 2 (by decide)) rfl rfl (Nat.le_of_ble_eq_true rfl) (fun r26 M25 => ?_)
      refine v_ineg 23 hF dX5_atom_22 rfl ?_
      refine v_istore_n (lo' := fun y27 => [(1, .int y27), (0, .ref (G.2.2.2.2 0))]) 24 hF dX5_atom_23 rfl rfl (by decide) (fun _ => rfl) (fun y27 => ?_)
      refine v_aload_n 1 25 hF dX5_atom_24 rfl rfl rfl ?_
      refine v_dupR 26 hF dX5_atom_25 rfl ?_
      refine v_getI 29 hF dX5_atom_26 rfl fl_X5_175 hs.1 rfl ?_
      refine v_iconst (1) 30 hF dX5_atom_29 rfl (by decide) ?_
      refine v_isub 31 hF dX5_atom_30 rfl ?_
      refine v_putI 34 hF dX5_atom_31 rfl fl_X5_175 fp_X5_26 hs.1 rfl (fun M28 => ?_)
      refine v_goto 161 hF dX5_atom_34 (by decide) ?_
      refine v_iload_n 0 162 hF dX5_atom_161 rfl rfl rfl ?_
      exact v_iret hF dX5_atom_162
set_option maxRecDepth 100000 in
set_option maxHeartbeats 4000000 in
theorem cg_rgM {G : Gx} {sh : List Sh} (hs : ModAt sh) : ∀ d : Nat, (∀ (M : Mm), CT yX5_either cX5_either 3 (some .int) (rgM d) G sh [.ref (G.2.2.2.2 0)] rvI M ((g_rgM d).1  M)) ∧ (∀ (M : Mm), CT yX5_both cX5_both 3 (some .int) (rgM d) G sh [.ref (G.2.2.2.2 0)] rvI M ((g_rgM d).2.1  M)) ∧ (∀ (M : Mm), CT yX5_not cX5_not 4 (some .int) (rgM d) G sh [.ref (G.2.2.2.2 0)] rvI M ((g_rgM d).2.2.1  M)) ∧ (∀ (M : Mm), CT yX5_added cX5_added 4 (some .int) (rgM d) G sh [.ref (G.2.2.2.2 0)] rvI M ((g_rgM d).2.2.2.1  M)) ∧ (∀ (M : Mm), CT yX5_term cX5_term 2 (some .int) (rgM d) G sh [.ref (G.2.2.2.2 0)] rvI M ((g_rgM d).2.2.2.2.1  M)) ∧ (∀ (M : Mm), CT yX5_atom cX5_atom 2 (some .int) (rgM d) G sh [.ref (G.2.2.2.2 0)] rvI M ((g_rgM d).2.2.2.2.2  M)) := by
  intro d
  induction d with
  | zero => exact ⟨fun _ => CT.none, fun _ => CT.none, fun _ => CT.none, fun _ => CT.none, fun _ => CT.none, fun _ => CT.none⟩
  | succ d ih => exact ⟨fun M => cb_X5_either hs (ih.1) (ih.2.1) (ih.2.2.1) (ih.2.2.2.1) (ih.2.2.2.2.1) (ih.2.2.2.2.2) M, fun M => cb_X5_both hs (ih.1) (ih.2.1) (ih.2.2.1) (ih.2.2.2.1) (ih.2.2.2.2.1) (ih.2.2.2.2.2) M, fun M => cb_X5_not hs (ih.1) (ih.2.1) (ih.2.2.1) (ih.2.2.2.1) (ih.2.2.2.2.1) (ih.2.2.2.2.2) M, fun M => cb_X5_added hs (ih.1) (ih.2.1) (ih.2.2.1) (ih.2.2.2.1) (ih.2.2.2.2.1) (ih.2.2.2.2.2) M, fun M => cb_X5_term hs (ih.1) (ih.2.1) (ih.2.2.1) (ih.2.2.2.1) (ih.2.2.2.2.1) (ih.2.2.2.2.2) M, fun M => cb_X5_atom hs (ih.1) (ih.2.1) (ih.2.2.1) (ih.2.2.2.1) (ih.2.2.2.2.1) (ih.2.2.2.2.2) M⟩
theorem c_X5_either {G : Gx} {sh : List Sh} (hs : ModAt sh) (M : Mm) : CT yX5_either cX5_either 3 (some .int) (rgM 60) G sh [.ref (G.2.2.2.2 0)] rvI M (m_X5_either M) := (cg_rgM hs 60).1 M
theorem c_X5_both {G : Gx} {sh : List Sh} (hs : ModAt sh) (M : Mm) : CT yX5_both cX5_both 3 (some .int) (rgM 60) G sh [.ref (G.2.2.2.2 0)] rvI M (m_X5_both M) := (cg_rgM hs 60).2.1 M
theorem c_X5_not {G : Gx} {sh : List Sh} (hs : ModAt sh) (M : Mm) : CT yX5_not cX5_not 4 (some .int) (rgM 60) G sh [.ref (G.2.2.2.2 0)] rvI M (m_X5_not M) := (cg_rgM hs 60).2.2.1 M
theorem c_X5_added {G : Gx} {sh : List Sh} (hs : ModAt sh) (M : Mm) : CT yX5_added cX5_added 4 (some .int) (rgM 60) G sh [.ref (G.2.2.2.2 0)] rvI M (m_X5_added M) := (cg_rgM hs 60).2.2.2.1 M
theorem c_X5_term {G : Gx} {sh : List Sh} (hs : ModAt sh) (M : Mm) : CT yX5_term cX5_term 2 (some .int) (rgM 60) G sh [.ref (G.2.2.2.2 0)] rvI M (m_X5_term M) := (cg_rgM hs 60).2.2.2.2.1 M
theorem c_X5_atom {G : Gx} {sh : List Sh} (hs : ModAt sh) (M : Mm) : CT yX5_atom cX5_atom 2 (some .int) (rgM 60) G sh [.ref (G.2.2.2.2 0)] rvI M (m_X5_atom M) := (cg_rgM hs 60).2.2.2.2.2 M
