abbrev rmX5_next : Room := { frames := 1, cells := 0, slots := 0, locals := 25 }
def m_X5_next_J300 (x1 : Int32) (M : Mm) : Option (Unit × Mm) := lt1 (up M 0 23 ((3 : Int32))) fun M1 => gd (decide ((((x1).toInt64)).toInt32.toInt64 = ((x1).toInt64))) (lt1 (up M1 0 25 (((x1).toInt64)).toInt32) fun M2 => lt1 (up M2 0 22 (((M2 0 22) + (1 : Int32)))) fun M3 => some ((), M3))
def m_X5_next_J246 (s0 : Int32) (M : Mm) : Option (Unit × Mm) := lt1 (up M 0 23 s0) fun M4 => some ((), M4)
def m_X5_next_J216 (n160 : Int32 → Mm → Option (Unit × Mm)) (x2 : Int32) (s0 : Int64) (M : Mm) : Option (Unit × Mm) := gd (decide ((s0).toInt32.toInt64 = s0)) (lt1 (up M 0 25 (s0).toInt32) fun M5 => lt1 (x2 + 1) fun y6 => lt1 (up M5 0 22 (((M5 0 22) + (1 : Int32)))) fun M7 => n160 y6 M7)
def m_X5_next_B160 (n160 : Int32 → Mm → Option (Unit × Mm)) (x2 : Int32) (M : Mm) : Option (Unit × Mm) := bd (m_X5_byteAt ((M 0 22)) M) fun r9 M8 => bd (m_X5_in (((r9).toInt64)) ((48 : Int64)) ((57 : Int64)) M8) fun r11 M10 => if r11 = 0 then (if x2 ≤ (4 : Int32) then (m_X5_next_J246 ((2 : Int32)) M10) else (m_X5_next_J246 ((4 : Int32)) M10)) else (if (4 : Int32) ≤ x2 then (m_X5_next_J216 n160 x2 ((M10 0 25).toInt64) M10) else (bd (m_X5_byteAt ((M10 0 22)) M10) fun r13 M12 => m_X5_next_J216 n160 x2 (((((10 : Int64) * (M10 0 25).toInt64) + ((r13).toInt64)) - (48 : Int64))) M12))
def m_X5_next_L160 : Nat → Int32 → Mm → Option (Unit × Mm)
  | 0 => fun _ _ => none
  | n + 1 => m_X5_next_B160  (m_X5_next_L160  n)
def m_X5_next_B100 (n100 : Mm → Option (Unit × Mm))  (M : Mm) : Option (Unit × Mm) := bd (m_X5_byteAt ((M 0 22)) M) fun r15 M14 => bd (m_X5_in (((r15).toInt64)) ((97 : Int64)) ((122 : Int64)) M14) fun r17 M16 => if r17 = 0 then (some ((), M16)) else (lt1 (up M16 0 22 (((M16 0 22) + (1 : Int32)))) fun M18 => n100 M18)
def m_X5_next_L100 : Nat → Mm → Option (Unit × Mm)
  | 0 => fun _ => none
  | n + 1 => m_X5_next_B100  (m_X5_next_L100  n)
def m_X5_next_J26 (n0 : Mm → Option (Unit × Mm))  (M : Mm) : Option (Unit × Mm) := lt1 (up M 0 22 (((M 0 22) + (1 : Int32)))) fun M19 => n0 M19
def m_X5_next_B0 (n0 : Mm → Option (Unit × Mm))  (M : Mm) : Option (Unit × Mm) := bd (m_X5_byteAt ((M 0 22)) M) fun r21 M20 => if r21 = (32 : Int32) then (m_X5_next_J26 n0 M20) else (bd (m_X5_byteAt ((M20 0 22)) M20) fun r23 M22 => if r23 = (10 : Int32) then (m_X5_next_J26 n0 M22) else (lt1 (up M22 0 24 ((M22 0 22))) fun M24 => bd (m_X5_byteAt ((M24 0 22)) M24) fun r26 M25 => lt1 r26 fun y27 => lt1 (up M25 0 23 ((4 : Int32))) fun M28 => if 0 ≤ y27 then (bd (m_X5_in (((y27).toInt64)) ((97 : Int64)) ((122 : Int64)) M28) fun r30 M29 => if r30 = 0 then (bd (m_X5_in (((y27).toInt64)) ((48 : Int64)) ((57 : Int64)) M29) fun r32 M31 => if r32 = 0 then (if y27 = (40 : Int32) then (m_X5_next_J300 y27 M31) else (if y27 = (41 : Int32) then (m_X5_next_J300 y27 M31) else (if y27 = (59 : Int32) then (m_X5_next_J300 y27 M31) else (if y27 = (43 : Int32) then (m_X5_next_J300 y27 M31) else (if y27 = (45 : Int32) then (m_X5_next_J300 y27 M31) else (if y27 = (42 : Int32) then (m_X5_next_J300 y27 M31) else (if y27 = (60 : Int32) then (m_X5_next_J300 y27 M31) else (if y27 = (61 : Int32) then (m_X5_next_J300 y27 M31) else (some ((), M31)))))))))) else (lt1 (up M31 0 23 ((2 : Int32))) fun M33 => gd (decide (((0 : Int64)).toInt32.toInt64 = (0 : Int64))) (lt1 (up M33 0 25 ((0 : Int64)).toInt32) fun M34 => lt1 ((0 : Int32)) fun y35 => m_X5_next_L160 FU y35 M34))) else (lt1 (up M29 0 23 ((1 : Int32))) fun M36 => m_X5_next_L100 FU M36)) else (lt1 (up M28 0 23 ((0 : Int32))) fun M37 => lt1 (up M37 0 24 ((M37 0 21))) fun M38 => some ((), M38))))
def m_X5_next_L0 : Nat → Mm → Option (Unit × Mm)
  | 0 => fun _ => none
  | n + 1 => m_X5_next_B0  (m_X5_next_L0  n)
def m_X5_next  (M : Mm) : Option (Unit × Mm) := m_X5_next_L0 FU M
set_option maxRecDepth 100000 in
set_option maxHeartbeats 4000000 in
theorem v_X5_next_J300 {X : Cx} {G : Gx} {sh : List Sh} (hF : FX X G sh 3 cX5_next (yX5_next).cls none rmX5_next) (hs : ModAt sh) : ∀ (x1 : Int32) (M : Mm), VR X G sh 3 rvV M 300 [(0, .ref (G.2.2.2.2 0)), (1, .int x1)] [] (m_X5_next_J300  x1 M) := by
  intro x1 M
  unfold m_X5_next_J300
  refine v_aload_n 0 301 hF dX5_next_300 rfl rfl rfl ?_
  refine v_iconst (3) 302 hF dX5_next_301 rfl (by decide) ?_
  refine v_putI 305 hF dX5_next_302 rfl fl_X5_151 fp_X5_23 hs.1 rfl (fun M1 => ?_)
  refine v_aload_n 0 306 hF dX5_next_305 rfl rfl rfl ?_
  refine v_iload_n 1 307 hF dX5_next_306 rfl rfl rfl ?_
  refine v_i2l 308 hF dX5_next_307 rfl ?_
  refine v_putJ 311 hF dX5_next_308 rfl fl_X5_162 fp_X5_25 hs.1 rfl (fun M2 => ?_)
  refine v_aload_n 0 312 hF dX5_next_311 rfl rfl rfl ?_
  refine v_dupR 313 hF dX5_next_312 rfl ?_
  refine v_getI 316 hF dX5_next_313 rfl fl_X5_142 hs.1 rfl ?_
  refine v_iconst (1) 317 hF dX5_next_316 rfl (by decide) ?_
  refine v_iadd 318 hF dX5_next_317 rfl ?_
  refine v_putI 321 hF dX5_next_318 rfl fl_X5_142 fp_X5_22 hs.1 rfl (fun M3 => ?_)
  exact v_vret hF dX5_next_321
set_option maxRecDepth 100000 in
set_option maxHeartbeats 4000000 in
theorem v_X5_next_J246 {X : Cx} {G : Gx} {sh : List Sh} (hF : FX X G sh 3 cX5_next (yX5_next).cls none rmX5_next) (hs : ModAt sh) : ∀ (s0 : Int32) (M : Mm), VR X G sh 3 rvV M 246 [(0, .ref (G.2.2.2.2 0))] [.int s0, .ref (G.2.2.2.2 0)] (m_X5_next_J246  s0 M) := by
  intro s0 M
  unfold m_X5_next_J246
  refine v_putI 249 hF dX5_next_246 rfl fl_X5_151 fp_X5_23 hs.1 rfl (fun M4 => ?_)
  refine v_goto 321 hF dX5_next_249 (by decide) ?_
  exact v_vret hF dX5_next_321
set_option maxRecDepth 100000 in
set_option maxHeartbeats 4000000 in
theorem v_X5_next_J216 {X : Cx} {G : Gx} {sh : List Sh} (hF : FX X G sh 3 cX5_next (yX5_next).cls none rmX5_next) (hs : ModAt sh) (n160 : Int32 → Mm → Option (Unit × Mm)) (h160 : ∀ (x2 : Int32) (M : Mm), VR X G sh 3 rvV M 160 [(0, .ref (G.2.2.2.2 0)), (2, .int x2)] [] (n160 x2 M)) : ∀ (x2 : Int32) (s0 : Int64) (M : Mm), VR X G sh 3 rvV M 216 [(0, .ref (G.2.2.2.2 0)), (2, .int x2)] [.long s0, .ref (G.2.2.2.2 0)] (m_X5_next_J216  n160 x2 s0 M) := by
  intro x2 s0 M
  unfold m_X5_next_J216
  refine v_putJ 219 hF dX5_next_216 rfl fl_X5_162 fp_X5_25 hs.1 rfl (fun M5 => ?_)
  refine v_iinc (v := (x2 + 1)) (lo' := fun y6 => [(2, .int y6), (0, .ref (G.2.2.2.2 0))]) 1 222 hF dX5_next_219 rfl rfl rfl (by decide) (fun _ => rfl) (fun y6 => ?_)
  refine v_aload_n 1 223 hF dX5_next_222 rfl rfl rfl ?_
  refine v_dupR 224 hF dX5_next_223 rfl ?_
  refine v_getI 227 hF dX5_next_224 rfl fl_X5_142 hs.1 rfl ?_
  refine v_iconst (1) 228 hF dX5_next_227 rfl (by decide) ?_
  refine v_iadd 229 hF dX5_next_228 rfl ?_
  refine v_putI 232 hF dX5_next_229 rfl fl_X5_142 fp_X5_22 hs.1 rfl (fun M7 => ?_)
  refine v_goto 160 hF dX5_next_232 (by decide) ?_
  refine VR.pick [1, 0] rfl ?_
  exact h160 y6 M7
set_option maxRecDepth 100000 in
set_option maxHeartbeats 4000000 in
theorem v_X5_next_B160 {X : Cx} {G : Gx} {sh : List Sh} (hF : FX X G sh 3 cX5_next (yX5_next).cls none rmX5_next) (hs : ModAt sh) (n160 : Int32 → Mm → Option (Unit × Mm)) (h160 : ∀ (x2 : Int32) (M : Mm), VR X G sh 3 rvV M 160 [(0, .ref (G.2.2.2.2 0)), (2, .int x2)] [] (n160 x2 M)) : ∀ (x2 : Int32) (M : Mm), VR X G sh 3 rvV M 160 [(0, .ref (G.2.2.2.2 0)), (2, .int x2)] [] (m_X5_next_B160  n160 x2 M) := by
  intro x2 M
  unfold m_X5_next_B160
  refine v_aload_n 0 161 hF dX5_next_160 rfl rfl rfl ?_
  refine v_aload_n 0 162 hF dX5_next_161 rfl rfl rfl ?_
  refine v_getI 165 hF dX5_next_162 rfl fl_X5_142 hs.1 rfl ?_
  refine v_callI ([.int ((M 0 22))]) ([]) 168 hF dX5_next_165 rfl cw_X5_145 rfl (hs.1) (c_X5_byteAt (G := G) hs M ((M 0 22))) ⟨rfl, rfl, Nat.le_of_ble_eq_true rfl, Nat.le_of_ble_eq_true rfl⟩ rfl rfl (Nat.le_of_ble_eq_true rfl) (fun r9 M8 => ?_)
  refine v_i2l 169 hF dX5_next_168 rfl ?_
  refine v_ldc2 (48) 172 hF dX5_next_169 rfl cc_X5_158 ?_
  refine v_ldc2 (57) 175 hF dX5_next_172 rfl cc_X5_160 ?_
  refine v_staI ([.long (((r9).toInt64)), .long ((48 : Int64)), .long ((57 : Int64))]) ([]) 178 hF dX5_next_175 rfl cw_X5_76 (c_X5_in (G := G) (sh := sh) M8 (((r9).toInt64)) ((48 : Int64)) ((57 : Int64))) ⟨rfl, rfl, Nat.le_of_ble_eq_true rfl, Nat.le_of_ble_eq_true rfl⟩ rfl rfl (Nat.le_of_ble_eq_true rfl) (fun r11 M10 => ?_)
  refine v_if_eq 181 235 hF dX5_next_178 rfl (by decide) (fun _ => ?_) (fun _ => ?_)
  · refine v_aload_n 0 236 hF dX5_next_235 rfl rfl rfl ?_
    refine v_iload_n 1 237 hF dX5_next_236 rfl rfl rfl ?_
    refine v_iconst (4) 238 hF dX5_next_237 rfl (by decide) ?_
    refine v_icmp_le 241 245 hF dX5_next_238 rfl (by decide) (fun _ => ?_) (fun _ => ?_)
    · refine v_iconst (2) 246 hF dX5_next_245 rfl (by decide) ?_
      refine VR.pick [0] rfl ?_
      exact v_X5_next_J246 hF hs ((2 : Int32)) M10
    · refine v_iconst (4) 242 hF dX5_next_241 rfl (by decide) ?_
      refine v_goto 246 hF dX5_next_242 (by decide) ?_
      refine VR.pick [0] rfl ?_
      exact v_X5_next_J246 hF hs ((4 : Int32)) M10
  · refine v_aload_n 0 182 hF dX5_next_181 rfl rfl rfl ?_
    refine v_iload_n 1 183 hF dX5_next_182 rfl rfl rfl ?_
    refine v_iconst (4) 184 hF dX5_next_183 rfl (by decide) ?_
    refine v_icmp_ge 187 212 hF dX5_next_184 rfl (by decide) (fun _ => ?_) (fun _ => ?_)
    · refine v_aload_n 0 213 hF dX5_next_212 rfl rfl rfl ?_
      refine v_getJ 216 hF dX5_next_213 rfl fl_X5_162 hs.1 rfl ?_
      refine VR.pick [0, 1] rfl ?_
      exact v_X5_next_J216 hF hs _ h160 x2 ((M10 0 25).toInt64) M10
    · refine v_ldc2 (10) 190 hF dX5_next_187 rfl cc_X5_126 ?_
      refine v_aload_n 0 191 hF dX5_next_190 rfl rfl rfl ?_
      refine v_getJ 194 hF dX5_next_191 rfl fl_X5_162 hs.1 rfl ?_
      refine v_lmul 195 hF dX5_next_194 rfl ?_
      refine v_aload_n 0 196 hF dX5_next_195 rfl rfl rfl ?_
      refine v_aload_n 0 197 hF dX5_next_196 rfl rfl rfl ?_
      refine v_getI 200 hF dX5_next_197 rfl fl_X5_142 hs.1 rfl ?_
      refine v_callI ([.int ((M10 0 22))]) ([.long (((10 : Int64) * (M10 0 25).toInt64)), .ref (G.2.2.2.2 0)]) 203 hF dX5_next_200 rfl cw_X5_145 rfl (hs.1) (c_X5_byteAt (G := G) hs M10 ((M10 0 22))) ⟨rfl, rfl, Nat.le_of_ble_eq_true rfl, Nat.le_of_ble_eq_true rfl⟩ rfl rfl (Nat.le_of_ble_eq_true rfl) (fun r13 M12 => ?_)
      refine v_i2l 204 hF dX5_next_203 rfl ?_
      refine v_ladd 205 hF dX5_next_204 rfl ?_
      refine v_ldc2 (48) 208 hF dX5_next_205 rfl cc_X5_158 ?_
      refine v_lsub 209 hF dX5_next_208 rfl ?_
      refine v_goto 216 hF dX5_next_209 (by decide) ?_
      refine VR.pick [0, 1] rfl ?_
      exact v_X5_next_J216 hF hs _ h160 x2 (((((10 : Int64) * (M10 0 25).toInt64) + ((r13).toInt64)) - (48 : Int64))) M12
theorem v_X5_next_L160 {X : Cx} {G : Gx} {sh : List Sh} (hF : FX X G sh 3 cX5_next (yX5_next).cls none rmX5_next) (hs : ModAt sh) : ∀ (n : Nat), ∀ (x2 : Int32) (M : Mm), VR X G sh 3 rvV M 160 [(0, .ref (G.2.2.2.2 0)), (2, .int x2)] [] (m_X5_next_L160  n x2 M) := by
  intro n
  induction n with
  | zero => intro x2 M; exact VR.none
  | succ n ih => exact v_X5_next_B160 hF hs _ ih
set_option maxRecDepth 100000 in
set_option maxHeartbeats 4000000 in
theorem v_X5_next_B100 {X : Cx} {G : Gx} {sh : List Sh} (hF : FX X G sh 3 cX5_next (yX5_next).cls none rmX5_next) (hs : ModAt sh) (n100 : Mm → Option (Unit × Mm)) (h100 : ∀ (M : Mm), VR X G sh 3 rvV M 100 [(0, .ref (G.2.2.2.2 0))] [] (n100  M)) : ∀ (M : Mm), VR X G sh 3 rvV M 100 [(0, .ref (G.2.2.2.2 0))] [] (m_X5_next_B100  n100  M) := by
  intro  M
  unfold m_X5_next_B100
  refine v_aload_n 0 101 hF dX5_next_100 rfl rfl rfl ?_
  refine v_aload_n 0 102 hF dX5_next_101 rfl rfl rfl ?_
  refine v_getI 105 hF dX5_next_102 rfl fl_X5_142 hs.1 rfl ?_
  refine v_callI ([.int ((M 0 22))]) ([]) 108 hF dX5_next_105 rfl cw_X5_145 rfl (hs.1) (c_X5_byteAt (G := G) hs M ((M 0 22))) ⟨rfl, rfl, Nat.le_of_ble_eq_true rfl, Nat.le_of_ble_eq_true rfl⟩ rfl rfl (Nat.le_of_ble_eq_true rfl) (fun r15 M14 => ?_)
  refine v_i2l 109 hF dX5_next_108 rfl ?_
  refine v_ldc2 (97) 112 hF dX5_next_109 rfl cc_X5_154 ?_
  refine v_ldc2 (122) 115 hF dX5_next_112 rfl cc_X5_156 ?_
  refine v_staI ([.long (((r15).toInt64)), .long ((97 : Int64)), .long ((122 : Int64))]) ([]) 118 hF dX5_next_115 rfl cw_X5_76 (c_X5_in (G := G) (sh := sh) M14 (((r15).toInt64)) ((97 : Int64)) ((122 : Int64))) ⟨rfl, rfl, Nat.le_of_ble_eq_true rfl, Nat.le_of_ble_eq_true rfl⟩ rfl rfl (Nat.le_of_ble_eq_true rfl) (fun r17 M16 => ?_)
  refine v_if_eq 121 321 hF dX5_next_118 rfl (by decide) (fun _ => ?_) (fun _ => ?_)
  · exact v_vret hF dX5_next_321
  · refine v_aload_n 0 122 hF dX5_next_121 rfl rfl rfl ?_
    refine v_dupR 123 hF dX5_next_122 rfl ?_
    refine v_getI 126 hF dX5_next_123 rfl fl_X5_142 hs.1 rfl ?_
    refine v_iconst (1) 127 hF dX5_next_126 rfl (by decide) ?_
    refine v_iadd 128 hF dX5_next_127 rfl ?_
    refine v_putI 131 hF dX5_next_128 rfl fl_X5_142 fp_X5_22 hs.1 rfl (fun M18 => ?_)
    refine v_goto 100 hF dX5_next_131 (by decide) ?_
    refine VR.pick [0] rfl ?_
    exact h100 M18
theorem v_X5_next_L100 {X : Cx} {G : Gx} {sh : List Sh} (hF : FX X G sh 3 cX5_next (yX5_next).cls none rmX5_next) (hs : ModAt sh) : ∀ (n : Nat), ∀ (M : Mm), VR X G sh 3 rvV M 100 [(0, .ref (G.2.2.2.2 0))] [] (m_X5_next_L100  n  M) := by
  intro n
  induction n with
  | zero => intro  M; exact VR.none
  | succ n ih => exact v_X5_next_B100 hF hs _ ih
set_option maxRecDepth 100000 in
set_option maxHeartbeats 4000000 in
theorem v_X5_next_J26 {X : Cx} {G : Gx} {sh : List Sh} (hF : FX X G sh 3 cX5_next (yX5_next).cls none rmX5_next) (hs : ModAt sh) (n0 : Mm → Option (Unit × Mm)) (h0 : ∀ (M : Mm), VR X G sh 3 rvV M 0 [(0, .ref (G.2.2.2.2 0))] [] (n0  M)) : ∀ (M : Mm), VR X G sh 3 rvV M 26 [(0, .ref (G.2.2.2.2 0))] [] (m_X5_next_J26  n0  M) := by
  intro  M
  unfold m_X5_next_J26
  refine v_aload_n 0 27 hF dX5_next_26 rfl rfl rfl ?_
  refine v_dupR 28 hF dX5_next_27 rfl ?_
  refine v_getI 31 hF dX5_next_28 rfl fl_X5_142 hs.1 rfl ?_
  refine v_iconst (1) 32 hF dX5_next_31 rfl (by decide) ?_
  refine v_iadd 33 hF dX5_next_32 rfl ?_
  refine v_putI 36 hF dX5_next_33 rfl fl_X5_142 fp_X5_22 hs.1 rfl (fun M19 => ?_)
  refine v_goto 0 hF dX5_next_36 (by decide) ?_
  refine VR.pick [0] rfl ?_
  exact h0 M19
set_option maxRecDepth 100000 in
set_option maxHeartbeats 4000000 in
theorem v_X5_next_B0 {X : Cx} {G : Gx} {sh : List Sh} (hF : FX X G sh 3 cX5_next (yX5_next).cls none rmX5_next) (hs : ModAt sh) (n0 : Mm → Option (Unit × Mm)) (h0 : ∀ (M : Mm), VR X G sh 3 rvV M 0 [(0, .ref (G.2.2.2.2 0))] [] (n0  M)) : ∀ (M : Mm), VR X G sh 3 rvV M 0 [(0, .ref (G.2.2.2.2 0))] [] (m_X5_next_B0  n0  M) := by
  intro  M
  unfold m_X5_next_B0
  refine v_aload_n 0 1 hF dX5_next_0 rfl rfl rfl ?_
  refine v_aload_n 0 2 hF dX5_next_1 rfl rfl rfl ?_
  refine v_getI 5 hF dX5_next_2 rfl fl_X5_142 hs.1 rfl ?_
  refine v_callI ([.int ((M 0 22))]) ([]) 8 hF dX5_next_5 rfl cw_X5_145 rfl (hs.1) (c_X5_byteAt (G := G) hs M ((M 0 22))) ⟨rfl, rfl, Nat.le_of_ble_eq_true rfl, Nat.le_of_ble_eq_true rfl⟩ rfl rfl (Nat.le_of_ble_eq_true rfl) (fun r21 M20 => ?_)
  refine v_bipush (32) 10 hF dX5_next_8 rfl (by decide) ?_
  refine v_icmp_eq 13 26 hF dX5_next_10 rfl (by decide) (fun _ => ?_) (fun _ => ?_)
  · refine VR.pick [0] rfl ?_
    exact v_X5_next_J26 hF hs _ h0 M20
  · refine v_aload_n 0 14 hF dX5_next_13 rfl rfl rfl ?_
    refine v_aload_n 0 15 hF dX5_next_14 rfl rfl rfl ?_
    refine v_getI 18 hF dX5_next_15 rfl fl_X5_142 hs.1 rfl ?_
    refine v_callI ([.int ((M20 0 22))]) ([]) 21 hF dX5_next_18 rfl cw_X5_145 rfl (hs.1) (c_X5_byteAt (G := G) hs M20 ((M20 0 22))) ⟨rfl, rfl, Nat.le_of_ble_eq_true rfl, Nat.le_of_ble_eq_true rfl⟩ rfl rfl (Nat.le_of_ble_eq_true rfl) (fun r23 M22 => ?_)
    refine v_bipush (10) 23 hF dX5_next_21 rfl (by decide) ?_
    refine v_icmp_ne 26 39 hF dX5_next_23 rfl (by decide) (fun _ => ?_) (fun _ => ?_)
    · refine v_aload_n 0 40 hF dX5_next_39 rfl rfl rfl ?_
      refine v_aload_n 0 41 hF dX5_next_40 rfl rfl rfl ?_
      refine v_getI 44 hF dX5_next_41 rfl fl_X5_142 hs.1 rfl ?_
      refine v_putI 47 hF dX5_next_44 rfl fl_X5_148 fp_X5_24 hs.1 rfl (fun M24 => ?_)
      refine v_aload_n 0 48 hF dX5_next_47 rfl rfl rfl ?_
      refine v_aload_n 0 49 hF dX5_next_48 rfl rfl rfl ?_
      refine v_getI 52 hF dX5_next_49 rfl fl_X5_142 hs.1 rfl ?_
      refine v_callI ([.int ((M24 0 22))]) ([]) 55 hF dX5_next_52 rfl cw_X5_145 rfl (hs.1) (c_X5_byteAt (G := G) hs M24 ((M24 0 22))) ⟨rfl, rfl, Nat.le_of_ble_eq_true rfl, Nat.le_of_ble_eq_true rfl⟩ rfl rfl (Nat.le_of_ble_eq_true rfl) (fun r26 M25 => ?_)
      refine v_istore_n (lo' := fun y27 => [(1, .int y27), (0, .ref (G.2.2.2.2 0))]) 56 hF dX5_next_55 rfl rfl (by decide) (fun _ => rfl) (fun y27 => ?_)
      refine v_aload_n 1 57 hF dX5_next_56 rfl rfl rfl ?_
      refine v_iconst (4) 58 hF dX5_next_57 rfl (by decide) ?_
      refine v_putI 61 hF dX5_next_58 rfl fl_X5_151 fp_X5_23 hs.1 rfl (fun M28 => ?_)
      refine v_iload_n 0 62 hF dX5_next_61 rfl rfl rfl ?_
      refine v_if_ge 65 81 hF dX5_next_62 rfl (by decide) (fun _ => ?_) (fun _ => ?_)
      · refine v_iload_n 0 82 hF dX5_next_81 rfl rfl rfl ?_
        refine v_i2l 83 hF dX5_next_82 rfl ?_
        refine v_ldc2 (97) 86 hF dX5_next_83 rfl cc_X5_154 ?_
        refine v_ldc2 (122) 89 hF dX5_next_86 rfl cc_X5_156 ?_
        refine v_staI ([.long (((y27).toInt64)), .long ((97 : Int64)), .long ((122 : Int64))]) ([]) 92 hF dX5_next_89 rfl cw_X5_76 (c_X5_in (G := G) (sh := sh) M28 (((y27).toInt64)) ((97 : Int64)) ((122 : Int64))) ⟨rfl, rfl, Nat.le_of_ble_eq_true rfl, Nat.le_of_ble_eq_true rfl⟩ rfl rfl (Nat.le_of_ble_eq_true rfl) (fun r30 M29 => ?_)
        refine v_if_eq 95 134 hF dX5_next_92 rfl (by decide) (fun _ => ?_) (fun _ => ?_)
        · refine v_iload_n 0 135 hF dX5_next_134 rfl rfl rfl ?_
          refine v_i2l 136 hF dX5_next_135 rfl ?_
          refine v_ldc2 (48) 139 hF dX5_next_136 rfl cc_X5_158 ?_
          refine v_ldc2 (57) 142 hF dX5_next_139 rfl cc_X5_160 ?_
          refine v_staI ([.long (((y27).toInt64)), .long ((48 : Int64)), .long ((57 : Int64))]) ([]) 145 hF dX5_next_142 rfl cw_X5_76 (c_X5_in (G := G) (sh := sh) M29 (((y27).toInt64)) ((48 : Int64)) ((57 : Int64))) ⟨rfl, rfl, Nat.le_of_ble_eq_true rfl, Nat.le_of_ble_eq_true rfl⟩ rfl rfl (Nat.le_of_ble_eq_true rfl) (fun r32 M31 => ?_)
          refine v_if_eq 148 252 hF dX5_next_145 rfl (by decide) (fun _ => ?_) (fun _ => ?_)
          · refine v_iload_n 0 253 hF dX5_next_252 rfl rfl rfl ?_
            refine v_bipush (40) 255 hF dX5_next_253 rfl (by decide) ?_
            refine v_icmp_eq 258 300 hF dX5_next_255 rfl (by decide) (fun _ => ?_) (fun _ => ?_)
            · refine VR.pick [1, 0] rfl ?_
              exact v_X5_next_J300 hF hs y27 M31
            · refine v_iload_n 0 259 hF dX5_next_258 rfl rfl rfl ?_
              refine v_bipush (41) 261 hF dX5_next_259 rfl (by decide) ?_
              refine v_icmp_eq 264 300 hF dX5_next_261 rfl (by decide) (fun _ => ?_) (fun _ => ?_)
              · refine VR.pick [1, 0] rfl ?_
                exact v_X5_next_J300 hF hs y27 M31
              · refine v_iload_n 0 265 hF dX5_next_264 rfl rfl rfl ?_
                refine v_bipush (59) 267 hF dX5_next_265 rfl (by decide) ?_
                refine v_icmp_eq 270 300 hF dX5_next_267 rfl (by decide) (fun _ => ?_) (fun _ => ?_)
                · refine VR.pick [1, 0] rfl ?_
                  exact v_X5_next_J300 hF hs y27 M31
                · refine v_iload_n 0 271 hF dX5_next_270 rfl rfl rfl ?_
                  refine v_bipush (43) 273 hF dX5_next_271 rfl (by decide) ?_
                  refine v_icmp_eq 276 300 hF dX5_next_273 rfl (by decide) (fun _ => ?_) (fun _ => ?_)
                  · refine VR.pick [1, 0] rfl ?_
                    exact v_X5_next_J300 hF hs y27 M31
                  · refine v_iload_n 0 277 hF dX5_next_276 rfl rfl rfl ?_
                    refine v_bipush (45) 279 hF dX5_next_277 rfl (by decide) ?_
                    refine v_icmp_eq 282 300 hF dX5_next_279 rfl (by decide) (fun _ => ?_) (fun _ => ?_)
                    · refine VR.pick [1, 0] rfl ?_
                      exact v_X5_next_J300 hF hs y27 M31
                    · refine v_iload_n 0 283 hF dX5_next_282 rfl rfl rfl ?_
                      refine v_bipush (42) 285 hF dX5_next_283 rfl (by decide) ?_
                      refine v_icmp_eq 288 300 hF dX5_next_285 rfl (by decide) (fun _ => ?_) (fun _ => ?_)
                      · refine VR.pick [1, 0] rfl ?_
                        exact v_X5_next_J300 hF hs y27 M31
                      · refine v_iload_n 0 289 hF dX5_next_288 rfl rfl rfl ?_
                        refine v_bipush (60) 291 hF dX5_next_289 rfl (by decide) ?_
                        refine v_icmp_eq 294 300 hF dX5_next_291 rfl (by decide) (fun _ => ?_) (fun _ => ?_)
                        · refine VR.pick [1, 0] rfl ?_
                          exact v_X5_next_J300 hF hs y27 M31
                        · refine v_iload_n 0 295 hF dX5_next_294 rfl rfl rfl ?_
                          refine v_bipush (61) 297 hF dX5_next_295 rfl (by decide) ?_
                          refine v_icmp_ne 300 321 hF dX5_next_297 rfl (by decide) (fun _ => ?_) (fun _ => ?_)
                          · exact v_vret hF dX5_next_321
                          · refine VR.pick [1, 0] rfl ?_
                            exact v_X5_next_J300 hF hs y27 M31
          · refine v_aload_n 1 149 hF dX5_next_148 rfl rfl rfl ?_
            refine v_iconst (2) 150 hF dX5_next_149 rfl (by decide) ?_
            refine v_putI 153 hF dX5_next_150 rfl fl_X5_151 fp_X5_23 hs.1 rfl (fun M33 => ?_)
            refine v_aload_n 1 154 hF dX5_next_153 rfl rfl rfl ?_
            refine v_lconst 0 155 hF dX5_next_154 rfl (by decide) ?_
            refine v_putJ 158 hF dX5_next_155 rfl fl_X5_162 fp_X5_25 hs.1 rfl (fun M34 => ?_)
            refine v_iconst (0) 159 hF dX5_next_158 rfl (by decide) ?_
            refine v_istore_n (lo' := fun y35 => [(2, .int y35), (1, .int y27), (0, .ref (G.2.2.2.2 0))]) 160 hF dX5_next_159 rfl rfl (by decide) (fun _ => rfl) (fun y35 => ?_)
            refine VR.pick [2, 0] rfl ?_
            exact v_X5_next_L160 hF hs FU y35 M34
        · refine v_aload_n 1 96 hF dX5_next_95 rfl rfl rfl ?_
          refine v_iconst (1) 97 hF dX5_next_96 rfl (by decide) ?_
          refine v_putI 100 hF dX5_next_97 rfl fl_X5_151 fp_X5_23 hs.1 rfl (fun M36 => ?_)
          refine VR.pick [1] rfl ?_
          exact v_X5_next_L100 hF hs FU M36
      · refine v_aload_n 1 66 hF dX5_next_65 rfl rfl rfl ?_
        refine v_iconst (0) 67 hF dX5_next_66 rfl (by decide) ?_
        refine v_putI 70 hF dX5_next_67 rfl fl_X5_151 fp_X5_23 hs.1 rfl (fun M37 => ?_)
        refine v_aload_n 1 71 hF dX5_next_70 rfl rfl rfl ?_
        refine v_aload_n 1 72 hF dX5_next_71 rfl rfl rfl ?_
        refine v_getI 75 hF dX5_next_72 rfl fl_X5_136 hs.1 rfl ?_
        refine v_putI 78 hF dX5_next_75 rfl fl_X5_148 fp_X5_24 hs.1 rfl (fun M38 => ?_)
        refine v_goto 321 hF dX5_next_78 (by decide) ?_
        exact v_vret hF dX5_next_321
    · refine VR.pick [0] rfl ?_
      exact v_X5_next_J26 hF hs _ h0 M22
theorem v_X5_next_L0 {X : Cx} {G : Gx} {sh : List Sh} (hF : FX X G sh 3 cX5_next (yX5_next).cls none rmX5_next) (hs : ModAt sh) : ∀ (n : Nat), ∀ (M : Mm), VR X G sh 3 rvV M 0 [(0, .ref (G.2.2.2.2 0))] [] (m_X5_next_L0  n  M) := by
  intro n
  induction n with
  | zero => intro  M; exact VR.none
  | succ n ih => exact v_X5_next_B0 hF hs _ ih
set_option maxRecDepth 100000 in
set_option maxHeartbeats 4000000 in
theorem c_X5_next {G : Gx} {sh : List Sh} (hs : ModAt sh) (M : Mm)  : CT yX5_next cX5_next 3 none rmX5_next G sh [.ref (G.2.2.2.2 0)] rvV M (m_X5_next   M) := by
  refine CT.of (by decide +kernel) (Nat.le_of_ble_eq_true rfl) (fun X hF => ?_)
  show VR X G sh 3 rvV M 0 [(0, .ref (G.2.2.2.2 0))] [] _
  unfold m_X5_next
  refine VR.pick [0] rfl ?_
  exact v_X5_next_L0 hF hs FU M
abbrev rmX5_fail : Room := { frames := 0, cells := 0, slots := 0, locals := 0 }
def m_X5_fail  (M : Mm) : Option (Unit × Mm) := if (M 0 27) = 0 then (lt1 (up M 0 27 ((1 : Int32))) fun M1 => lt1 (up M1 0 28 ((M1 0 24))) fun M2 => some ((), M2)) else (some ((), M))
set_option maxRecDepth 100000 in
set_option maxHeartbeats 4000000 in
theorem c_X5_fail {G : Gx} {sh : List Sh} (hs : ModAt sh) (M : Mm)  : CT yX5_fail cX5_fail 1 none rmX5_fail G sh [.ref (G.2.2.2.2 0)] rvV M (m_X5_fail   M) := by
  refine CT.of (by decide +kernel) (Nat.le_of_ble_eq_true rfl) (fun X hF => ?_)
  show VR X G sh 1 rvV M 0 [(0, .ref (G.2.2.2.2 0))] [] _
  unfold m_X5_fail
  refine v_aload_n 0 1 hF dX5_fail_0 rfl rfl rfl ?_
  refine v_getI 4 hF dX5_fail_1 rfl fl_X5_166 hs.1 rfl ?_
  refine v_if_ne 7 20 hF dX5_fail_4 rfl (by decide) (fun _ => ?_) (fun _ => ?_)
  · exact v_vret hF dX5_fail_20
  · refine v_aload_n 0 8 hF dX5_fail_7 rfl rfl rfl ?_
    refine v_iconst (1) 9 hF dX5_fail_8 rfl (by decide) ?_
    refine v_putZ 12 hF dX5_fail_9 rfl fl_X5_166 fp_X5_27 hs.1 rfl ⟨rfl, rfl⟩ (fun M1 => ?_)
    refine v_aload_n 0 13 hF dX5_fail_12 rfl rfl rfl ?_
    refine v_aload_n 0 14 hF dX5_fail_13 rfl rfl rfl ?_
    refine v_getI 17 hF dX5_fail_14 rfl fl_X5_148 hs.1 rfl ?_
    refine v_putI 20 hF dX5_fail_17 rfl fl_X5_170 fp_X5_28 hs.1 rfl (fun M2 => ?_)
    exact v_vret hF dX5_fail_20
abbrev rmX5_isLetter_ : Room := { frames := 1, cells := 0, slots := 0, locals := 21 }
def m_X5_isLetter_ (x1 : Int32) (x2 : Int32) (M : Mm) : Option (Int32 × Mm) := if (M 0 22) ≤ ((M 0 24) + x1) then (if x2 = 0 then (some ((1 : Int32), M)) else (some ((0 : Int32), M))) else (bd (m_X5_byteAt (((M 0 24) + x1)) M) fun r2 M1 => if r2 = x2 then (some ((1 : Int32), M1)) else (some ((0 : Int32), M1)))
set_option maxRecDepth 100000 in
set_option maxHeartbeats 4000000 in
theorem c_X5_isLetter_ {G : Gx} {sh : List Sh} (hs : ModAt sh) (M : Mm) (x1 : Int32) (x2 : Int32) : CT yX5_isLetter_ cX5_isLetter_ 3 (some .boolean) rmX5_isLetter_ G sh [.ref (G.2.2.2.2 0), .int x1, .int x2] rvI M (m_X5_isLetter_  x1 x2 M) := by
  refine CT.of (by decide +kernel) (Nat.le_of_ble_eq_true rfl) (fun X hF => ?_)
  show VR X G sh 3 rvI M 0 [(0, .ref (G.2.2.2.2 0)), (1, .int x1), (2, .int x2)] [] _
  unfold m_X5_isLetter_
  refine v_aload_n 0 1 hF dX5_isLetter__0 rfl rfl rfl ?_
  refine v_getI 4 hF dX5_isLetter__1 rfl fl_X5_148 hs.1 rfl ?_
  refine v_iload_n 1 5 hF dX5_isLetter__4 rfl rfl rfl ?_
  refine v_iadd 6 hF dX5_isLetter__5 rfl ?_
  refine v_aload_n 0 7 hF dX5_isLetter__6 rfl rfl rfl ?_
  refine v_getI 10 hF dX5_isLetter__7 rfl fl_X5_142 hs.1 rfl ?_
  refine v_icmp_ge 13 35 hF dX5_isLetter__10 rfl (by decide) (fun _ => ?_) (fun _ => ?_)
  · refine v_iload_n 2 36 hF dX5_isLetter__35 rfl rfl rfl ?_
    refine v_if_ne 39 43 hF dX5_isLetter__36 rfl (by decide) (fun _ => ?_) (fun _ => ?_)
    · refine v_iconst (0) 44 hF dX5_isLetter__43 rfl (by decide) ?_
      exact v_zret0 hF dX5_isLetter__44 rfl
    · refine v_iconst (1) 40 hF dX5_isLetter__39 rfl (by decide) ?_
      refine v_goto 44 hF dX5_isLetter__40 (by decide) ?_
      exact v_zret0 hF dX5_isLetter__44 rfl
  · refine v_aload_n 0 14 hF dX5_isLetter__13 rfl rfl rfl ?_
    refine v_aload_n 0 15 hF dX5_isLetter__14 rfl rfl rfl ?_
    refine v_getI 18 hF dX5_isLetter__15 rfl fl_X5_148 hs.1 rfl ?_
    refine v_iload_n 1 19 hF dX5_isLetter__18 rfl rfl rfl ?_
    refine v_iadd 20 hF dX5_isLetter__19 rfl ?_
    refine v_callI ([.int (((M 0 24) + x1))]) ([]) 23 hF dX5_isLetter__20 rfl cw_X5_145 rfl (hs.1) (c_X5_byteAt (G := G) hs M (((M 0 24) + x1))) ⟨rfl, rfl, Nat.le_of_ble_eq_true rfl, Nat.le_of_ble_eq_true rfl⟩ rfl rfl (Nat.le_of_ble_eq_true rfl) (fun r2 M1 => ?_)
    refine v_iload_n 2 24 hF dX5_isLetter__23 rfl rfl rfl ?_
    refine v_icmp_ne 27 31 hF dX5_isLetter__24 rfl (by decide) (fun _ => ?_) (fun _ => ?_)
    · refine v_iconst (0) 32 hF dX5_isLetter__31 rfl (by decide) ?_
      refine v_goto 44 hF dX5_isLetter__32 (by decide) ?_
      exact v_zret0 hF dX5_isLetter__44 rfl
    · refine v_iconst (1) 28 hF dX5_isLetter__27 rfl (by decide) ?_
      refine v_goto 44 hF dX5_isLetter__28 (by decide) ?_
      exact v_zret0 hF dX5_isLetter__44 rfl
abbrev rmX5_isWord : Room := { frames := 2, cells := 0, slots := 0, locals := 43 }
def m_X5_isWord (x1 : Int32) (x2 : Int32) (x3 : Int32) (x4 : Int32) (x5 : Int32) (x6 : Int32) (x7 : Int32) (x8 : Int32) (M : Mm) : Option (Int32 × Mm) := if (M 0 27) = 0 then (if (M 0 23) = (1 : Int32) then (if ((M 0 24) + (8 : Int32)) < (M 0 22) then (some ((0 : Int32), M)) else (bd (m_X5_isLetter_ ((0 : Int32)) x1 M) fun r2 M1 => if r2 = 0 then (some ((0 : Int32), M1)) else (bd (m_X5_isLetter_ ((1 : Int32)) x2 M1) fun r4 M3 => if r4 = 0 then (some ((0 : Int32), M3)) else (bd (m_X5_isLetter_ ((2 : Int32)) x3 M3) fun r6 M5 => if r6 = 0 then (some ((0 : Int32), M5)) else (bd (m_X5_isLetter_ ((3 : Int32)) x4 M5) fun r8 M7 => if r8 = 0 then (some ((0 : Int32), M7)) else (bd (m_X5_isLetter_ ((4 : Int32)) x5 M7) fun r10 M9 => if r10 = 0 then (some ((0 : Int32), M9)) else (bd (m_X5_isLetter_ ((5 : Int32)) x6 M9) fun r12 M11 => if r12 = 0 then (some ((0 : Int32), M11)) else (bd (m_X5_isLetter_ ((6 : Int32)) x7 M11) fun r14 M13 => if r14 = 0 then (some ((0 : Int32), M13)) else (bd (m_X5_isLetter_ ((7 : Int32)) x8 M13) fun r16 M15 => if r16 = 0 then (some ((0 : Int32), M15)) else (some ((1 : Int32), M15))))))))))) else (some ((0 : Int32), M))) else (some ((0 : Int32), M))
set_option maxRecDepth 100000 in
set_option maxHeartbeats 4000000 in
theorem c_X5_isWord {G : Gx} {sh : List Sh} (hs : ModAt sh) (M : Mm) (x1 : Int32) (x2 : Int32) (x3 : Int32) (x4 : Int32) (x5 : Int32) (x6 : Int32) (x7 : Int32) (x8 : Int32) : CT yX5_isWord cX5_isWord 9 (some .boolean) rmX5_isWord G sh [.ref (G.2.2.2.2 0), .int x1, .int x2, .int x3, .int x4, .int x5, .int x6, .int x7, .int x8] rvI M (m_X5_isWord  x1 x2 x3 x4 x5 x6 x7 x8 M) := by
  refine CT.of (by decide +kernel) (Nat.le_of_ble_eq_true rfl) (fun X hF => ?_)
  show VR X G sh 9 rvI M 0 [(0, .ref (G.2.2.2.2 0)), (1, .int x1), (2, .int x2), (3, .int x3), (4, .int x4), (5, .int x5), (6, .int x6), (7, .int x7), (8, .int x8)] [] _
  unfold m_X5_isWord
  refine v_aload_n 0 1 hF dX5_isWord_0 rfl rfl rfl ?_
  refine v_getI 4 hF dX5_isWord_1 rfl fl_X5_166 hs.1 rfl ?_
  refine v_if_ne 7 112 hF dX5_isWord_4 rfl (by decide) (fun _ => ?_) (fun _ => ?_)
  · refine v_iconst (0) 113 hF dX5_isWord_112 rfl (by decide) ?_
    exact v_zret0 hF dX5_isWord_113 rfl
  · refine v_aload_n 0 8 hF dX5_isWord_7 rfl rfl rfl ?_
    refine v_getI 11 hF dX5_isWord_8 rfl fl_X5_151 hs.1 rfl ?_
    refine v_iconst (1) 12 hF dX5_isWord_11 rfl (by decide) ?_
    refine v_icmp_ne 15 112 hF dX5_isWord_12 rfl (by decide) (fun _ => ?_) (fun _ => ?_)
    · refine v_iconst (0) 113 hF dX5_isWord_112 rfl (by decide) ?_
      exact v_zret0 hF dX5_isWord_113 rfl
    · refine v_aload_n 0 16 hF dX5_isWord_15 rfl rfl rfl ?_
      refine v_getI 19 hF dX5_isWord_16 rfl fl_X5_142 hs.1 rfl ?_
      refine v_aload_n 0 20 hF dX5_isWord_19 rfl rfl rfl ?_
      refine v_getI 23 hF dX5_isWord_20 rfl fl_X5_148 hs.1 rfl ?_
      refine v_bipush (8) 25 hF dX5_isWord_23 rfl (by decide) ?_
      refine v_iadd 26 hF dX5_isWord_25 rfl ?_
      refine v_icmp_gt 29 112 hF dX5_isWord_26 rfl (by decide) (fun _ => ?_) (fun _ => ?_)
      · refine v_iconst (0) 113 hF dX5_isWord_112 rfl (by decide) ?_
        exact v_zret0 hF dX5_isWord_113 rfl
      · refine v_aload_n 0 30 hF dX5_isWord_29 rfl rfl rfl ?_
        refine v_iconst (0) 31 hF dX5_isWord_30 rfl (by decide) ?_
        refine v_iload_n 1 32 hF dX5_isWord_31 rfl rfl rfl ?_
        refine v_callI ([.int ((0 : Int32)), .int x1]) ([]) 35 hF dX5_isWord_32 rfl cw_X5_173 rfl (hs.1) (c_X5_isLetter_ (G := G) hs M ((0 : Int32)) x1) ⟨rfl, rfl, Nat.le_of_ble_eq_true rfl, Nat.le_of_ble_eq_true rfl⟩ rfl rfl (Nat.le_of_ble_eq_true rfl) (fun r2 M1 => ?_)
        refine v_if_eq 38 112 hF dX5_isWord_35 rfl (by decide) (fun _ => ?_) (fun _ => ?_)
        · refine v_iconst (0) 113 hF dX5_isWord_112 rfl (by decide) ?_
          exact v_zret0 hF dX5_isWord_113 rfl
        · refine v_aload_n 0 39 hF dX5_isWord_38 rfl rfl rfl ?_
          refine v_iconst (1) 40 hF dX5_isWord_39 rfl (by decide) ?_
          refine v_iload_n 2 41 hF dX5_isWord_40 rfl rfl rfl ?_
          refine v_callI ([.int ((1 : Int32)), .int x2]) ([]) 44 hF dX5_isWord_41 rfl cw_X5_173 rfl (hs.1) (c_X5_isLetter_ (G := G) hs M1 ((1 : Int32)) x2) ⟨rfl, rfl, Nat.le_of_ble_eq_true rfl, Nat.le_of_ble_eq_true rfl⟩ rfl rfl (Nat.le_of_ble_eq_true rfl) (fun r4 M3 => ?_)
          refine v_if_eq 47 112 hF dX5_isWord_44 rfl (by decide) (fun _ => ?_) (fun _ => ?_)
          · refine v_iconst (0) 113 hF dX5_isWord_112 rfl (by decide) ?_
            exact v_zret0 hF dX5_isWord_113 rfl
          · refine v_aload_n 0 48 hF dX5_isWord_47 rfl rfl rfl ?_
            refine v_iconst (2) 49 hF dX5_isWord_48 rfl (by decide) ?_
            refine v_iload_n 3 50 hF dX5_isWord_49 rfl rfl rfl ?_
            refine v_callI ([.int ((2 : Int32)), .int x3]) ([]) 53 hF dX5_isWord_50 rfl cw_X5_173 rfl (hs.1) (c_X5_isLetter_ (G := G) hs M3 ((2 : Int32)) x3) ⟨rfl, rfl, Nat.le_of_ble_eq_true rfl, Nat.le_of_ble_eq_true rfl⟩ rfl rfl (Nat.le_of_ble_eq_true rfl) (fun r6 M5 => ?_)
            refine v_if_eq 56 112 hF dX5_isWord_53 rfl (by decide) (fun _ => ?_) (fun _ => ?_)
            · refine v_iconst (0) 113 hF dX5_isWord_112 rfl (by decide) ?_
              exact v_zret0 hF dX5_isWord_113 rfl
            · refine v_aload_n 0 57 hF dX5_isWord_56 rfl rfl rfl ?_
              refine v_iconst (3) 58 hF dX5_isWord_57 rfl (by decide) ?_
              refine v_iload 4 60 hF dX5_isWord_58 rfl rfl ?_
              refine v_callI ([.int ((3 : Int32)), .int x4]) ([]) 63 hF dX5_isWord_60 rfl cw_X5_173 rfl (hs.1) (c_X5_isLetter_ (G := G) hs M5 ((3 : Int32)) x4) ⟨rfl, rfl, Nat.le_of_ble_eq_true rfl, Nat.le_of_ble_eq_true rfl⟩ rfl rfl (Nat.le_of_ble_eq_true rfl) (fun r8 M7 => ?_)
              refine v_if_eq 66 112 hF dX5_isWord_63 rfl (by decide) (fun _ => ?_) (fun _ => ?_)
              · refine v_iconst (0) 113 hF dX5_isWord_112 rfl (by decide) ?_
                exact v_zret0 hF dX5_isWord_113 rfl
              · refine v_aload_n 0 67 hF dX5_isWord_66 rfl rfl rfl ?_
                refine v_iconst (4) 68 hF dX5_isWord_67 rfl (by decide) ?_
                refine v_iload 5 70 hF dX5_isWord_68 rfl rfl ?_
                refine v_callI ([.int ((4 : Int32)), .int x5]) ([]) 73 hF dX5_isWord_70 rfl cw_X5_173 rfl (hs.1) (c_X5_isLetter_ (G := G) hs M7 ((4 : Int32)) x5) ⟨rfl, rfl, Nat.le_of_ble_eq_true rfl, Nat.le_of_ble_eq_true rfl⟩ rfl rfl (Nat.le_of_ble_eq_true rfl) (fun r10 M9 => ?_)
                refine v_if_eq 76 112 hF dX5_isWord_73 rfl (by decide) (fun _ => ?_) (fun _ => ?_)
                · refine v_iconst (0) 113 hF dX5_isWord_112 rfl (by decide) ?_
                  exact v_zret0 hF dX5_isWord_113 rfl
                · refine v_aload_n 0 77 hF dX5_isWord_76 rfl rfl rfl ?_
                  refine v_iconst (5) 78 hF dX5_isWord_77 rfl (by decide) ?_
                  refine v_iload 6 80 hF dX5_isWord_78 rfl rfl ?_
                  refine v_callI ([.int ((5 : Int32)), .int x6]) ([]) 83 hF dX5_isWord_80 rfl cw_X5_173 rfl (hs.1) (c_X5_isLetter_ (G := G) hs M9 ((5 : Int32)) x6) ⟨rfl, rfl, Nat.le_of_ble_eq_true rfl, Nat.le_of_ble_eq_true rfl⟩ rfl rfl (Nat.le_of_ble_eq_true rfl) (fun r12 M11 => ?_)
                  refine v_if_eq 86 112 hF dX5_isWord_83 rfl (by decide) (fun _ => ?_) (fun _ => ?_)
                  · refine v_iconst (0) 113 hF dX5_isWord_112 rfl (by decide) ?_
                    exact v_zret0 hF dX5_isWord_113 rfl
                  · refine v_aload_n 0 87 hF dX5_isWord_86 rfl rfl rfl ?_
                    refine v_bipush (6) 89 hF dX5_isWord_87 rfl (by decide) ?_
                    refine v_iload 7 91 hF dX5_isWord_89 rfl rfl ?_
                    refine v_callI ([.int ((6 : Int32)), .int x7]) ([]) 94 hF dX5_isWord_91 rfl cw_X5_173 rfl (hs.1) (c_X5_isLetter_ (G := G) hs M11 ((6 : Int32)) x7) ⟨rfl, rfl, Nat.le_of_ble_eq_true rfl, Nat.le_of_ble_eq_true rfl⟩ rfl rfl (Nat.le_of_ble_eq_true rfl) (fun r14 M13 => ?_)
                    refine v_if_eq 97 112 hF dX5_isWord_94 rfl (by decide) (fun _ => ?_) (fun _ => ?_)
                    · refine v_iconst (0) 113 hF dX5_isWord_112 rfl (by decide) ?_
                      exact v_zret0 hF dX5_isWord_113 rfl
                    · refine v_aload_n 0 98 hF dX5_isWord_97 rfl rfl rfl ?_
                      refine v_bipush (7) 100 hF dX5_isWord_98 rfl (by decide) ?_
                      refine v_iload 8 102 hF dX5_isWord_100 rfl rfl ?_
                      refine v_callI ([.int ((7 : Int32)), .int x8]) ([]) 105 hF dX5_isWord_102 rfl cw_X5_173 rfl (hs.1) (c_X5_isLetter_ (G := G) hs M13 ((7 : Int32)) x8) ⟨rfl, rfl, Nat.le_of_ble_eq_true rfl, Nat.le_of_ble_eq_true rfl⟩ rfl rfl (Nat.le_of_ble_eq_true rfl) (fun r16 M15 => ?_)
                      refine v_if_eq 108 112 hF dX5_isWord_105 rfl (by decide) (fun _ => ?_) (fun _ => ?_)
                      · refine v_iconst (0) 113 hF dX5_isWord_112 rfl (by decide) ?_
                        exact v_zret0 hF dX5_isWord_113 rfl
                      · refine v_iconst (1) 109 hF dX5_isWord_108 rfl (by decide) ?_
                        refine v_goto 113 hF dX5_isWord_109 (by decide) ?_
                        exact v_zret0 hF dX5_isWord_113 rfl
abbrev rmX5_isSign : Room := { frames := 0, cells := 0, slots := 0, locals := 0 }
def m_X5_isSign (x1 : Int32) (M : Mm) : Option (Int32 × Mm) := if (M 0 27) = 0 then (if (M 0 23) = (3 : Int32) then (if (lg_cmp ((M 0 25).toInt64) (((x1).toInt64))) = 0 then (some ((1 : Int32), M)) else (some ((0 : Int32), M))) else (some ((0 : Int32), M))) else (some ((0 : Int32), M))
set_option maxRecDepth 100000 in
set_option maxHeartbeats 4000000 in
theorem c_X5_isSign {G : Gx} {sh : List Sh} (hs : ModAt sh) (M : Mm) (x1 : Int32) : CT yX5_isSign cX5_isSign 2 (some .boolean) rmX5_isSign G sh [.ref (G.2.2.2.2 0), .int x1] rvI M (m_X5_isSign  x1 M) := by
  refine CT.of (by decide +kernel) (Nat.le_of_ble_eq_true rfl) (fun X hF => ?_)
  show VR X G sh 2 rvI M 0 [(0, .ref (G.2.2.2.2 0)), (1, .int x1)] [] _
  unfold m_X5_isSign
  refine v_aload_n 0 1 hF dX5_isSign_0 rfl rfl rfl ?_
  refine v_getI 4 hF dX5_isSign_1 rfl fl_X5_166 hs.1 rfl ?_
  refine v_if_ne 7 29 hF dX5_isSign_4 rfl (by decide) (fun _ => ?_) (fun _ => ?_)
  · refine v_iconst (0) 30 hF dX5_isSign_29 rfl (by decide) ?_
    exact v_zret0 hF dX5_isSign_30 rfl
  · refine v_aload_n 0 8 hF dX5_isSign_7 rfl rfl rfl ?_
    refine v_getI 11 hF dX5_isSign_8 rfl fl_X5_151 hs.1 rfl ?_
    refine v_iconst (3) 12 hF dX5_isSign_11 rfl (by decide) ?_
    refine v_icmp_ne 15 29 hF dX5_isSign_12 rfl (by decide) (fun _ => ?_) (fun _ => ?_)
    · refine v_iconst (0) 30 hF dX5_isSign_29 rfl (by decide) ?_
      exact v_zret0 hF dX5_isSign_30 rfl
    · refine v_aload_n 0 16 hF dX5_isSign_15 rfl rfl rfl ?_
      refine v_getJ 19 hF dX5_isSign_16 rfl fl_X5_162 hs.1 rfl ?_
      refine v_iload_n 1 20 hF dX5_isSign_19 rfl rfl rfl ?_
      refine v_i2l 21 hF dX5_isSign_20 rfl ?_
      refine v_lcmp 22 hF dX5_isSign_21 rfl ?_
      refine v_if_ne 25 29 hF dX5_isSign_22 rfl (by decide) (fun _ => ?_) (fun _ => ?_)
      · refine v_iconst (0) 30 hF dX5_isSign_29 rfl (by decide) ?_
        exact v_zret0 hF dX5_isSign_30 rfl
      · refine v_iconst (1) 26 hF dX5_isSign_25 rfl (by decide) ?_
        refine v_goto 30 hF dX5_isSign_26 (by decide) ?_
        exact v_zret0 hF dX5_isSign_30 rfl
abbrev rmX5_opens : Room := { frames := 2, cells := 0, slots := 0, locals := 47 }
def m_X5_opens  (M : Mm) : Option (Int32 × Mm) := if (M 0 26) = (5 : Int32) then (bd (m_X5_fail M) fun _ M3 => some ((0 : Int32), M3)) else (lt1 (up M 0 26 (((M 0 26) + (1 : Int32)))) fun M1 => bd (m_X5_next M1) fun _ M2 => some ((1 : Int32), M2))
set_option maxRecDepth 100000 in
set_option maxHeartbeats 4000000 in
theorem c_X5_opens {G : Gx} {sh : List Sh} (hs : ModAt sh) (M : Mm)  : CT yX5_opens cX5_opens 1 (some .boolean) rmX5_opens G sh [.ref (G.2.2.2.2 0)] rvI M (m_X5_opens   M) := by
  refine CT.of (by decide +kernel) (Nat.le_of_ble_eq_true rfl) (fun X hF => ?_)
  show VR X G sh 1 rvI M 0 [(0, .ref (G.2.2.2.2 0))] [] _
  unfold m_X5_opens
  refine v_aload_n 0 1 hF dX5_opens_0 rfl rfl rfl ?_
  refine v_getI 4 hF dX5_opens_1 rfl fl_X5_175 hs.1 rfl ?_
  refine v_iconst (5) 5 hF dX5_opens_4 rfl (by decide) ?_
  refine v_icmp_ne 8 14 hF dX5_opens_5 rfl (by decide) (fun _ => ?_) (fun _ => ?_)
  · refine v_aload_n 0 15 hF dX5_opens_14 rfl rfl rfl ?_
    refine v_dupR 16 hF dX5_opens_15 rfl ?_
    refine v_getI 19 hF dX5_opens_16 rfl fl_X5_175 hs.1 rfl ?_
    refine v_iconst (1) 20 hF dX5_opens_19 rfl (by decide) ?_
    refine v_iadd 21 hF dX5_opens_20 rfl ?_
    refine v_putI 24 hF dX5_opens_21 rfl fl_X5_175 fp_X5_26 hs.1 rfl (fun M1 => ?_)
    refine v_aload_n 0 25 hF dX5_opens_24 rfl rfl rfl ?_
    refine v_callV ([]) ([]) 28 hF dX5_opens_25 rfl cw_X5_181 rfl (hs.1) (c_X5_next (G := G) hs M1) ⟨rfl, rfl, Nat.le_of_ble_eq_true rfl, Nat.le_of_ble_eq_true rfl⟩ rfl rfl (Nat.le_of_ble_eq_true rfl) (fun _ M2 => ?_)
    refine v_iconst (1) 29 hF dX5_opens_28 rfl (by decide) ?_
    exact v_zret0 hF dX5_opens_29 rfl
  · refine v_aload_n 0 9 hF dX5_opens_8 rfl rfl rfl ?_
    refine v_callV ([]) ([]) 12 hF dX5_opens_9 rfl cw_X5_178 rfl (hs.1) (c_X5_fail (G := G) hs M) ⟨rfl, rfl, Nat.le_of_ble_eq_true rfl, Nat.le_of_ble_eq_true rfl⟩ rfl rfl (Nat.le_of_ble_eq_true rfl) (fun _ M3 => ?_)
    refine v_iconst (0) 13 hF dX5_opens_12 rfl (by decide) ?_
    exact v_zret0 hF dX5_opens_13 rfl
abbrev rmX5_name : Room := { frames := 3, cells := 0, slots := 0, locals := 71 }
def m_X5_name  (M : Mm) : Option (Int32 × Mm) := bd (m_X5_isWord ((116 : Int32)) ((111 : Int32)) ((110 : Int32)) ((101 : Int32)) ((0 : Int32)) ((0 : Int32)) ((0 : Int32)) ((0 : Int32)) M) fun r2 M1 => if r2 = 0 then (bd (m_X5_isWord ((104 : Int32)) ((111 : Int32)) ((117 : Int32)) ((115 : Int32)) ((101 : Int32)) ((0 : Int32)) ((0 : Int32)) ((0 : Int32)) M1) fun r4 M3 => if r4 = 0 then (bd (m_X5_isWord ((110 : Int32)) ((117 : Int32)) ((109 : Int32)) ((98 : Int32)) ((101 : Int32)) ((114 : Int32)) ((0 : Int32)) ((0 : Int32)) M3) fun r6 M5 => if r6 = 0 then (bd (m_X5_isWord ((100 : Int32)) ((97 : Int32)) ((121 : Int32)) ((0 : Int32)) ((0 : Int32)) ((0 : Int32)) ((0 : Int32)) ((0 : Int32)) M5) fun r8 M7 => if r8 = 0 then (bd (m_X5_isWord ((114 : Int32)) ((101 : Int32)) ((97 : Int32)) ((100 : Int32)) ((0 : Int32)) ((0 : Int32)) ((0 : Int32)) ((0 : Int32)) M7) fun r10 M9 => if r10 = 0 then (bd (m_X5_isWord ((109 : Int32)) ((105 : Int32)) ((110 : Int32)) ((101 : Int32)) ((0 : Int32)) ((0 : Int32)) ((0 : Int32)) ((0 : Int32)) M9) fun r12 M11 => if r12 = 0 then (bd (m_X5_fail M11) fun _ M13 => some ((0 : Int32), M13)) else (some ((M11 0 19), M11))) else (some ((M9 0 18), M9))) else (some ((M7 0 17), M7))) else (some ((M5 0 16), M5))) else (some ((M3 0 15), M3))) else (some ((M1 0 14), M1))
set_option maxRecDepth 100000 in
set_option maxHeartbeats 4000000 in
theorem c_X5_name {G : Gx} {sh : List Sh} (hs : ModAt sh) (M : Mm)  : CT yX5_name cX5_name 1 (some .int) rmX5_name G sh [.ref (G.2.2.2.2 0)] rvI M (m_X5_name   M) := by
  refine CT.of (by decide +kernel) (Nat.le_of_ble_eq_true rfl) (fun X hF => ?_)
  show VR X G sh 1 rvI M 0 [(0, .ref (G.2.2.2.2 0))] [] _
  unfold m_X5_name
  refine v_aload_n 0 1 hF dX5_name_0 rfl rfl rfl ?_
  refine v_bipush (116) 3 hF dX5_name_1 rfl (by decide) ?_
  refine v_bipush (111) 5 hF dX5_name_3 rfl (by decide) ?_
  refine v_bipush (110) 7 hF dX5_name_5 rfl (by decide) ?_
  refine v_bipush (101) 9 hF dX5_name_7 rfl (by decide) ?_
  refine v_iconst (0) 10 hF dX5_name_9 rfl (by decide) ?_
  refine v_iconst (0) 11 hF dX5_name_10 rfl (by decide) ?_
  refine v_iconst (0) 12 hF dX5_name_11 rfl (by decide) ?_
  refine v_iconst (0) 13 hF dX5_name_12 rfl (by decide) ?_
  refine v_callI ([.int ((116 : Int32)), .int ((111 : Int32)), .int ((110 : Int32)), .int ((101 : Int32)), .int ((0 : Int32)), .int ((0 : Int32)), .int ((0 : Int32)), .int ((0 : Int32))]) ([]) 16 hF dX5_name_13 rfl cw_X5_184 rfl (hs.1) (c_X5_isWord (G := G) hs M ((116 : Int32)) ((111 : Int32)) ((110 : Int32)) ((101 : Int32)) ((0 : Int32)) ((0 : Int32)) ((0 : Int32)) ((0 : Int32))) ⟨rfl, rfl, Nat.le_of_ble_eq_true rfl, Nat.le_of_ble_eq_true rfl⟩ rfl rfl (Nat.le_of_ble_eq_true rfl) (fun r2 M1 => ?_)
  refine v_if_eq 19 24 hF dX5_name_16 rfl (by decide) (fun _ => ?_) (fun _ => ?_)
  · refine v_aload_n 0 25 hF dX5_name_24 rfl rfl rfl ?_
    refine v_bipush (104) 27 hF dX5_name_25 rfl (by decide) ?_
    refine v_bipush (111) 29 hF dX5_name_27 rfl (by decide) ?_
    refine v_bipush (117) 31 hF dX5_name_29 rfl (by decide) ?_
    refine v_bipush (115) 33 hF dX5_name_31 rfl (by decide) ?_
    refine v_bipush (101) 35 hF dX5_name_33 rfl (by decide) ?_
    refine v_iconst (0) 36 hF dX5_name_35 rfl (by decide) ?_
    refine v_iconst (0) 37 hF dX5_name_36 rfl (by decide) ?_
    refine v_iconst (0) 38 hF dX5_name_37 rfl (by decide) ?_
    refine v_callI ([.int ((104 : Int32)), .int ((111 : Int32)), .int ((117 : Int32)), .int ((115 : Int32)), .int ((101 : Int32)), .int ((0 : Int32)), .int ((0 : Int32)), .int ((0 : Int32))]) ([]) 41 hF dX5_name_38 rfl cw_X5_184 rfl (hs.1) (c_X5_isWord (G := G) hs M1 ((104 : Int32)) ((111 : Int32)) ((117 : Int32)) ((115 : Int32)) ((101 : Int32)) ((0 : Int32)) ((0 : Int32)) ((0 : Int32))) ⟨rfl, rfl, Nat.le_of_ble_eq_true rfl, Nat.le_of_ble_eq_true rfl⟩ rfl rfl (Nat.le_of_ble_eq_true rfl) (fun r4 M3 => ?_)
    refine v_if_eq 44 49 hF dX5_name_41 rfl (by decide) (fun _ => ?_) (fun _ => ?_)
    · refine v_aload_n 0 50 hF dX5_name_49 rfl rfl rfl ?_
      refine v_bipush (110) 52 hF dX5_name_50 rfl (by decide) ?_
      refine v_bipush (117) 54 hF dX5_name_52 rfl (by decide) ?_
      refine v_bipush (109) 56 hF dX5_name_54 rfl (by decide) ?_
      refine v_bipush (98) 58 hF dX5_name_56 rfl (by decide) ?_
      refine v_bipush (101) 60 hF dX5_name_58 rfl (by decide) ?_
      refine v_bipush (114) 62 hF dX5_name_60 rfl (by decide) ?_
      refine v_iconst (0) 63 hF dX5_name_62 rfl (by decide) ?_
      refine v_iconst (0) 64 hF dX5_name_63 rfl (by decide) ?_
      refine v_callI ([.int ((110 : Int32)), .int ((117 : Int32)), .int ((109 : Int32)), .int ((98 : Int32)), .int ((101 : Int32)), .int ((114 : Int32)), .int ((0 : Int32)), .int ((0 : Int32))]) ([]) 67 hF dX5_name_64 rfl cw_X5_184 rfl (hs.1) (c_X5_isWord (G := G) hs M3 ((110 : Int32)) ((117 : Int32)) ((109 : Int32)) ((98 : Int32)) ((101 : Int32)) ((114 : Int32)) ((0 : Int32)) ((0 : Int32))) ⟨rfl, rfl, Nat.le_of_ble_eq_true rfl, Nat.le_of_ble_eq_true rfl⟩ rfl rfl (Nat.le_of_ble_eq_true rfl) (fun r6 M5 => ?_)
      refine v_if_eq 70 75 hF dX5_name_67 rfl (by decide) (fun _ => ?_) (fun _ => ?_)
      · refine v_aload_n 0 76 hF dX5_name_75 rfl rfl rfl ?_
        refine v_bipush (100) 78 hF dX5_name_76 rfl (by decide) ?_
        refine v_bipush (97) 80 hF dX5_name_78 rfl (by decide) ?_
        refine v_bipush (121) 82 hF dX5_name_80 rfl (by decide) ?_
        refine v_iconst (0) 83 hF dX5_name_82 rfl (by decide) ?_
        refine v_iconst (0) 84 hF dX5_name_83 rfl (by decide) ?_
        refine v_iconst (0) 85 hF dX5_name_84 rfl (by decide) ?_
        refine v_iconst (0) 86 hF dX5_name_85 rfl (by decide) ?_
        refine v_iconst (0) 87 hF dX5_name_86 rfl (by decide) ?_
        refine v_callI ([.int ((100 : Int32)), .int ((97 : Int32)), .int ((121 : Int32)), .int ((0 : Int32)), .int ((0 : Int32)), .int ((0 : Int32)), .int ((0 : Int32)), .int ((0 : Int32))]) ([]) 90 hF dX5_name_87 rfl cw_X5_184 rfl (hs.1) (c_X5_isWord (G := G) hs M5 ((100 : Int32)) ((97 : Int32)) ((121 : Int32)) ((0 : Int32)) ((0 : Int32)) ((0 : Int32)) ((0 : Int32)) ((0 : Int32))) ⟨rfl, rfl, Nat.le_of_ble_eq_true rfl, Nat.le_of_ble_eq_true rfl⟩ rfl rfl (Nat.le_of_ble_eq_true rfl) (fun r8 M7 => ?_)
        refine v_if_eq 93 98 hF dX5_name_90 rfl (by decide) (fun _ => ?_) (fun _ => ?_)
        · refine v_aload_n 0 99 hF dX5_name_98 rfl rfl rfl ?_
          refine v_bipush (114) 101 hF dX5_name_99 rfl (by decide) ?_
          refine v_bipush (101) 103 hF dX5_name_101 rfl (by decide) ?_
          refine v_bipush (97) 105 hF dX5_name_103 rfl (by decide) ?_
          refine v_bipush (100) 107 hF dX5_name_105 rfl (by decide) ?_
          refine v_iconst (0) 108 hF dX5_name_107 rfl (by decide) ?_
          refine v_iconst (0) 109 hF dX5_name_108 rfl (by decide) ?_
          refine v_iconst (0) 110 hF dX5_name_109 rfl (by decide) ?_
          refine v_iconst (0) 111 hF dX5_name_110 rfl (by decide) ?_
          refine v_callI ([.int ((114 : Int32)), .int ((101 : Int32)), .int ((97 : Int32)), .int ((100 : Int32)), .int ((0 : Int32)), .int ((0 : Int32)), .int ((0 : Int32)), .int ((0 : Int32))]) ([]) 114 hF dX5_name_111 rfl cw_X5_184 rfl (hs.1) (c_X5_isWord (G := G) hs M7 ((114 : Int32)) ((101 : Int32)) ((97 : Int32)) ((100 : Int32)) ((0 : Int32)) ((0 : Int32)) ((0 : Int32)) ((0 : Int32))) ⟨rfl, rfl, Nat.le_of_ble_eq_true rfl, Nat.le_of_ble_eq_true rfl⟩ rfl rfl (Nat.le_of_ble_eq_true rfl) (fun r10 M9 => ?_)
          refine v_if_eq 117 122 hF dX5_name_114 rfl (by decide) (fun _ => ?_) (fun _ => ?_)
          · refine v_aload_n 0 123 hF dX5_name_122 rfl rfl rfl ?_
            refine v_bipush (109) 125 hF dX5_name_123 rfl (by decide) ?_
            refine v_bipush (105) 127 hF dX5_name_125 rfl (by decide) ?_
            refine v_bipush (110) 129 hF dX5_name_127 rfl (by decide) ?_
            refine v_bipush (101) 131 hF dX5_name_129 rfl (by decide) ?_
            refine v_iconst (0) 132 hF dX5_name_131 rfl (by decide) ?_
            refine v_iconst (0) 133 hF dX5_name_132 rfl (by decide) ?_
            refine v_iconst (0) 134 hF dX5_name_133 rfl (by decide) ?_
            refine v_iconst (0) 135 hF dX5_name_134 rfl (by decide) ?_
            refine v_callI ([.int ((109 : Int32)), .int ((105 : Int32)), .int ((110 : Int32)), .int ((101 : Int32)), .int ((0 : Int32)), .int ((0 : Int32)), .int ((0 : Int32)), .int ((0 : Int32))]) ([]) 138 hF dX5_name_135 rfl cw_X5_184 rfl (hs.1) (c_X5_isWord (G := G) hs M9 ((109 : Int32)) ((105 : Int32)) ((110 : Int32)) ((101 : Int32)) ((0 : Int32)) ((0 : Int32)) ((0 : Int32)) ((0 : Int32))) ⟨rfl, rfl, Nat.le_of_ble_eq_true rfl, Nat.le_of_ble_eq_true rfl⟩ rfl rfl (Nat.le_of_ble_eq_true rfl) (fun r12 M11 => ?_)
            refine v_if_eq 141 146 hF dX5_name_138 rfl (by decide) (fun _ => ?_) (fun _ => ?_)
            · refine v_aload_n 0 147 hF dX5_name_146 rfl rfl rfl ?_
              refine v_callV ([]) ([]) 150 hF dX5_name_147 rfl cw_X5_178 rfl (hs.1) (c_X5_fail (G := G) hs M11) ⟨rfl, rfl, Nat.le_of_ble_eq_true rfl, Nat.le_of_ble_eq_true rfl⟩ rfl rfl (Nat.le_of_ble_eq_true rfl) (fun _ M13 => ?_)
              refine v_iconst (0) 151 hF dX5_name_150 rfl (by decide) ?_
              exact v_iret hF dX5_name_151
            · refine v_aload_n 0 142 hF dX5_name_141 rfl rfl rfl ?_
              refine v_getI 145 hF dX5_name_142 rfl fl_X5_203 hs.1 rfl ?_
              exact v_iret hF dX5_name_145
          · refine v_aload_n 0 118 hF dX5_name_117 rfl rfl rfl ?_
            refine v_getI 121 hF dX5_name_118 rfl fl_X5_200 hs.1 rfl ?_
            exact v_iret hF dX5_name_121
        · refine v_aload_n 0 94 hF dX5_name_93 rfl rfl rfl ?_
          refine v_getI 97 hF dX5_name_94 rfl fl_X5_197 hs.1 rfl ?_
          exact v_iret hF dX5_name_97
      · refine v_aload_n 0 71 hF dX5_name_70 rfl rfl rfl ?_
        refine v_getI 74 hF dX5_name_71 rfl fl_X5_194 hs.1 rfl ?_
        exact v_iret hF dX5_name_74
    · refine v_aload_n 0 45 hF dX5_name_44 rfl rfl rfl ?_
      refine v_getI 48 hF dX5_name_45 rfl fl_X5_191 hs.1 rfl ?_
      exact v_iret hF dX5_name_48
  · refine v_aload_n 0 20 hF dX5_name_19 rfl rfl rfl ?_
    refine v_getI 23 hF dX5_name_20 rfl fl_X5_188 hs.1 rfl ?_
    exact v_iret hF dX5_name_23
