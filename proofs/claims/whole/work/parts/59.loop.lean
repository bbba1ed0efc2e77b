/-! THE LAW: its loop -/
theorem low5 (x : Int32) : ∃ j : Nat, j < 32 ∧ x &&& 31 = nI j := by
  refine ⟨(x &&& 31).toBitVec.toNat, ?_, ?_⟩
  · have h : (x &&& 31).toBitVec = x.toBitVec &&& 31#32 := rfl
    rw [h, BitVec.toNat_and]
    have h2 : x.toBitVec.toNat &&& (31#32).toNat ≤ (31#32).toNat := Nat.and_le_right
    have h3 : (31#32).toNat = 31 := by decide
    omega
  · apply Int32.toBitVec_inj.mp
    show (x &&& 31).toBitVec = BitVec.ofInt 32 ((((x &&& 31).toBitVec.toNat : Nat) : Int))
    rw [BitVec.ofInt_natCast, BitVec.ofNat_toNat, BitVec.setWidth_eq]
theorem gt6 {k L : Nat} (hk : k ≤ L) (hL : L ≤ 3072) (h : ¬ nI L - 6 < nI k) : k + 6 ≤ L := by
  rw [Int32.lt_iff_toInt_lt, Int32.toInt_sub, nI_toInt (by omega), nI_toInt (by omega), show (6 : Int32).toInt = 6 from rfl, Int.bmod_eq_of_le (by omega) (by omega)] at h
  omega
section LLOOP
variable {X : Cx} {G GX GM : Gx} {A : Nat → Prop} {Q : State → Prop} {b L : Nat} {xs : Nat → Int32}
theorem law_turn {kn : Nat} {Mx Mr : Mm} (hB : LB X G GX GM A b L kn xs) (h : Rel Mx Mr) (next : ∀ Mx' Mr', Rel Mx' Mr' → LW X G GX GM A Q kn b 1210 [] Mx' Mr') : LW X G GX GM A Q kn b 27 [] Mx Mr := by
  obtain ⟨hF, hX, g1, g2, hb, hL, hk⟩ := hB
  have hB : LB X G GX GM A b L kn xs := ⟨hF, hX, g1, g2, hb, hL, hk⟩
  refine i_aload 1 28 hF dL_law_27 rfl rfl rfl ?_
  refine i_iload 0 29 hF dL_law_28 rfl rfl rfl ?_
  refine i_sld 30 hF hb dL_law_29 rfl rfl (by omega) hL ?_
  refine i_bipush 31 32 hF dL_law_30 rfl (by decide) ?_
  refine i_iand 33 hF dL_law_32 rfl ?_
  obtain ⟨j, hj, e⟩ := low5 (xs kn)
  rw [e]
  match j, hj with
  | 0, _ => exact i_tabIn (off := 135) 168 hF dL_law_33 (by decide) (by decide) (by decide) (by decide) (law_set hB h next)
  | 1, _ => exact i_tabIn (off := 178) 211 hF dL_law_33 (by decide) (by decide) (by decide) (by decide) (law_person hB h next)
  | 2, _ => exact i_tabIn (off := 221) 254 hF dL_law_33 (by decide) (by decide) (by decide) (by decide) (law_swap hB h next)
  | 3, _ => exact i_tabIn (off := 254) 287 hF dL_law_33 (by decide) (by decide) (by decide) (by decide) (law_told hB h next)
  | 4, _ => exact i_tabIn (off := 287) 320 hF dL_law_33 (by decide) (by decide) (by decide) (by decide) (law_asks hB h next)
  | 5, _ => exact i_tabIn (off := 330) 363 hF dL_law_33 (by decide) (by decide) (by decide) (by decide) (law_writes hB h next)
  | 6, _ => exact i_tabIn (off := 353) 386 hF dL_law_33 (by decide) (by decide) (by decide) (by decide) (law_feed hB h next)
  | 7, _ => exact i_tabIn (off := 376) 409 hF dL_law_33 (by decide) (by decide) (by decide) (by decide) (law_text hB h next)
  | 8, _ => exact i_tabIn (off := 389) 422 hF dL_law_33 (by decide) (by decide) (by decide) (by decide) (law_force hB h next)
  | 9, _ => exact i_tabIn (off := 412) 445 hF dL_law_33 (by decide) (by decide) (by decide) (by decide) (law_send hB h next)
  | 10, _ => exact i_tabIn (off := 445) 478 hF dL_law_33 (by decide) (by decide) (by decide) (by decide) (law_day hB h next)
  | 11, _ => exact i_tabIn (off := 458) 491 hF dL_law_33 (by decide) (by decide) (by decide) (by decide) (law_run hB h next)
  | 12, _ => exact i_tabIn (off := 501) 534 hF dL_law_33 (by decide) (by decide) (by decide) (by decide) (law_comes hB h next)
  | 13, _ => exact i_tabIn (off := 524) 557 hF dL_law_33 (by decide) (by decide) (by decide) (by decide) (law_mistake hB h next)
  | 14, _ => exact i_tabIn (off := 557) 590 hF dL_law_33 (by decide) (by decide) (by decide) (by decide) (law_live hB h next)
  | 15, _ => exact i_tabIn (off := 590) 623 hF dL_law_33 (by decide) (by decide) (by decide) (by decide) (law_hide hB h next)
  | 16, _ => exact i_tabIn (off := 643) 676 hF dL_law_33 (by decide) (by decide) (by decide) (by decide) (law_tell hB h next)
  | 17, _ => exact i_tabIn (off := 686) 719 hF dL_law_33 (by decide) (by decide) (by decide) (by decide) (law_mean hB h next)
  | 18, _ => exact i_tabIn (off := 710) 743 hF dL_law_33 (by decide) (by decide) (by decide) (by decide) (law_tells hB h next)
  | 19, _ => exact i_tabIn (off := 763) 796 hF dL_law_33 (by decide) (by decide) (by decide) (by decide) (law_film hB h next)
  | 20, _ => exact i_tabIn (off := 806) 839 hF dL_law_33 (by decide) (by decide) (by decide) (by decide) (law_drawn hB h next)
  | 21, _ => exact i_tabIn (off := 839) 872 hF dL_law_33 (by decide) (by decide) (by decide) (by decide) (law_chance hB h next)
  | 22, _ => exact i_tabIn (off := 893) 926 hF dL_law_33 (by decide) (by decide) (by decide) (by decide) (law_image hB h next)
  | 23, _ => exact i_tabIn (off := 906) 939 hF dL_law_33 (by decide) (by decide) (by decide) (by decide) (law_back hB h next)
  | 24, _ => exact i_tabIn (off := 919) 952 hF dL_law_33 (by decide) (by decide) (by decide) (by decide) (law_count hB h next)
  | 25, _ => exact i_tabIn (off := 942) 975 hF dL_law_33 (by decide) (by decide) (by decide) (by decide) (law_sheet hB h next)
  | 26, _ => exact i_tabIn (off := 985) 1018 hF dL_law_33 (by decide) (by decide) (by decide) (by decide) (law_cell hB h next)
  | 27, _ => exact i_tabIn (off := 1028) 1061 hF dL_law_33 (by decide) (by decide) (by decide) (by decide) (law_copy hB h next)
  | 28, _ => exact i_tabIn (off := 1091) 1124 hF dL_law_33 (by decide) (by decide) (by decide) (by decide) (law_hill hB h next)
  | 29, _ => exact i_tabIn (off := 1144) 1177 hF dL_law_33 (by decide) (by decide) (by decide) (by decide) (law_taken hB h next)
  | 30, _ => exact i_tabOut 1210 hF dL_law_33 (Or.inr (by decide)) (by decide) (next _ _ h)
  | 31, _ => exact i_tabOut 1210 hF dL_law_33 (Or.inr (by decide)) (by decide) (next _ _ h)
  | n + 32, h => exact absurd h (by omega)
theorem law_loop (hF : FI X G A 4 cL_law RL room_1) (hX : XTA G A X.2.2.2.2.1 X.2.2.2.2.1.heap) (g1 : GG G GX) (g2 : GG G GM) (hb : LScr X A b L xs) (hL : L ≤ 3072) (fin : ∀ (kn : Nat) (Mx Mr : Mm), LW X G GX GM A Q kn b 1216 [] Mx Mr) : ∀ (n kn : Nat), kn ≤ L → L - kn < n → ∀ (Mx Mr : Mm), Rel Mx Mr → LW X G GX GM A Q kn b 18 [] Mx Mr := by
  intro n
  induction n with
  | zero => exact fun kn _ h => absurd h (by omega)
  | succ n ih =>
    intro kn hkL hn Mx Mr h
    refine i_iload 0 19 hF dL_law_18 rfl rfl rfl ?_
    refine i_aload 1 20 hF dL_law_19 rfl rfl rfl ?_
    refine i_slen 21 hF hb dL_law_20 rfl ?_
    refine i_bipush 6 23 hF dL_law_21 rfl (by decide) ?_
    refine i_isub 24 hF dL_law_23 rfl ?_
    refine i_gt 27 1216 hF dL_law_24 rfl (by decide) (fun _ => fin kn Mx Mr) (fun hg => ?_)
    have hk : kn + 6 ≤ L := gt6 hkL hL hg
    refine law_turn ⟨hF, hX, g1, g2, hb, hL, hk⟩ h (fun Mx1 Mr1 h1 => ?_)
    refine i_iinc (nI (kn + 6)) 0 1213 hF dL_law_1210 rfl rfl (nI_add kn 6) (by decide) rfl ?_
    refine i_goto 18 hF dL_law_1213 (by decide) ?_
    exact ih (kn + 6) hk (by omega) Mx1 Mr1 h1
end LLOOP
