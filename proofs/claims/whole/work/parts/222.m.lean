noncomputable def gX12_odds_77 (K34 : Mem → Nat → Int32 → Int32 → Int32 → Int32 → Int32 → Option (Int64 × Mem)) (M : Mem) (l0 : Nat) (l1 : Int32) (l2 : Int32) (l3 : Int32) (l4 : Int32) (l5 : Int32) (l6 : Int32) : Option (Int64 × Mem) :=
  ck (isK M l0 12) <| rb (mR M l0 0) fun b16 => ck (isK M b16 14) <| ck (inb l5 (mG M b16)) <| K34 (stI M b16 l5.toNatClampNeg l6) l0 l1 l2 l3 l4 (l5 + (1 : Int32))
noncomputable def gX12_odds_34  : Nat → Mem → Nat → Int32 → Int32 → Int32 → Int32 → Int32 → Option (Int64 × Mem)
  | 0, _, _, _, _, _, _, _ => none
  | n + 1, M, l0, l1, l2, l3, l4, l5 => if (25 : Int32) ≤ l5 then (bd (fX12_part M l4 (25 : Int32) l3) fun x5 M5 => some (x5, M5)) else (ck (isK M l0 12) <| rb (mR M l0 0) fun b7 => ck (isK M b7 14) <| ck (inb l5 (mG M b7)) <| bd (fX12_held M ((mI M b7 l5.toNatClampNeg) + (10 : Int32))) fun x10 M10 => ck (isK M10 b7 14) <| ck (inb l5 (mG M10 b7)) <| ck (isK M10 l0 12) <| bd (fX12_sent (stI M10 b7 l5.toNatClampNeg x10) l0 l1) fun x14 M14 => if x14 = l2 then (gX12_odds_77 (gX12_odds_34 n) M14 l0 l1 l2 l3 (l4 + (1 : Int32)) l5 (mI M b7 l5.toNatClampNeg)) else (gX12_odds_77 (gX12_odds_34 n) M14 l0 l1 l2 l3 l4 l5 (mI M b7 l5.toNatClampNeg)))
noncomputable def fX12_odds (M : Mem) (a0 : Nat) (a1 : Int32) (a2 : Int32) (a3 : Int32) : Option (Int64 × Mem) :=
  ck (isK M a0 12) <| bd (fX12_isOne M a0 a1) fun x2 M2 => if x2 = 0 then (some ((-9223372036854775808 : Int64), M2)) else (bd (fX12_isCell M2 a2) fun x3 M3 => if x3 = 0 then (some ((-9223372036854775808 : Int64), M3)) else (bd (fX12_within M3 a3 (0 : Int32) (1 : Int32)) fun x4 M4 => if x4 = 0 then (some ((-9223372036854775808 : Int64), M4)) else (gX12_odds_34 FU M4 a0 a1 a2 a3 (0 : Int32) (0 : Int32))))
set_option maxRecDepth 100000 in
set_option maxHeartbeats 4000000 in
theorem wX12_odds_77 {z : Zx} {fx : Fx} {al : Bool} {r : Nat} {N : Mem} {xr : Int64} (hz : Zok z fx al yX12_odds.cls yX12_odds.name cX12_odds (some .long) 7 (r + 5) 0 0 (some (.long xr)) N)  {K34 : Mem → Nat → Int32 → Int32 → Int32 → Int32 → Int32 → Option (Int64 × Mem)} (hK34 : ∀ {M : Mem} {l0 : Nat} {l1 : Int32} {l2 : Int32} {l3 : Int32} {l4 : Int32} {l5 : Int32}, K34 M l0 l1 l2 l3 l4 l5 = some (xr, N) → V z 34 [some (.ref l0), some (.int l1), some (.int l2), some (.int l3), some (.int l4), some (.int l5), none] [] M 0 0) {M : Mem} {l0 : Nat} {l1 : Int32} {l2 : Int32} {l3 : Int32} {l4 : Int32} {l5 : Int32} {l6 : Int32} (h : gX12_odds_77 K34 M l0 l1 l2 l3 l4 l5 l6 = some (xr, N)) : V z 77 [some (.ref l0), some (.int l1), some (.int l2), some (.int l3), some (.int l4), some (.int l5), some (.int l6)] [] M 0 0 := by
  unfold gX12_odds_77 at h
  refine v_aload_n hz rfl rfl dX12_odds_77 ?_
  obtain ⟨ck15, h⟩ := ck_inv h
  obtain ⟨ka15, kb15⟩ := isK_of ck15
  obtain ⟨b16, r16, h⟩ := rb_inv h
  refine v_getR hz fl_X12_9 rfl dX12_odds_78 ka15 kb15 r16 ?_
  refine v_iload hz rfl dX12_odds_81 ?_
  refine v_iload hz rfl dX12_odds_83 ?_
  obtain ⟨ck17, h⟩ := ck_inv h
  obtain ⟨ka17, kb17⟩ := isK_of ck17
  obtain ⟨g18, h⟩ := ck_inv h
  refine v_iastore hz dX12_odds_85 ka17 kb17 g18 ?_
  refine v_iinc hz (v := (l5 + (1 : Int32))) (lw := [some (.ref l0), some (.int l1), some (.int l2), some (.int l3), some (.int l4), some (.int (l5 + (1 : Int32))), some (.int l6)]) rfl (congrArg (fun q => l5 + q) (show Int32.ofInt (1) = (1 : Int32) by decide)) rfl rfl dX12_odds_86 ?_
  refine v_goto (tgt := 34) hz dX12_odds_89 (by decide) ?_
  exact v_weak (lvle_s (lvle_s (lvle_s (lvle_s (lvle_s (lvle_s (lvle_n lvle_0))))))) (hK34 h)
set_option maxRecDepth 100000 in
set_option maxHeartbeats 4000000 in
theorem gX12_odds_34_s  (n : Nat) (M : Mem) (l0 : Nat) (l1 : Int32) (l2 : Int32) (l3 : Int32) (l4 : Int32) (l5 : Int32) : gX12_odds_34  (n + 1) M l0 l1 l2 l3 l4 l5 = (if (25 : Int32) ≤ l5 then (bd (fX12_part M l4 (25 : Int32) l3) fun x5 M5 => some (x5, M5)) else (ck (isK M l0 12) <| rb (mR M l0 0) fun b7 => ck (isK M b7 14) <| ck (inb l5 (mG M b7)) <| bd (fX12_held M ((mI M b7 l5.toNatClampNeg) + (10 : Int32))) fun x10 M10 => ck (isK M10 b7 14) <| ck (inb l5 (mG M10 b7)) <| ck (isK M10 l0 12) <| bd (fX12_sent (stI M10 b7 l5.toNatClampNeg x10) l0 l1) fun x14 M14 => if x14 = l2 then (gX12_odds_77 (gX12_odds_34 n) M14 l0 l1 l2 l3 (l4 + (1 : Int32)) l5 (mI M b7 l5.toNatClampNeg)) else (gX12_odds_77 (gX12_odds_34 n) M14 l0 l1 l2 l3 l4 l5 (mI M b7 l5.toNatClampNeg)))) := rfl
set_option maxRecDepth 100000 in
set_option maxHeartbeats 4000000 in
theorem wX12_odds_34 {z : Zx} {fx : Fx} {al : Bool} {r : Nat} {N : Mem} {xr : Int64} (hz : Zok z fx al yX12_odds.cls yX12_odds.name cX12_odds (some .long) 7 (r + 5) 0 0 (some (.long xr)) N)    : ∀ {n : Nat} {M : Mem} {l0 : Nat} {l1 : Int32} {l2 : Int32} {l3 : Int32} {l4 : Int32} {l5 : Int32}, gX12_odds_34  n M l0 l1 l2 l3 l4 l5 = some (xr, N) → V z 34 [some (.ref l0), some (.int l1), some (.int l2), some (.int l3), some (.int l4), some (.int l5), none] [] M 0 0 := by
  intro n
  induction n with
  | zero => intro M l0 l1 l2 l3 l4 l5 h; cases h
  | succ n ih =>
    intro M l0 l1 l2 l3 l4 l5 h
    replace h := (gX12_odds_34_s  n M l0 l1 l2 l3 l4 l5).symm.trans h
    refine v_iload hz rfl dX12_odds_34 ?_
    refine v_bipush hz (v := (25 : Int32)) (by decide) dX12_odds_36 ?_
    refine v_icmp_ge (tgt := 92) hz dX12_odds_38 (by decide) (fun hc => ?_) (fun hc => ?_)
    · replace h := (if_pos hc).symm.trans h
      refine v_iload hz rfl dX12_odds_92 ?_
      refine v_bipush hz (v := (25 : Int32)) (by decide) dX12_odds_94 ?_
      refine v_iload_n hz rfl rfl dX12_odds_96 ?_
      obtain ⟨x5, M5, e5, h⟩ := bd_inv h
      refine v_callS hz (As := [.int l4, .int (25 : Int32), .int l3]) sl_X12_281 (tX12_part (r + 4) e5) rfl rfl rfl (Nat.le_of_ble_eq_true rfl) ⟨by decide, by decide⟩ dX12_odds_97 ?_
      show V z 100 [some (.ref l0), some (.int l1), some (.int l2), some (.int l3), some (.int l4), some (.int l5), none] [.long x5] M5 0 0
      obtain ⟨rfl, rfl⟩ := sp_inv h
      exact v_lret hz dX12_odds_100 (by decide) (by decide)
    · replace h := (if_neg hc).symm.trans h
      refine v_aload_n hz rfl rfl dX12_odds_41 ?_
      obtain ⟨ck6, h⟩ := ck_inv h
      obtain ⟨ka6, kb6⟩ := isK_of ck6
      obtain ⟨b7, r7, h⟩ := rb_inv h
      refine v_getR hz fl_X12_9 rfl dX12_odds_42 ka6 kb6 r7 ?_
      refine v_iload hz rfl dX12_odds_45 ?_
      obtain ⟨ck8, h⟩ := ck_inv h
      obtain ⟨ka8, kb8⟩ := isK_of ck8
      obtain ⟨g9, h⟩ := ck_inv h
      refine v_iaload hz dX12_odds_47 ka8 kb8 g9 ?_
      refine v_istore hz (lw := [some (.ref l0), some (.int l1), some (.int l2), some (.int l3), some (.int l4), some (.int l5), some (.int (mI M b7 l5.toNatClampNeg))]) (Nat.le_of_ble_eq_true rfl) rfl rfl dX12_odds_48 ?_
      refine v_aload_n hz rfl rfl dX12_odds_50 ?_
      refine v_getR hz fl_X12_9 rfl dX12_odds_51 ka6 kb6 r7 ?_
      refine v_iload hz rfl dX12_odds_54 ?_
      refine v_iload hz rfl dX12_odds_56 ?_
      refine v_bipush hz (v := (10 : Int32)) (by decide) dX12_odds_58 ?_
      refine v_iadd hz dX12_odds_60 ?_
      obtain ⟨x10, M10, e10, h⟩ := bd_inv h
      refine v_callS hz (As := [.int ((mI M b7 l5.toNatClampNeg) + (10 : Int32))]) sl_X12_238 (tX12_held (r + 3) e10) rfl rfl rfl (Nat.le_of_ble_eq_true rfl) ⟨by decide, by decide⟩ dX12_odds_61 ?_
      show V z 64 [some (.ref l0), some (.int l1), some (.int l2), some (.int l3), some (.int l4), some (.int l5), some (.int (mI M b7 l5.toNatClampNeg))] [.int x10, .int l5, .ref b7] M10 0 0
      obtain ⟨ck11, h⟩ := ck_inv h
      obtain ⟨ka11, kb11⟩ := isK_of ck11
      obtain ⟨g12, h⟩ := ck_inv h
      refine v_iastore hz dX12_odds_64 ka11 kb11 g12 ?_
      refine v_aload_n hz rfl rfl dX12_odds_65 ?_
      refine v_iload_n hz rfl rfl dX12_odds_66 ?_
      obtain ⟨ck13, h⟩ := ck_inv h
      obtain ⟨ka13, kb13⟩ := isK_of ck13
      obtain ⟨x14, M14, e14, h⟩ := bd_inv h
      refine v_callV hz (As := [.int l1]) vl_X12_119 (tX12_sent (r + 0) e14) rfl (by decide) ka13 kb13 rfl rfl rfl (Nat.le_of_ble_eq_true rfl) ⟨by decide, by decide⟩ dX12_odds_67 ?_
      show V z 70 [some (.ref l0), some (.int l1), some (.int l2), some (.int l3), some (.int l4), some (.int l5), some (.int (mI M b7 l5.toNatClampNeg))] [.int x14] M14 0 0
      refine v_iload_n hz rfl rfl dX12_odds_70 ?_
      refine v_icmp_ne (tgt := 77) hz dX12_odds_71 (by decide) (fun hc => ?_) (fun hc => ?_)
      · replace h := (if_neg hc).symm.trans h
        exact v_weak (lvle_s (lvle_s (lvle_s (lvle_s (lvle_s (lvle_s (lvle_s lvle_0))))))) (wX12_odds_77 hz  (fun h => ih h) h)
      · replace h := (if_pos hc).symm.trans h
        refine v_iinc hz (v := (l4 + (1 : Int32))) (lw := [some (.ref l0), some (.int l1), some (.int l2), some (.int l3), some (.int (l4 + (1 : Int32))), some (.int l5), some (.int (mI M b7 l5.toNatClampNeg))]) rfl (congrArg (fun q => l4 + q) (show Int32.ofInt (1) = (1 : Int32) by decide)) rfl rfl dX12_odds_74 ?_
        exact v_weak (lvle_s (lvle_s (lvle_s (lvle_s (lvle_s (lvle_s (lvle_s lvle_0))))))) (wX12_odds_77 hz  (fun h => ih h) h)
set_option maxRecDepth 100000 in
set_option maxHeartbeats 4000000 in
theorem tX12_odds (r : Nat) {fx : Fx} {al : Bool} {M N : Mem} {a0 : Nat} {a1 : Int32} {a2 : Int32} {a3 : Int32} {xr : Int64}  (h : fX12_odds M a0 a1 a2 a3 = some (xr, N)) : Ct fx yX12_odds cX12_odds 7 (some .long) (r + 5) 0 0 al [.ref a0, .int a1, .int a2, .int a3] M (some (.long xr)) N := by
  refine ct_of (lv := [some (.ref a0), some (.int a1), some (.int a2), some (.int a3), none, none, none]) (by decide) (Nat.le_of_ble_eq_true rfl) rfl rfl (fun z hz => ?_)
  unfold fX12_odds at h
  refine v_aload_n hz rfl rfl dX12_odds_0 ?_
  refine v_iload_n hz rfl rfl dX12_odds_1 ?_
  obtain ⟨ck1, h⟩ := ck_inv h
  obtain ⟨ka1, kb1⟩ := isK_of ck1
  obtain ⟨x2, M2, e2, h⟩ := bd_inv h
  refine v_callV hz (As := [.int a1]) vl_X12_116 (tX12_isOne (r + 3) e2) rfl (by decide) ka1 kb1 rfl rfl rfl (Nat.le_of_ble_eq_true rfl) ⟨by decide, by decide⟩ dX12_odds_2 ?_
  show V z 5 [some (.ref a0), some (.int a1), some (.int a2), some (.int a3), none, none, none] [.int x2] M2 0 0
  refine v_if_eq (tgt := 24) hz dX12_odds_5 (by decide) (fun hc => ?_) (fun hc => ?_)
  · replace h := (if_pos hc).symm.trans h
    refine v_ldc2 hz wq_1241 dX12_odds_24 ?_
    obtain ⟨rfl, rfl⟩ := sp_inv h
    exact v_lret hz dX12_odds_27 (by decide) (by decide)
  · replace h := (if_neg hc).symm.trans h
    refine v_iload_n hz rfl rfl dX12_odds_8 ?_
    obtain ⟨x3, M3, e3, h⟩ := bd_inv h
    refine v_callS hz (As := [.int a2]) sl_X12_112 (tX12_isCell (r + 3) e3) rfl rfl rfl (Nat.le_of_ble_eq_true rfl) ⟨by decide, by decide⟩ dX12_odds_9 ?_
    show V z 12 [some (.ref a0), some (.int a1), some (.int a2), some (.int a3), none, none, none] [.int x3] M3 0 0
    refine v_if_eq (tgt := 24) hz dX12_odds_12 (by decide) (fun hc => ?_) (fun hc => ?_)
    · replace h := (if_pos hc).symm.trans h
      refine v_ldc2 hz wq_1241 dX12_odds_24 ?_
      obtain ⟨rfl, rfl⟩ := sp_inv h
      exact v_lret hz dX12_odds_27 (by decide) (by decide)
    · replace h := (if_neg hc).symm.trans h
      refine v_iload_n hz rfl rfl dX12_odds_15 ?_
      refine v_iconst hz (v := (0 : Int32)) (by decide) dX12_odds_16 ?_
      refine v_iconst hz (v := (1 : Int32)) (by decide) dX12_odds_17 ?_
      obtain ⟨x4, M4, e4, h⟩ := bd_inv h
      refine v_callS hz (As := [.int a3, .int (0 : Int32), .int (1 : Int32)]) sl_X12_108 (tX12_within (r + 4) e4) rfl rfl rfl (Nat.le_of_ble_eq_true rfl) ⟨by decide, by decide⟩ dX12_odds_18 ?_
      show V z 21 [some (.ref a0), some (.int a1), some (.int a2), some (.int a3), none, none, none] [.int x4] M4 0 0
      refine v_if_ne (tgt := 28) hz dX12_odds_21 (by decide) (fun hc => ?_) (fun hc => ?_)
      · replace h := (if_neg hc).symm.trans h
        refine v_iconst hz (v := (0 : Int32)) (by decide) dX12_odds_28 ?_
        refine v_istore hz (lw := [some (.ref a0), some (.int a1), some (.int a2), some (.int a3), some (.int (0 : Int32)), none, none]) (Nat.le_of_ble_eq_true rfl) rfl rfl dX12_odds_29 ?_
        refine v_iconst hz (v := (0 : Int32)) (by decide) dX12_odds_31 ?_
        refine v_istore hz (lw := [some (.ref a0), some (.int a1), some (.int a2), some (.int a3), some (.int (0 : Int32)), some (.int (0 : Int32)), none]) (Nat.le_of_ble_eq_true rfl) rfl rfl dX12_odds_32 ?_
        exact v_weak (lvle_s (lvle_s (lvle_s (lvle_s (lvle_s (lvle_s (lvle_n lvle_0))))))) (wX12_odds_34 hz   h)
      · replace h := (if_pos hc).symm.trans h
        refine v_ldc2 hz wq_1241 dX12_odds_24 ?_
        obtain ⟨rfl, rfl⟩ := sp_inv h
        exact v_lret hz dX12_odds_27 (by decide) (by decide)
noncomputable def gX12_mean_33  : Nat → Mem → Nat → Int32 → Int32 → Int32 → Option (Int64 × Mem)
  | 0, _, _, _, _, _ => none
  | n + 1, M, l0, l1, l2, l3 => if l1 ≤ l3 then (ck (isK M l0 12) <| bd (fX12_allWear M l0) fun x7 M7 => ck (isK M7 l0 12) <| rb (mR M7 l0 38) fun b9 => bd (fX12_again M7 l0 b9) fun x10 M10 => bd (fX12_part M10 x7 (25 : Int32) l2) fun x11 M11 => some (x11, M11)) else (ck (isK M l0 12) <| bd (fX12_goesHour M l0) fun x13 M13 => (gX12_mean_33 n) M13 l0 l1 l2 (l3 + (1 : Int32)))
noncomputable def fX12_mean (M : Mem) (a0 : Nat) (a1 : Int32) (a2 : Int32) : Option (Int64 × Mem) :=
  bd (fX12_within M a1 (0 : Int32) (40 : Int32)) fun x1 M1 => if x1 = 0 then (some ((-9223372036854775808 : Int64), M1)) else (bd (fX12_within M1 a2 (0 : Int32) (1 : Int32)) fun x2 M2 => if x2 = 0 then (some ((-9223372036854775808 : Int64), M2)) else (ck (isK M2 a0 12) <| rb (mR M2 a0 38) fun b4 => bd (fX12_keep M2 a0 b4) fun x5 M5 => gX12_mean_33 FU M5 a0 a1 a2 (0 : Int32)))
set_option maxRecDepth 100000 in
set_option maxHeartbeats 4000000 in
theorem gX12_mean_33_s  (n : Nat) (M : Mem) (l0 : Nat) (l1 : Int32) (l2 : Int32) (l3 : Int32) : gX12_mean_33  (n + 1) M l0 l1 l2 l3 = (if l1 ≤ l3 then (ck (isK M l0 12) <| bd (fX12_allWear M l0) fun x7 M7 => ck (isK M7 l0 12) <| rb (mR M7 l0 38) fun b9 => bd (fX12_again M7 l0 b9) fun x10 M10 => bd (fX12_part M10 x7 (25 : Int32) l2) fun x11 M11 => some (x11, M11)) else (ck (isK M l0 12) <| bd (fX12_goesHour M l0) fun x13 M13 => (gX12_mean_33 n) M13 l0 l1 l2 (l3 + (1 : Int32)))) := rfl
set_option maxRecDepth 100000 in
set_option maxHeartbeats 4000000 in
theorem wX12_mean_33 {z : Zx} {fx : Fx} {al : Bool} {r : Nat} {N : Mem} {xr : Int64} (hz : Zok z fx al yX12_mean.cls yX12_mean.name cX12_mean (some .long) 4 (r + 6) 0 0 (some (.long xr)) N)    : ∀ {n : Nat} {M : Mem} {l0 : Nat} {l1 : Int32} {l2 : Int32} {l3 : Int32}, gX12_mean_33  n M l0 l1 l2 l3 = some (xr, N) → V z 33 [some (.ref l0), some (.int l1), some (.int l2), some (.int l3)] [] M 0 0 := by
  intro n
  induction n with
  | zero => intro M l0 l1 l2 l3 h; cases h
  | succ n ih =>
    intro M l0 l1 l2 l3 h
    replace h := (gX12_mean_33_s  n M l0 l1 l2 l3).symm.trans h
    refine v_iload_n hz rfl rfl dX12_mean_33 ?_
    refine v_iload_n hz rfl rfl dX12_mean_34 ?_
    refine v_icmp_ge (tgt := 48) hz dX12_mean_35 (by decide) (fun hc => ?_) (fun hc => ?_)
    · replace h := (if_pos hc).symm.trans h
      refine v_aload_n hz rfl rfl dX12_mean_48 ?_
      obtain ⟨ck6, h⟩ := ck_inv h
      obtain ⟨ka6, kb6⟩ := isK_of ck6
      obtain ⟨x7, M7, e7, h⟩ := bd_inv h
      refine v_callV hz (As := []) vl_X12_244 (tX12_allWear (r + 5) e7) rfl (by decide) ka6 kb6 rfl rfl rfl (Nat.le_of_ble_eq_true rfl) ⟨by decide, by decide⟩ dX12_mean_49 ?_
      show V z 52 [some (.ref l0), some (.int l1), some (.int l2), some (.int l3)] [.int x7] M7 0 0
      refine v_istore_n hz (lw := [some (.ref l0), some (.int l1), some (.int l2), some (.int x7)]) rfl (Nat.le_of_ble_eq_true rfl) rfl rfl dX12_mean_52 ?_
      refine v_aload_n hz rfl rfl dX12_mean_53 ?_
      refine v_aload_n hz rfl rfl dX12_mean_54 ?_
      obtain ⟨ck8, h⟩ := ck_inv h
      obtain ⟨ka8, kb8⟩ := isK_of ck8
      obtain ⟨b9, r9, h⟩ := rb_inv h
      refine v_getR hz fl_X12_82 rfl dX12_mean_55 ka8 kb8 r9 ?_
      obtain ⟨x10, M10, e10, h⟩ := bd_inv h
      refine v_callV hz (As := [.ref b9]) vl_X12_257 (tX12_again (r + 5) e10) rfl (by decide) ka8 kb8 rfl rfl rfl (Nat.le_of_ble_eq_true rfl) ⟨by decide, by decide⟩ dX12_mean_58 ?_
      show V z 61 [some (.ref l0), some (.int l1), some (.int l2), some (.int x7)] [] M10 0 0
      refine v_iload_n hz rfl rfl dX12_mean_61 ?_
      refine v_bipush hz (v := (25 : Int32)) (by decide) dX12_mean_62 ?_
      refine v_iload_n hz rfl rfl dX12_mean_64 ?_
      obtain ⟨x11, M11, e11, h⟩ := bd_inv h
      refine v_callS hz (As := [.int x7, .int (25 : Int32), .int l2]) sl_X12_281 (tX12_part (r + 5) e11) rfl rfl rfl (Nat.le_of_ble_eq_true rfl) ⟨by decide, by decide⟩ dX12_mean_65 ?_
      show V z 68 [some (.ref l0), some (.int l1), some (.int l2), some (.int x7)] [.long x11] M11 0 0
      obtain ⟨rfl, rfl⟩ := sp_inv h
      exact v_lret hz dX12_mean_68 (by decide) (by decide)
    · replace h := (if_neg hc).symm.trans h
      refine v_aload_n hz rfl rfl dX12_mean_38 ?_
      obtain ⟨ck12, h⟩ := ck_inv h
      obtain ⟨ka12, kb12⟩ := isK_of ck12
      obtain ⟨x13, M13, e13, h⟩ := bd_inv h
      refine v_callV hz (As := []) vl_X12_250 (tX12_goesHour (r + 0) e13) rfl (by decide) ka12 kb12 rfl rfl rfl (Nat.le_of_ble_eq_true rfl) ⟨by decide, by decide⟩ dX12_mean_39 ?_
      show V z 42 [some (.ref l0), some (.int l1), some (.int l2), some (.int l3)] [] M13 0 0
      refine v_iinc hz (v := (l3 + (1 : Int32))) (lw := [some (.ref l0), some (.int l1), some (.int l2), some (.int (l3 + (1 : Int32)))]) rfl (congrArg (fun q => l3 + q) (show Int32.ofInt (1) = (1 : Int32) by decide)) rfl rfl dX12_mean_42 ?_
      refine v_goto (tgt := 33) hz dX12_mean_45 (by decide) ?_
      exact v_weak (lvle_s (lvle_s (lvle_s (lvle_s lvle_0)))) (ih h)
set_option maxRecDepth 100000 in
set_option maxHeartbeats 4000000 in
theorem tX12_mean (r : Nat) {fx : Fx} {al : Bool} {M N : Mem} {a0 : Nat} {a1 : Int32} {a2 : Int32} {xr : Int64}  (h : fX12_mean M a0 a1 a2 = some (xr, N)) : Ct fx yX12_mean cX12_mean 4 (some .long) (r + 6) 0 0 al [.ref a0, .int a1, .int a2] M (some (.long xr)) N := by
  refine ct_of (lv := [some (.ref a0), some (.int a1), some (.int a2), none]) (by decide) (Nat.le_of_ble_eq_true rfl) rfl rfl (fun z hz => ?_)
  unfold fX12_mean at h
  refine v_iload_n hz rfl rfl dX12_mean_0 ?_
  refine v_iconst hz (v := (0 : Int32)) (by decide) dX12_mean_1 ?_
  refine v_bipush hz (v := (40 : Int32)) (by decide) dX12_mean_2 ?_
  obtain ⟨x1, M1, e1, h⟩ := bd_inv h
  refine v_callS hz (As := [.int a1, .int (0 : Int32), .int (40 : Int32)]) sl_X12_108 (tX12_within (r + 5) e1) rfl rfl rfl (Nat.le_of_ble_eq_true rfl) ⟨by decide, by decide⟩ dX12_mean_4 ?_
  show V z 7 [some (.ref a0), some (.int a1), some (.int a2), none] [.int x1] M1 0 0
  refine v_if_eq (tgt := 19) hz dX12_mean_7 (by decide) (fun hc => ?_) (fun hc => ?_)
  · replace h := (if_pos hc).symm.trans h
    refine v_ldc2 hz wq_1241 dX12_mean_19 ?_
    obtain ⟨rfl, rfl⟩ := sp_inv h
    exact v_lret hz dX12_mean_22 (by decide) (by decide)
  · replace h := (if_neg hc).symm.trans h
    refine v_iload_n hz rfl rfl dX12_mean_10 ?_
    refine v_iconst hz (v := (0 : Int32)) (by decide) dX12_mean_11 ?_
    refine v_iconst hz (v := (1 : Int32)) (by decide) dX12_mean_12 ?_
    obtain ⟨x2, M2, e2, h⟩ := bd_inv h
    refine v_callS hz (As := [.int a2, .int (0 : Int32), .int (1 : Int32)]) sl_X12_108 (tX12_within (r + 5) e2) rfl rfl rfl (Nat.le_of_ble_eq_true rfl) ⟨by decide, by decide⟩ dX12_mean_13 ?_
    show V z 16 [some (.ref a0), some (.int a1), some (.int a2), none] [.int x2] M2 0 0
    refine v_if_ne (tgt := 23) hz dX12_mean_16 (by decide) (fun hc => ?_) (fun hc => ?_)
    · replace h := (if_neg hc).symm.trans h
      refine v_aload_n hz rfl rfl dX12_mean_23 ?_
      refine v_aload_n hz rfl rfl dX12_mean_24 ?_
      obtain ⟨ck3, h⟩ := ck_inv h
      obtain ⟨ka3, kb3⟩ := isK_of ck3
      obtain ⟨b4, r4, h⟩ := rb_inv h
      refine v_getR hz fl_X12_82 rfl dX12_mean_25 ka3 kb3 r4 ?_
      obtain ⟨x5, M5, e5, h⟩ := bd_inv h
      refine v_callV hz (As := [.ref b4]) vl_X12_253 (tX12_keep (r + 5) e5) rfl (by decide) ka3 kb3 rfl rfl rfl (Nat.le_of_ble_eq_true rfl) ⟨by decide, by decide⟩ dX12_mean_28 ?_
      show V z 31 [some (.ref a0), some (.int a1), some (.int a2), none] [] M5 0 0
      refine v_iconst hz (v := (0 : Int32)) (by decide) dX12_mean_31 ?_
      refine v_istore_n hz (lw := [some (.ref a0), some (.int a1), some (.int a2), some (.int (0 : Int32))]) rfl (Nat.le_of_ble_eq_true rfl) rfl rfl dX12_mean_32 ?_
      exact v_weak (lvle_s (lvle_s (lvle_s (lvle_s lvle_0)))) (wX12_mean_33 hz   h)
    · replace h := (if_pos hc).symm.trans h
      refine v_ldc2 hz wq_1241 dX12_mean_19 ?_
      obtain ⟨rfl, rfl⟩ := sp_inv h
      exact v_lret hz dX12_mean_22 (by decide) (by decide)
noncomputable def gX12_plan_48  (M : Mem) (l0 : Nat) (l1 : Int32) (l2 : Int32) : Option (Int32 × Mem) :=
  ck (isK M l0 12) <| if (mI M l0 28) = (10 : Int32) then (some ((-4 : Int32), M)) else (rb (mR M l0 29) fun b3 => ck (isK M b3 14) <| ck (inb (mI M l0 28) (mG M b3)) <| rb (mR (stI M b3 (mI M l0 28).toNatClampNeg l1) l0 30) fun b6 => if l1 = 0 then (ck (isK (stI (stI M b3 (mI M l0 28).toNatClampNeg l1) l0 28 ((mI (stI M b3 (mI M l0 28).toNatClampNeg l1) l0 28) + (1 : Int32))) b6 14) <| ck (inb (mI (stI M b3 (mI M l0 28).toNatClampNeg l1) l0 28) (mG (stI (stI M b3 (mI M l0 28).toNatClampNeg l1) l0 28 ((mI (stI M b3 (mI M l0 28).toNatClampNeg l1) l0 28) + (1 : Int32))) b6)) <| nm (stI (stI (stI M b3 (mI M l0 28).toNatClampNeg l1) l0 28 ((mI (stI M b3 (mI M l0 28).toNatClampNeg l1) l0 28) + (1 : Int32))) b6 (mI (stI M b3 (mI M l0 28).toNatClampNeg l1) l0 28).toNatClampNeg (0 : Int32)) fun M13 => ck (isK M13 l0 12) <| some ((mI M13 l0 28), M13)) else (ck (isK (stI (stI M b3 (mI M l0 28).toNatClampNeg l1) l0 28 ((mI (stI M b3 (mI M l0 28).toNatClampNeg l1) l0 28) + (1 : Int32))) b6 14) <| ck (inb (mI (stI M b3 (mI M l0 28).toNatClampNeg l1) l0 28) (mG (stI (stI M b3 (mI M l0 28).toNatClampNeg l1) l0 28 ((mI (stI M b3 (mI M l0 28).toNatClampNeg l1) l0 28) + (1 : Int32))) b6)) <| nm (stI (stI (stI M b3 (mI M l0 28).toNatClampNeg l1) l0 28 ((mI (stI M b3 (mI M l0 28).toNatClampNeg l1) l0 28) + (1 : Int32))) b6 (mI (stI M b3 (mI M l0 28).toNatClampNeg l1) l0 28).toNatClampNeg l2) fun M9 => ck (isK M9 l0 12) <| some ((mI M9 l0 28), M9)))
noncomputable def gX12_plan_33  (M : Mem) (l0 : Nat) (l1 : Int32) (l2 : Int32) : Option (Int32 × Mem) :=
  if l1 ≤ (1 : Int32) then (gX12_plan_48 M l0 l1 l2) else (ck (isK M l0 12) <| bd (fX12_isOne M l0 l2) fun x16 M16 => if x16 = 0 then (some ((-1 : Int32), M16)) else (gX12_plan_48 M16 l0 l1 l2))
noncomputable def fX12_plan (M : Mem) (a0 : Nat) (a1 : Int32) (a2 : Int32) : Option (Int32 × Mem) :=
  if a1 = (-1 : Int32) then (ck (isK M a0 12) <| some ((0 : Int32), (stI M a0 28 (0 : Int32)))) else (bd (fX12_within M a1 (0 : Int32) (3 : Int32)) fun x1 M1 => if x1 = 0 then (some ((-1 : Int32), M1)) else (if a1 = (1 : Int32) then (bd (fX12_isCell M1 a2) fun x17 M17 => if x17 = 0 then (some ((-1 : Int32), M17)) else (gX12_plan_33 M17 a0 a1 a2)) else (gX12_plan_33 M1 a0 a1 a2)))
set_option maxRecDepth 100000 in
set_option maxHeartbeats 4000000 in
theorem wX12_plan_48 {z : Zx} {fx : Fx} {al : Bool} {r : Nat} {N : Mem} {xr : Int32} (hz : Zok z fx al yX12_plan.cls yX12_plan.name cX12_plan (some .int) 3 (r + 2) 0 0 (some (.int xr)) N)    {M : Mem} {l0 : Nat} {l1 : Int32} {l2 : Int32} (h : gX12_plan_48  M l0 l1 l2 = some (xr, N)) : V z 48 [some (.ref l0), some (.int l1), some (.int l2)] [] M 0 0 := by
  unfold gX12_plan_48 at h
  refine v_aload_n hz rfl rfl dX12_plan_48 ?_
  obtain ⟨ck2, h⟩ := ck_inv h
  obtain ⟨ka2, kb2⟩ := isK_of ck2
  refine v_getI hz fl_X12_285 rfl dX12_plan_49 ka2 kb2 ?_
  refine v_bipush hz (v := (10 : Int32)) (by decide) dX12_plan_52 ?_
  refine v_icmp_ne (tgt := 60) hz dX12_plan_54 (by decide) (fun hc => ?_) (fun hc => ?_)
  · replace h := (if_neg hc).symm.trans h
    refine v_aload_n hz rfl rfl dX12_plan_60 ?_
    obtain ⟨b3, r3, h⟩ := rb_inv h
    refine v_getR hz fl_X12_64 rfl dX12_plan_61 ka2 kb2 r3 ?_
    refine v_aload_n hz rfl rfl dX12_plan_64 ?_
    refine v_getI hz fl_X12_285 rfl dX12_plan_65 ka2 kb2 ?_
    refine v_iload_n hz rfl rfl dX12_plan_68 ?_
    obtain ⟨ck4, h⟩ := ck_inv h
    obtain ⟨ka4, kb4⟩ := isK_of ck4
    obtain ⟨g5, h⟩ := ck_inv h
    refine v_iastore hz dX12_plan_69 ka4 kb4 g5 ?_
    refine v_aload_n hz rfl rfl dX12_plan_70 ?_
    obtain ⟨b6, r6, h⟩ := rb_inv h
    refine v_getR hz fl_X12_67 rfl dX12_plan_71 ka2 kb2 r6 ?_
    refine v_aload_n hz rfl rfl dX12_plan_74 ?_
    refine v_dup hz rfl dX12_plan_75 ?_
    refine v_getI hz fl_X12_285 rfl dX12_plan_76 ka2 kb2 ?_
    refine v_dup_x1 hz rfl rfl dX12_plan_79 ?_
    refine v_iconst hz (v := (1 : Int32)) (by decide) dX12_plan_80 ?_
    refine v_iadd hz dX12_plan_81 ?_
    refine v_putI hz fl_X12_285 ft_12_28 (by decide) rfl rfl rfl dX12_plan_82 ka2 kb2 ?_
    refine v_iload_n hz rfl rfl dX12_plan_85 ?_
    refine v_if_ne (tgt := 93) hz dX12_plan_86 (by decide) (fun hc => ?_) (fun hc => ?_)
    · replace h := (if_neg hc).symm.trans h
      refine v_iload_n hz rfl rfl dX12_plan_93 ?_
      obtain ⟨ck7, h⟩ := ck_inv h
      obtain ⟨ka7, kb7⟩ := isK_of ck7
      obtain ⟨g8, h⟩ := ck_inv h
      refine v_iastore hz dX12_plan_94 ka7 kb7 g8 ?_
      obtain ⟨M9, eM9, h⟩ := nm_inv h
      refine v_mem eM9.symm ?_
      refine v_aload_n hz rfl rfl dX12_plan_95 ?_
      obtain ⟨ck10, h⟩ := ck_inv h
      obtain ⟨ka10, kb10⟩ := isK_of ck10
      refine v_getI hz fl_X12_285 rfl dX12_plan_96 ka10 kb10 ?_
      obtain ⟨rfl, rfl⟩ := sp_inv h
      exact v_iret hz dX12_plan_99 (by decide) (by decide)
    · replace h := (if_pos hc).symm.trans h
      refine v_iconst hz (v := (0 : Int32)) (by decide) dX12_plan_89 ?_
      refine v_goto (tgt := 94) hz dX12_plan_90 (by decide) ?_
      obtain ⟨ck11, h⟩ := ck_inv h
      obtain ⟨ka11, kb11⟩ := isK_of ck11
      obtain ⟨g12, h⟩ := ck_inv h
      refine v_iastore hz dX12_plan_94 ka11 kb11 g12 ?_
      obtain ⟨M13, eM13, h⟩ := nm_inv h
      refine v_mem eM13.symm ?_
      refine v_aload_n hz rfl rfl dX12_plan_95 ?_
      obtain ⟨ck14, h⟩ := ck_inv h
      obtain ⟨ka14, kb14⟩ := isK_of ck14
      refine v_getI hz fl_X12_285 rfl dX12_plan_96 ka14 kb14 ?_
      obtain ⟨rfl, rfl⟩ := sp_inv h
      exact v_iret hz dX12_plan_99 (by decide) (by decide)
  · replace h := (if_pos hc).symm.trans h
    refine v_bipush hz (v := (-4 : Int32)) (by decide) dX12_plan_57 ?_
    obtain ⟨rfl, rfl⟩ := sp_inv h
    exact v_iret hz dX12_plan_59 (by decide) (by decide)
set_option maxRecDepth 100000 in
set_option maxHeartbeats 4000000 in
theorem wX12_plan_33 {z : Zx} {fx : Fx} {al : Bool} {r : Nat} {N : Mem} {xr : Int32} (hz : Zok z fx al yX12_plan.cls yX12_plan.name cX12_plan (some .int) 3 (r + 2) 0 0 (some (.int xr)) N)    {M : Mem} {l0 : Nat} {l1 : Int32} {l2 : Int32} (h : gX12_plan_33  M l0 l1 l2 = some (xr, N)) : V z 33 [some (.ref l0), some (.int l1), some (.int l2)] [] M 0 0 := by
  unfold gX12_plan_33 at h
  refine v_iload_n hz rfl rfl dX12_plan_33 ?_
  refine v_iconst hz (v := (1 : Int32)) (by decide) dX12_plan_34 ?_
  refine v_icmp_le (tgt := 48) hz dX12_plan_35 (by decide) (fun hc => ?_) (fun hc => ?_)
  · replace h := (if_pos hc).symm.trans h
    exact v_weak (lvle_s (lvle_s (lvle_s lvle_0))) (wX12_plan_48 hz   h)
  · replace h := (if_neg hc).symm.trans h
    refine v_aload_n hz rfl rfl dX12_plan_38 ?_
    refine v_iload_n hz rfl rfl dX12_plan_39 ?_
    obtain ⟨ck15, h⟩ := ck_inv h
    obtain ⟨ka15, kb15⟩ := isK_of ck15
    obtain ⟨x16, M16, e16, h⟩ := bd_inv h
    refine v_callV hz (As := [.int l2]) vl_X12_116 (tX12_isOne (r + 0) e16) rfl (by decide) ka15 kb15 rfl rfl rfl (Nat.le_of_ble_eq_true rfl) ⟨by decide, by decide⟩ dX12_plan_40 ?_
    show V z 43 [some (.ref l0), some (.int l1), some (.int l2)] [.int x16] M16 0 0
    refine v_if_ne (tgt := 48) hz dX12_plan_43 (by decide) (fun hc => ?_) (fun hc => ?_)
    · replace h := (if_neg hc).symm.trans h
      exact v_weak (lvle_s (lvle_s (lvle_s lvle_0))) (wX12_plan_48 hz   h)
    · replace h := (if_pos hc).symm.trans h
      refine v_iconst hz (v := (-1 : Int32)) (by decide) dX12_plan_46 ?_
      obtain ⟨rfl, rfl⟩ := sp_inv h
      exact v_iret hz dX12_plan_47 (by decide) (by decide)
set_option maxRecDepth 100000 in
set_option maxHeartbeats 4000000 in
theorem tX12_plan (r : Nat) {fx : Fx} {al : Bool} {M N : Mem} {a0 : Nat} {a1 : Int32} {a2 : Int32} {xr : Int32}  (h : fX12_plan M a0 a1 a2 = some (xr, N)) : Ct fx yX12_plan cX12_plan 3 (some .int) (r + 2) 0 0 al [.ref a0, .int a1, .int a2] M (some (.int xr)) N := by
  refine ct_of (lv := [some (.ref a0), some (.int a1), some (.int a2)]) (by decide) (Nat.le_of_ble_eq_true rfl) rfl rfl (fun z hz => ?_)
  unfold fX12_plan at h
  refine v_iload_n hz rfl rfl dX12_plan_0 ?_
  refine v_iconst hz (v := (-1 : Int32)) (by decide) dX12_plan_1 ?_
  refine v_icmp_ne (tgt := 12) hz dX12_plan_2 (by decide) (fun hc => ?_) (fun hc => ?_)
  · replace h := (if_neg hc).symm.trans h
    refine v_iload_n hz rfl rfl dX12_plan_12 ?_
    refine v_iconst hz (v := (0 : Int32)) (by decide) dX12_plan_13 ?_
    refine v_iconst hz (v := (3 : Int32)) (by decide) dX12_plan_14 ?_
    obtain ⟨x1, M1, e1, h⟩ := bd_inv h
    refine v_callS hz (As := [.int a1, .int (0 : Int32), .int (3 : Int32)]) sl_X12_108 (tX12_within (r + 1) e1) rfl rfl rfl (Nat.le_of_ble_eq_true rfl) ⟨by decide, by decide⟩ dX12_plan_15 ?_
    show V z 18 [some (.ref a0), some (.int a1), some (.int a2)] [.int x1] M1 0 0
    refine v_if_eq (tgt := 46) hz dX12_plan_18 (by decide) (fun hc => ?_) (fun hc => ?_)
    · replace h := (if_pos hc).symm.trans h
      refine v_iconst hz (v := (-1 : Int32)) (by decide) dX12_plan_46 ?_
      obtain ⟨rfl, rfl⟩ := sp_inv h
      exact v_iret hz dX12_plan_47 (by decide) (by decide)
    · replace h := (if_neg hc).symm.trans h
      refine v_iload_n hz rfl rfl dX12_plan_21 ?_
      refine v_iconst hz (v := (1 : Int32)) (by decide) dX12_plan_22 ?_
      refine v_icmp_ne (tgt := 33) hz dX12_plan_23 (by decide) (fun hc => ?_) (fun hc => ?_)
      · replace h := (if_neg hc).symm.trans h
        exact v_weak (lvle_s (lvle_s (lvle_s lvle_0))) (wX12_plan_33 hz   h)
      · replace h := (if_pos hc).symm.trans h
        refine v_iload_n hz rfl rfl dX12_plan_26 ?_
        obtain ⟨x17, M17, e17, h⟩ := bd_inv h
        refine v_callS hz (As := [.int a2]) sl_X12_112 (tX12_isCell (r + 0) e17) rfl rfl rfl (Nat.le_of_ble_eq_true rfl) ⟨by decide, by decide⟩ dX12_plan_27 ?_
        show V z 30 [some (.ref a0), some (.int a1), some (.int a2)] [.int x17] M17 0 0
        refine v_if_eq (tgt := 46) hz dX12_plan_30 (by decide) (fun hc => ?_) (fun hc => ?_)
        · replace h := (if_pos hc).symm.trans h
          refine v_iconst hz (v := (-1 : Int32)) (by decide) dX12_plan_46 ?_
          obtain ⟨rfl, rfl⟩ := sp_inv h
          exact v_iret hz dX12_plan_47 (by decide) (by decide)
        · replace h := (if_neg hc).symm.trans h
          exact v_weak (lvle_s (lvle_s (lvle_s lvle_0))) (wX12_plan_33 hz   h)
  · replace h := (if_pos hc).symm.trans h
    refine v_aload_n hz rfl rfl dX12_plan_5 ?_
    refine v_iconst hz (v := (0 : Int32)) (by decide) dX12_plan_6 ?_
    obtain ⟨ck18, h⟩ := ck_inv h
    obtain ⟨ka18, kb18⟩ := isK_of ck18
    refine v_putI hz fl_X12_285 ft_12_28 (by decide) rfl rfl rfl dX12_plan_7 ka18 kb18 ?_
    refine v_iconst hz (v := (0 : Int32)) (by decide) dX12_plan_10 ?_
    obtain ⟨rfl, rfl⟩ := sp_inv h
    exact v_iret hz dX12_plan_11 (by decide) (by decide)
noncomputable def gX12_ends_125  (M : Mem) (l0 : Nat) (s0 : Int32) : Option (Int32 × Mem) :=
  ck (isK M l0 12) <| rb (mR M l0 38) fun b8 => bd (fX12_again M l0 b8) fun x9 M9 => some (s0, M9)
noncomputable def gX12_ends_104 (K21 : Mem → Nat → Int32 → Int32 → Option (Int32 × Mem)) (M : Mem) (l0 : Nat) (l1 : Int32) (l2 : Int32) : Option (Int32 × Mem) :=
  K21 M l0 l1 (l2 + (1 : Int32))
noncomputable def gX12_ends_103 (K21 : Mem → Nat → Int32 → Int32 → Option (Int32 × Mem)) (M : Mem) (l0 : Nat) (l1 : Int32) (l2 : Int32) (s0 : Int32) (s1 : Int32) (s2 : Nat) : Option (Int32 × Mem) :=
  ck (isK M s2 14) <| ck (inb s1 (mG M s2)) <| gX12_ends_104 K21 (stI M s2 s1.toNatClampNeg s0) l0 l1 l2
noncomputable def gX12_ends_21  : Nat → Mem → Nat → Int32 → Int32 → Option (Int32 × Mem)
  | 0, _, _, _, _ => none
  | n + 1, M, l0, l1, l2 => ck (isK M l0 12) <| if (mI M l0 28) ≤ l2 then (if l1 = 0 then (bd (fX12_allWear M l0) fun x10 M10 => gX12_ends_125 M10 l0 x10) else (bd (fX12_balds M l0) fun x6 M6 => gX12_ends_125 M6 l0 x6)) else (rb (mR M l0 30) fun b11 => ck (isK M b11 14) <| ck (inb l2 (mG M b11)) <| rb (mR M l0 29) fun b14 => ck (isK M b14 14) <| ck (inb l2 (mG M b14)) <| if (mI M b14 l2.toNatClampNeg) = 0 then (bd (fX12_goesHour M l0) fun x28 M28 => gX12_ends_104 (gX12_ends_21 n) M28 l0 l1 l2) else (ck (inb l2 (mG M b14)) <| if (mI M b14 l2.toNatClampNeg) = (1 : Int32) then (rb (mR M l0 0) fun b22 => ck (isK M b22 14) <| ck (inb (mI M b11 l2.toNatClampNeg) (mG M b22)) <| bd (fX12_held M ((mI M b22 (mI M b11 l2.toNatClampNeg).toNatClampNeg) + (10 : Int32))) fun x25 M25 => ck (isK M25 b22 14) <| ck (inb (mI M b11 l2.toNatClampNeg) (mG M25 b22)) <| gX12_ends_104 (gX12_ends_21 n) (stI M25 b22 (mI M b11 l2.toNatClampNeg).toNatClampNeg x25) l0 l1 l2) else (rb (mR M l0 5) fun b18 => ck (inb l2 (mG M b14)) <| if (mI M b14 l2.toNatClampNeg) = (2 : Int32) then (gX12_ends_103 (gX12_ends_21 n) M l0 l1 l2 (1 : Int32) (mI M b11 l2.toNatClampNeg) b18) else (gX12_ends_103 (gX12_ends_21 n) M l0 l1 l2 (0 : Int32) (mI M b11 l2.toNatClampNeg) b18))))
noncomputable def fX12_ends (M : Mem) (a0 : Nat) (a1 : Int32) : Option (Int32 × Mem) :=
  bd (fX12_within M a1 (0 : Int32) (1 : Int32)) fun x1 M1 => if x1 = 0 then (some ((-1 : Int32), M1)) else (ck (isK M1 a0 12) <| rb (mR M1 a0 38) fun b3 => bd (fX12_keep M1 a0 b3) fun x4 M4 => gX12_ends_21 FU M4 a0 a1 (0 : Int32))
set_option maxRecDepth 100000 in
set_option maxHeartbeats 4000000 in
theorem wX12_ends_125 {z : Zx} {fx : Fx} {al : Bool} {r : Nat} {N : Mem} {xr : Int32} (hz : Zok z fx al yX12_ends.cls yX12_ends.name cX12_ends (some .int) 4 (r + 6) 0 0 (some (.int xr)) N)    {M : Mem} {l0 : Nat} {s0 : Int32} (h : gX12_ends_125  M l0 s0 = some (xr, N)) : V z 125 [some (.ref l0), none, none, none] [.int s0] M 0 0 := by
  unfold gX12_ends_125 at h
  refine v_istore_n hz (lw := [some (.ref l0), none, some (.int s0), none]) rfl (Nat.le_of_ble_eq_true rfl) rfl rfl dX12_ends_125 ?_
  refine v_aload_n hz rfl rfl dX12_ends_126 ?_
  refine v_aload_n hz rfl rfl dX12_ends_127 ?_
  obtain ⟨ck7, h⟩ := ck_inv h
  obtain ⟨ka7, kb7⟩ := isK_of ck7
  obtain ⟨b8, r8, h⟩ := rb_inv h
  refine v_getR hz fl_X12_82 rfl dX12_ends_128 ka7 kb7 r8 ?_
  obtain ⟨x9, M9, e9, h⟩ := bd_inv h
  refine v_callV hz (As := [.ref b8]) vl_X12_257 (tX12_again (r + 5) e9) rfl (by decide) ka7 kb7 rfl rfl rfl (Nat.le_of_ble_eq_true rfl) ⟨by decide, by decide⟩ dX12_ends_131 ?_
  show V z 134 [some (.ref l0), none, some (.int s0), none] [] M9 0 0
  refine v_iload_n hz rfl rfl dX12_ends_134 ?_
  obtain ⟨rfl, rfl⟩ := sp_inv h
  exact v_iret hz dX12_ends_135 (by decide) (by decide)
set_option maxRecDepth 100000 in
set_option maxHeartbeats 4000000 in
theorem wX12_ends_104 {z : Zx} {fx : Fx} {al : Bool} {r : Nat} {N : Mem} {xr : Int32} (hz : Zok z fx al yX12_ends.cls yX12_ends.name cX12_ends (some .int) 4 (r + 6) 0 0 (some (.int xr)) N)  {K21 : Mem → Nat → Int32 → Int32 → Option (Int32 × Mem)} (hK21 : ∀ {M : Mem} {l0 : Nat} {l1 : Int32} {l2 : Int32}, K21 M l0 l1 l2 = some (xr, N) → V z 21 [some (.ref l0), some (.int l1), some (.int l2), none] [] M 0 0) {M : Mem} {l0 : Nat} {l1 : Int32} {l2 : Int32} (h : gX12_ends_104 K21 M l0 l1 l2 = some (xr, N)) : V z 104 [some (.ref l0), some (.int l1), some (.int l2), none] [] M 0 0 := by
  unfold gX12_ends_104 at h
  refine v_iinc hz (v := (l2 + (1 : Int32))) (lw := [some (.ref l0), some (.int l1), some (.int (l2 + (1 : Int32))), none]) rfl (congrArg (fun q => l2 + q) (show Int32.ofInt (1) = (1 : Int32) by decide)) rfl rfl dX12_ends_104 ?_
  refine v_goto (tgt := 21) hz dX12_ends_107 (by decide) ?_
  exact v_weak (lvle_s (lvle_s (lvle_s (lvle_n lvle_0)))) (hK21 h)
set_option maxRecDepth 100000 in
set_option maxHeartbeats 4000000 in
theorem wX12_ends_103 {z : Zx} {fx : Fx} {al : Bool} {r : Nat} {N : Mem} {xr : Int32} (hz : Zok z fx al yX12_ends.cls yX12_ends.name cX12_ends (some .int) 4 (r + 6) 0 0 (some (.int xr)) N)  {K21 : Mem → Nat → Int32 → Int32 → Option (Int32 × Mem)} (hK21 : ∀ {M : Mem} {l0 : Nat} {l1 : Int32} {l2 : Int32}, K21 M l0 l1 l2 = some (xr, N) → V z 21 [some (.ref l0), some (.int l1), some (.int l2), none] [] M 0 0) {M : Mem} {l0 : Nat} {l1 : Int32} {l2 : Int32} {s0 : Int32} {s1 : Int32} {s2 : Nat} (h : gX12_ends_103 K21 M l0 l1 l2 s0 s1 s2 = some (xr, N)) : V z 103 [some (.ref l0), some (.int l1), some (.int l2), none] [.int s0, .int s1, .ref s2] M 0 0 := by
  unfold gX12_ends_103 at h
  obtain ⟨ck20, h⟩ := ck_inv h
  obtain ⟨ka20, kb20⟩ := isK_of ck20
  obtain ⟨g21, h⟩ := ck_inv h
  refine v_iastore hz dX12_ends_103 ka20 kb20 g21 ?_
  exact v_weak (lvle_s (lvle_s (lvle_s (lvle_n lvle_0)))) (wX12_ends_104 hz  (fun h => hK21 h) h)
set_option maxRecDepth 100000 in
set_option maxHeartbeats 4000000 in
theorem gX12_ends_21_s  (n : Nat) (M : Mem) (l0 : Nat) (l1 : Int32) (l2 : Int32) : gX12_ends_21  (n + 1) M l0 l1 l2 = (ck (isK M l0 12) <| if (mI M l0 28) ≤ l2 then (if l1 = 0 then (bd (fX12_allWear M l0) fun x10 M10 => gX12_ends_125 M10 l0 x10) else (bd (fX12_balds M l0) fun x6 M6 => gX12_ends_125 M6 l0 x6)) else (rb (mR M l0 30) fun b11 => ck (isK M b11 14) <| ck (inb l2 (mG M b11)) <| rb (mR M l0 29) fun b14 => ck (isK M b14 14) <| ck (inb l2 (mG M b14)) <| if (mI M b14 l2.toNatClampNeg) = 0 then (bd (fX12_goesHour M l0) fun x28 M28 => gX12_ends_104 (gX12_ends_21 n) M28 l0 l1 l2) else (ck (inb l2 (mG M b14)) <| if (mI M b14 l2.toNatClampNeg) = (1 : Int32) then (rb (mR M l0 0) fun b22 => ck (isK M b22 14) <| ck (inb (mI M b11 l2.toNatClampNeg) (mG M b22)) <| bd (fX12_held M ((mI M b22 (mI M b11 l2.toNatClampNeg).toNatClampNeg) + (10 : Int32))) fun x25 M25 => ck (isK M25 b22 14) <| ck (inb (mI M b11 l2.toNatClampNeg) (mG M25 b22)) <| gX12_ends_104 (gX12_ends_21 n) (stI M25 b22 (mI M b11 l2.toNatClampNeg).toNatClampNeg x25) l0 l1 l2) else (rb (mR M l0 5) fun b18 => ck (inb l2 (mG M b14)) <| if (mI M b14 l2.toNatClampNeg) = (2 : Int32) then (gX12_ends_103 (gX12_ends_21 n) M l0 l1 l2 (1 : Int32) (mI M b11 l2.toNatClampNeg) b18) else (gX12_ends_103 (gX12_ends_21 n) M l0 l1 l2 (0 : Int32) (mI M b11 l2.toNatClampNeg) b18))))) := rfl
set_option maxRecDepth 100000 in
set_option maxHeartbeats 4000000 in
theorem wX12_ends_21 {z : Zx} {fx : Fx} {al : Bool} {r : Nat} {N : Mem} {xr : Int32} (hz : Zok z fx al yX12_ends.cls yX12_ends.name cX12_ends (some .int) 4 (r + 6) 0 0 (some (.int xr)) N)    : ∀ {n : Nat} {M : Mem} {l0 : Nat} {l1 : Int32} {l2 : Int32}, gX12_ends_21  n M l0 l1 l2 = some (xr, N) → V z 21 [some (.ref l0), some (.int l1), some (.int l2), none] [] M 0 0 := by
  intro n
  induction n with
  | zero => intro M l0 l1 l2 h; cases h
  | succ n ih =>
    intro M l0 l1 l2 h
    replace h := (gX12_ends_21_s  n M l0 l1 l2).symm.trans h
    refine v_iload_n hz rfl rfl dX12_ends_21 ?_
    refine v_aload_n hz rfl rfl dX12_ends_22 ?_
    obtain ⟨ck5, h⟩ := ck_inv h
    obtain ⟨ka5, kb5⟩ := isK_of ck5
    refine v_getI hz fl_X12_285 rfl dX12_ends_23 ka5 kb5 ?_
    refine v_icmp_ge (tgt := 110) hz dX12_ends_26 (by decide) (fun hc => ?_) (fun hc => ?_)
    · replace h := (if_pos hc).symm.trans h
      refine v_iload_n hz rfl rfl dX12_ends_110 ?_
      refine v_if_ne (tgt := 121) hz dX12_ends_111 (by decide) (fun hc => ?_) (fun hc => ?_)
      · replace h := (if_neg hc).symm.trans h
        refine v_aload_n hz rfl rfl dX12_ends_121 ?_
        obtain ⟨x6, M6, e6, h⟩ := bd_inv h
        refine v_callV hz (As := []) vl_X12_241 (tX12_balds (r + 3) e6) rfl (by decide) ka5 kb5 rfl rfl rfl (Nat.le_of_ble_eq_true rfl) ⟨by decide, by decide⟩ dX12_ends_122 ?_
        show V z 125 [some (.ref l0), some (.int l1), some (.int l2), none] [.int x6] M6 0 0
        exact v_weak (lvle_s (lvle_n (lvle_n (lvle_n lvle_0)))) (wX12_ends_125 hz   h)
      · replace h := (if_pos hc).symm.trans h
        refine v_aload_n hz rfl rfl dX12_ends_114 ?_
        obtain ⟨x10, M10, e10, h⟩ := bd_inv h
        refine v_callV hz (As := []) vl_X12_244 (tX12_allWear (r + 5) e10) rfl (by decide) ka5 kb5 rfl rfl rfl (Nat.le_of_ble_eq_true rfl) ⟨by decide, by decide⟩ dX12_ends_115 ?_
        show V z 118 [some (.ref l0), some (.int l1), some (.int l2), none] [.int x10] M10 0 0
        refine v_goto (tgt := 125) hz dX12_ends_118 (by decide) ?_
        exact v_weak (lvle_s (lvle_n (lvle_n (lvle_n lvle_0)))) (wX12_ends_125 hz   h)
    · replace h := (if_neg hc).symm.trans h
      refine v_aload_n hz rfl rfl dX12_ends_29 ?_
      obtain ⟨b11, r11, h⟩ := rb_inv h
      refine v_getR hz fl_X12_67 rfl dX12_ends_30 ka5 kb5 r11 ?_
      refine v_iload_n hz rfl rfl dX12_ends_33 ?_
      obtain ⟨ck12, h⟩ := ck_inv h
      obtain ⟨ka12, kb12⟩ := isK_of ck12
      obtain ⟨g13, h⟩ := ck_inv h
      refine v_iaload hz dX12_ends_34 ka12 kb12 g13 ?_
      refine v_istore_n hz (lw := [some (.ref l0), some (.int l1), some (.int l2), some (.int (mI M b11 l2.toNatClampNeg))]) rfl (Nat.le_of_ble_eq_true rfl) rfl rfl dX12_ends_35 ?_
      refine v_aload_n hz rfl rfl dX12_ends_36 ?_
      obtain ⟨b14, r14, h⟩ := rb_inv h
      refine v_getR hz fl_X12_64 rfl dX12_ends_37 ka5 kb5 r14 ?_
      refine v_iload_n hz rfl rfl dX12_ends_40 ?_
      obtain ⟨ck15, h⟩ := ck_inv h
      obtain ⟨ka15, kb15⟩ := isK_of ck15
      obtain ⟨g16, h⟩ := ck_inv h
      refine v_iaload hz dX12_ends_41 ka15 kb15 g16 ?_
      refine v_if_ne (tgt := 52) hz dX12_ends_42 (by decide) (fun hc => ?_) (fun hc => ?_)
      · replace h := (if_neg hc).symm.trans h
        refine v_aload_n hz rfl rfl dX12_ends_52 ?_
        refine v_getR hz fl_X12_64 rfl dX12_ends_53 ka5 kb5 r14 ?_
        refine v_iload_n hz rfl rfl dX12_ends_56 ?_
        obtain ⟨g17, h⟩ := ck_inv h
        refine v_iaload hz dX12_ends_57 ka15 kb15 g17 ?_
        refine v_iconst hz (v := (1 : Int32)) (by decide) dX12_ends_58 ?_
        refine v_icmp_ne (tgt := 83) hz dX12_ends_59 (by decide) (fun hc => ?_) (fun hc => ?_)
        · replace h := (if_neg hc).symm.trans h
          refine v_aload_n hz rfl rfl dX12_ends_83 ?_
          obtain ⟨b18, r18, h⟩ := rb_inv h
          refine v_getR hz fl_X12_24 rfl dX12_ends_84 ka5 kb5 r18 ?_
          refine v_iload_n hz rfl rfl dX12_ends_87 ?_
          refine v_aload_n hz rfl rfl dX12_ends_88 ?_
          refine v_getR hz fl_X12_64 rfl dX12_ends_89 ka5 kb5 r14 ?_
          refine v_iload_n hz rfl rfl dX12_ends_92 ?_
          obtain ⟨g19, h⟩ := ck_inv h
          refine v_iaload hz dX12_ends_93 ka15 kb15 g19 ?_
          refine v_iconst hz (v := (2 : Int32)) (by decide) dX12_ends_94 ?_
          refine v_icmp_ne (tgt := 102) hz dX12_ends_95 (by decide) (fun hc => ?_) (fun hc => ?_)
          · replace h := (if_neg hc).symm.trans h
            refine v_iconst hz (v := (0 : Int32)) (by decide) dX12_ends_102 ?_
            exact v_weak (lvle_s (lvle_s (lvle_s (lvle_n lvle_0)))) (wX12_ends_103 hz  (fun h => ih h) h)
          · replace h := (if_pos hc).symm.trans h
            refine v_iconst hz (v := (1 : Int32)) (by decide) dX12_ends_98 ?_
            refine v_goto (tgt := 103) hz dX12_ends_99 (by decide) ?_
            exact v_weak (lvle_s (lvle_s (lvle_s (lvle_n lvle_0)))) (wX12_ends_103 hz  (fun h => ih h) h)
        · replace h := (if_pos hc).symm.trans h
          refine v_aload_n hz rfl rfl dX12_ends_62 ?_
          obtain ⟨b22, r22, h⟩ := rb_inv h
          refine v_getR hz fl_X12_9 rfl dX12_ends_63 ka5 kb5 r22 ?_
          refine v_iload_n hz rfl rfl dX12_ends_66 ?_
          refine v_aload_n hz rfl rfl dX12_ends_67 ?_
          refine v_getR hz fl_X12_9 rfl dX12_ends_68 ka5 kb5 r22 ?_
          refine v_iload_n hz rfl rfl dX12_ends_71 ?_
          obtain ⟨ck23, h⟩ := ck_inv h
          obtain ⟨ka23, kb23⟩ := isK_of ck23
          obtain ⟨g24, h⟩ := ck_inv h
          refine v_iaload hz dX12_ends_72 ka23 kb23 g24 ?_
          refine v_bipush hz (v := (10 : Int32)) (by decide) dX12_ends_73 ?_
          refine v_iadd hz dX12_ends_75 ?_
          obtain ⟨x25, M25, e25, h⟩ := bd_inv h
          refine v_callS hz (As := [.int ((mI M b22 (mI M b11 l2.toNatClampNeg).toNatClampNeg) + (10 : Int32))]) sl_X12_238 (tX12_held (r + 4) e25) rfl rfl rfl (Nat.le_of_ble_eq_true rfl) ⟨by decide, by decide⟩ dX12_ends_76 ?_
          show V z 79 [some (.ref l0), some (.int l1), some (.int l2), some (.int (mI M b11 l2.toNatClampNeg))] [.int x25, .int (mI M b11 l2.toNatClampNeg), .ref b22] M25 0 0
          obtain ⟨ck26, h⟩ := ck_inv h
          obtain ⟨ka26, kb26⟩ := isK_of ck26
          obtain ⟨g27, h⟩ := ck_inv h
          refine v_iastore hz dX12_ends_79 ka26 kb26 g27 ?_
          refine v_goto (tgt := 104) hz dX12_ends_80 (by decide) ?_
          exact v_weak (lvle_s (lvle_s (lvle_s (lvle_n lvle_0)))) (wX12_ends_104 hz  (fun h => ih h) h)
      · replace h := (if_pos hc).symm.trans h
        refine v_aload_n hz rfl rfl dX12_ends_45 ?_
        obtain ⟨x28, M28, e28, h⟩ := bd_inv h
        refine v_callV hz (As := []) vl_X12_250 (tX12_goesHour (r + 0) e28) rfl (by decide) ka5 kb5 rfl rfl rfl (Nat.le_of_ble_eq_true rfl) ⟨by decide, by decide⟩ dX12_ends_46 ?_
        show V z 49 [some (.ref l0), some (.int l1), some (.int l2), some (.int (mI M b11 l2.toNatClampNeg))] [] M28 0 0
        refine v_goto (tgt := 104) hz dX12_ends_49 (by decide) ?_
        exact v_weak (lvle_s (lvle_s (lvle_s (lvle_n lvle_0)))) (wX12_ends_104 hz  (fun h => ih h) h)
set_option maxRecDepth 100000 in
set_option maxHeartbeats 4000000 in
theorem tX12_ends (r : Nat) {fx : Fx} {al : Bool} {M N : Mem} {a0 : Nat} {a1 : Int32} {xr : Int32}  (h : fX12_ends M a0 a1 = some (xr, N)) : Ct fx yX12_ends cX12_ends 4 (some .int) (r + 6) 0 0 al [.ref a0, .int a1] M (some (.int xr)) N := by
  refine ct_of (lv := [some (.ref a0), some (.int a1), none, none]) (by decide) (Nat.le_of_ble_eq_true rfl) rfl rfl (fun z hz => ?_)
  unfold fX12_ends at h
  refine v_iload_n hz rfl rfl dX12_ends_0 ?_
  refine v_iconst hz (v := (0 : Int32)) (by decide) dX12_ends_1 ?_
  refine v_iconst hz (v := (1 : Int32)) (by decide) dX12_ends_2 ?_
  obtain ⟨x1, M1, e1, h⟩ := bd_inv h
  refine v_callS hz (As := [.int a1, .int (0 : Int32), .int (1 : Int32)]) sl_X12_108 (tX12_within (r + 5) e1) rfl rfl rfl (Nat.le_of_ble_eq_true rfl) ⟨by decide, by decide⟩ dX12_ends_3 ?_
  show V z 6 [some (.ref a0), some (.int a1), none, none] [.int x1] M1 0 0
  refine v_if_ne (tgt := 11) hz dX12_ends_6 (by decide) (fun hc => ?_) (fun hc => ?_)
  · replace h := (if_neg hc).symm.trans h
    refine v_aload_n hz rfl rfl dX12_ends_11 ?_
    refine v_aload_n hz rfl rfl dX12_ends_12 ?_
    obtain ⟨ck2, h⟩ := ck_inv h
    obtain ⟨ka2, kb2⟩ := isK_of ck2
    obtain ⟨b3, r3, h⟩ := rb_inv h
    refine v_getR hz fl_X12_82 rfl dX12_ends_13 ka2 kb2 r3 ?_
    obtain ⟨x4, M4, e4, h⟩ := bd_inv h
    refine v_callV hz (As := [.ref b3]) vl_X12_253 (tX12_keep (r + 5) e4) rfl (by decide) ka2 kb2 rfl rfl rfl (Nat.le_of_ble_eq_true rfl) ⟨by decide, by decide⟩ dX12_ends_16 ?_
    show V z 19 [some (.ref a0), some (.int a1), none, none] [] M4 0 0
    refine v_iconst hz (v := (0 : Int32)) (by decide) dX12_ends_19 ?_
    refine v_istore_n hz (lw := [some (.ref a0), some (.int a1), some (.int (0 : Int32)), none]) rfl (Nat.le_of_ble_eq_true rfl) rfl rfl dX12_ends_20 ?_
    exact v_weak (lvle_s (lvle_s (lvle_s (lvle_n lvle_0)))) (wX12_ends_21 hz   h)
  · replace h := (if_pos hc).symm.trans h
    refine v_iconst hz (v := (-1 : Int32)) (by decide) dX12_ends_9 ?_
    obtain ⟨rfl, rfl⟩ := sp_inv h
    exact v_iret hz dX12_ends_10 (by decide) (by decide)
noncomputable def fX12_book (M : Mem) (a0 : Nat) (a1 : Int32) (a2 : Int32) : Option (Int32 × Mem) :=
  if a1 = (-1 : Int32) then (ck (isK M a0 12) <| some ((0 : Int32), (stI M a0 31 (0 : Int32)))) else (ck (isK M a0 12) <| bd (fX12_isOne M a0 a1) fun x2 M2 => if x2 = 0 then (some ((-1 : Int32), M2)) else (bd (fX12_isCell M2 a2) fun x3 M3 => if x3 = 0 then (some ((-1 : Int32), M3)) else (ck (isK M3 a0 12) <| if (mI M3 a0 31) = (8 : Int32) then (some ((-4 : Int32), M3)) else (rb (mR M3 a0 32) fun b5 => ck (isK M3 b5 14) <| ck (inb (mI M3 a0 31) (mG M3 b5)) <| rb (mR (stI M3 b5 (mI M3 a0 31).toNatClampNeg a1) a0 33) fun b8 => ck (isK M3 b8 14) <| ck (inb (mI (stI M3 b5 (mI M3 a0 31).toNatClampNeg a1) a0 31) (mG M3 b8)) <| nm (stI (stI (stI M3 b5 (mI M3 a0 31).toNatClampNeg a1) a0 31 ((mI (stI M3 b5 (mI M3 a0 31).toNatClampNeg a1) a0 31) + (1 : Int32))) b8 (mI (stI M3 b5 (mI M3 a0 31).toNatClampNeg a1) a0 31).toNatClampNeg a2) fun M11 => ck (isK M11 a0 12) <| some ((mI M11 a0 31), M11)))))
set_option maxRecDepth 100000 in
set_option maxHeartbeats 4000000 in
theorem tX12_book (r : Nat) {fx : Fx} {al : Bool} {M N : Mem} {a0 : Nat} {a1 : Int32} {a2 : Int32} {xr : Int32}  (h : fX12_book M a0 a1 a2 = some (xr, N)) : Ct fx yX12_book cX12_book 3 (some .int) (r + 2) 0 0 al [.ref a0, .int a1, .int a2] M (some (.int xr)) N := by
  refine ct_of (lv := [some (.ref a0), some (.int a1), some (.int a2)]) (by decide) (Nat.le_of_ble_eq_true rfl) rfl rfl (fun z hz => ?_)
  unfold fX12_book at h
  refine v_iload_n hz rfl rfl dX12_book_0 ?_
  refine v_iconst hz (v := (-1 : Int32)) (by decide) dX12_book_1 ?_
  refine v_icmp_ne (tgt := 12) hz dX12_book_2 (by decide) (fun hc => ?_) (fun hc => ?_)
  · replace h := (if_neg hc).symm.trans h
    refine v_aload_n hz rfl rfl dX12_book_12 ?_
    refine v_iload_n hz rfl rfl dX12_book_13 ?_
    obtain ⟨ck1, h⟩ := ck_inv h
    obtain ⟨ka1, kb1⟩ := isK_of ck1
    obtain ⟨x2, M2, e2, h⟩ := bd_inv h
    refine v_callV hz (As := [.int a1]) vl_X12_116 (tX12_isOne (r + 0) e2) rfl (by decide) ka1 kb1 rfl rfl rfl (Nat.le_of_ble_eq_true rfl) ⟨by decide, by decide⟩ dX12_book_14 ?_
    show V z 17 [some (.ref a0), some (.int a1), some (.int a2)] [.int x2] M2 0 0
    refine v_if_eq (tgt := 27) hz dX12_book_17 (by decide) (fun hc => ?_) (fun hc => ?_)
    · replace h := (if_pos hc).symm.trans h
      refine v_iconst hz (v := (-1 : Int32)) (by decide) dX12_book_27 ?_
      obtain ⟨rfl, rfl⟩ := sp_inv h
      exact v_iret hz dX12_book_28 (by decide) (by decide)
    · replace h := (if_neg hc).symm.trans h
      refine v_iload_n hz rfl rfl dX12_book_20 ?_
      obtain ⟨x3, M3, e3, h⟩ := bd_inv h
      refine v_callS hz (As := [.int a2]) sl_X12_112 (tX12_isCell (r + 0) e3) rfl rfl rfl (Nat.le_of_ble_eq_true rfl) ⟨by decide, by decide⟩ dX12_book_21 ?_
      show V z 24 [some (.ref a0), some (.int a1), some (.int a2)] [.int x3] M3 0 0
      refine v_if_ne (tgt := 29) hz dX12_book_24 (by decide) (fun hc => ?_) (fun hc => ?_)
      · replace h := (if_neg hc).symm.trans h
        refine v_aload_n hz rfl rfl dX12_book_29 ?_
        obtain ⟨ck4, h⟩ := ck_inv h
        obtain ⟨ka4, kb4⟩ := isK_of ck4
        refine v_getI hz fl_X12_288 rfl dX12_book_30 ka4 kb4 ?_
        refine v_bipush hz (v := (8 : Int32)) (by decide) dX12_book_33 ?_
        refine v_icmp_ne (tgt := 41) hz dX12_book_35 (by decide) (fun hc => ?_) (fun hc => ?_)
        · replace h := (if_neg hc).symm.trans h
          refine v_aload_n hz rfl rfl dX12_book_41 ?_
          obtain ⟨b5, r5, h⟩ := rb_inv h
          refine v_getR hz fl_X12_70 rfl dX12_book_42 ka4 kb4 r5 ?_
          refine v_aload_n hz rfl rfl dX12_book_45 ?_
          refine v_getI hz fl_X12_288 rfl dX12_book_46 ka4 kb4 ?_
          refine v_iload_n hz rfl rfl dX12_book_49 ?_
          obtain ⟨ck6, h⟩ := ck_inv h
          obtain ⟨ka6, kb6⟩ := isK_of ck6
          obtain ⟨g7, h⟩ := ck_inv h
          refine v_iastore hz dX12_book_50 ka6 kb6 g7 ?_
          refine v_aload_n hz rfl rfl dX12_book_51 ?_
          obtain ⟨b8, r8, h⟩ := rb_inv h
          refine v_getR hz fl_X12_73 rfl dX12_book_52 ka4 kb4 r8 ?_
          refine v_aload_n hz rfl rfl dX12_book_55 ?_
          refine v_dup hz rfl dX12_book_56 ?_
          refine v_getI hz fl_X12_288 rfl dX12_book_57 ka4 kb4 ?_
          refine v_dup_x1 hz rfl rfl dX12_book_60 ?_
          refine v_iconst hz (v := (1 : Int32)) (by decide) dX12_book_61 ?_
          refine v_iadd hz dX12_book_62 ?_
          refine v_putI hz fl_X12_288 ft_12_31 (by decide) rfl rfl rfl dX12_book_63 ka4 kb4 ?_
          refine v_iload_n hz rfl rfl dX12_book_66 ?_
          obtain ⟨ck9, h⟩ := ck_inv h
          obtain ⟨ka9, kb9⟩ := isK_of ck9
          obtain ⟨g10, h⟩ := ck_inv h
          refine v_iastore hz dX12_book_67 ka9 kb9 g10 ?_
          obtain ⟨M11, eM11, h⟩ := nm_inv h
          refine v_mem eM11.symm ?_
          refine v_aload_n hz rfl rfl dX12_book_68 ?_
          obtain ⟨ck12, h⟩ := ck_inv h
          obtain ⟨ka12, kb12⟩ := isK_of ck12
          refine v_getI hz fl_X12_288 rfl dX12_book_69 ka12 kb12 ?_
          obtain ⟨rfl, rfl⟩ := sp_inv h
          exact v_iret hz dX12_book_72 (by decide) (by decide)
        · replace h := (if_pos hc).symm.trans h
          refine v_bipush hz (v := (-4 : Int32)) (by decide) dX12_book_38 ?_
          obtain ⟨rfl, rfl⟩ := sp_inv h
          exact v_iret hz dX12_book_40 (by decide) (by decide)
      · replace h := (if_pos hc).symm.trans h
        refine v_iconst hz (v := (-1 : Int32)) (by decide) dX12_book_27 ?_
        obtain ⟨rfl, rfl⟩ := sp_inv h
        exact v_iret hz dX12_book_28 (by decide) (by decide)
  · replace h := (if_pos hc).symm.trans h
    refine v_aload_n hz rfl rfl dX12_book_5 ?_
    refine v_iconst hz (v := (0 : Int32)) (by decide) dX12_book_6 ?_
    obtain ⟨ck13, h⟩ := ck_inv h
    obtain ⟨ka13, kb13⟩ := isK_of ck13
    refine v_putI hz fl_X12_288 ft_12_31 (by decide) rfl rfl rfl dX12_book_7 ka13 kb13 ?_
    refine v_iconst hz (v := (0 : Int32)) (by decide) dX12_book_10 ?_
    obtain ⟨rfl, rfl⟩ := sp_inv h
    exact v_iret hz dX12_book_11 (by decide) (by decide)
noncomputable def gX12_looked_2  : Nat → Mem → Nat → Int32 → Option (Int32 × Mem)
  | 0, _, _, _ => none
  | n + 1, M, l0, l1 => ck (isK M l0 12) <| if (mI M l0 31) ≤ l1 then (some ((-5 : Int32), M)) else (rb (mR M l0 4) fun b2 => rb (mR M l0 32) fun b3 => ck (isK M b3 14) <| ck (inb l1 (mG M b3)) <| ck (isK M b2 14) <| ck (inb (mI M b3 l1.toNatClampNeg) (mG M b2)) <| rb (mR M l0 33) fun b8 => ck (isK M b8 14) <| ck (inb l1 (mG M b8)) <| if (mI M b2 (mI M b3 l1.toNatClampNeg).toNatClampNeg) = (mI M b8 l1.toNatClampNeg) then ((gX12_looked_2 n) M l0 (l1 + (1 : Int32))) else (some (l1, M)))
noncomputable def fX12_looked (M : Mem) (a0 : Nat) : Option (Int32 × Mem) :=
  gX12_looked_2 FU M a0 (0 : Int32)
set_option maxRecDepth 100000 in
set_option maxHeartbeats 4000000 in
theorem gX12_looked_2_s  (n : Nat) (M : Mem) (l0 : Nat) (l1 : Int32) : gX12_looked_2  (n + 1) M l0 l1 = (ck (isK M l0 12) <| if (mI M l0 31) ≤ l1 then (some ((-5 : Int32), M)) else (rb (mR M l0 4) fun b2 => rb (mR M l0 32) fun b3 => ck (isK M b3 14) <| ck (inb l1 (mG M b3)) <| ck (isK M b2 14) <| ck (inb (mI M b3 l1.toNatClampNeg) (mG M b2)) <| rb (mR M l0 33) fun b8 => ck (isK M b8 14) <| ck (inb l1 (mG M b8)) <| if (mI M b2 (mI M b3 l1.toNatClampNeg).toNatClampNeg) = (mI M b8 l1.toNatClampNeg) then ((gX12_looked_2 n) M l0 (l1 + (1 : Int32))) else (some (l1, M)))) := rfl
set_option maxRecDepth 100000 in
set_option maxHeartbeats 4000000 in
theorem wX12_looked_2 {z : Zx} {fx : Fx} {al : Bool} {r : Nat} {N : Mem} {xr : Int32} (hz : Zok z fx al yX12_looked.cls yX12_looked.name cX12_looked (some .int) 2 (r + 0) 0 0 (some (.int xr)) N)    : ∀ {n : Nat} {M : Mem} {l0 : Nat} {l1 : Int32}, gX12_looked_2  n M l0 l1 = some (xr, N) → V z 2 [some (.ref l0), some (.int l1)] [] M 0 0 := by
  intro n
  induction n with
  | zero => intro M l0 l1 h; cases h
  | succ n ih =>
    intro M l0 l1 h
    replace h := (gX12_looked_2_s  n M l0 l1).symm.trans h
    refine v_iload_n hz rfl rfl dX12_looked_2 ?_
    refine v_aload_n hz rfl rfl dX12_looked_3 ?_
    obtain ⟨ck1, h⟩ := ck_inv h
    obtain ⟨ka1, kb1⟩ := isK_of ck1
    refine v_getI hz fl_X12_288 rfl dX12_looked_4 ka1 kb1 ?_
    refine v_icmp_ge (tgt := 38) hz dX12_looked_7 (by decide) (fun hc => ?_) (fun hc => ?_)
    · replace h := (if_pos hc).symm.trans h
      refine v_bipush hz (v := (-5 : Int32)) (by decide) dX12_looked_38 ?_
      obtain ⟨rfl, rfl⟩ := sp_inv h
      exact v_iret hz dX12_looked_40 (by decide) (by decide)
    · replace h := (if_neg hc).symm.trans h
      refine v_aload_n hz rfl rfl dX12_looked_10 ?_
      obtain ⟨b2, r2, h⟩ := rb_inv h
      refine v_getR hz fl_X12_21 rfl dX12_looked_11 ka1 kb1 r2 ?_
      refine v_aload_n hz rfl rfl dX12_looked_14 ?_
      obtain ⟨b3, r3, h⟩ := rb_inv h
      refine v_getR hz fl_X12_70 rfl dX12_looked_15 ka1 kb1 r3 ?_
      refine v_iload_n hz rfl rfl dX12_looked_18 ?_
      obtain ⟨ck4, h⟩ := ck_inv h
      obtain ⟨ka4, kb4⟩ := isK_of ck4
      obtain ⟨g5, h⟩ := ck_inv h
      refine v_iaload hz dX12_looked_19 ka4 kb4 g5 ?_
      obtain ⟨ck6, h⟩ := ck_inv h
      obtain ⟨ka6, kb6⟩ := isK_of ck6
      obtain ⟨g7, h⟩ := ck_inv h
      refine v_iaload hz dX12_looked_20 ka6 kb6 g7 ?_
      refine v_aload_n hz rfl rfl dX12_looked_21 ?_
      obtain ⟨b8, r8, h⟩ := rb_inv h
      refine v_getR hz fl_X12_73 rfl dX12_looked_22 ka1 kb1 r8 ?_
      refine v_iload_n hz rfl rfl dX12_looked_25 ?_
      obtain ⟨ck9, h⟩ := ck_inv h
      obtain ⟨ka9, kb9⟩ := isK_of ck9
      obtain ⟨g10, h⟩ := ck_inv h
      refine v_iaload hz dX12_looked_26 ka9 kb9 g10 ?_
      refine v_icmp_eq (tgt := 32) hz dX12_looked_27 (by decide) (fun hc => ?_) (fun hc => ?_)
      · replace h := (if_pos hc).symm.trans h
        refine v_iinc hz (v := (l1 + (1 : Int32))) (lw := [some (.ref l0), some (.int (l1 + (1 : Int32)))]) rfl (congrArg (fun q => l1 + q) (show Int32.ofInt (1) = (1 : Int32) by decide)) rfl rfl dX12_looked_32 ?_
        refine v_goto (tgt := 2) hz dX12_looked_35 (by decide) ?_
        exact v_weak (lvle_s (lvle_s lvle_0)) (ih h)
      · replace h := (if_neg hc).symm.trans h
        refine v_iload_n hz rfl rfl dX12_looked_30 ?_
        obtain ⟨rfl, rfl⟩ := sp_inv h
        exact v_iret hz dX12_looked_31 (by decide) (by decide)
set_option maxRecDepth 100000 in
set_option maxHeartbeats 4000000 in
theorem tX12_looked (r : Nat) {fx : Fx} {al : Bool} {M N : Mem} {a0 : Nat} {xr : Int32}  (h : fX12_looked M a0 = some (xr, N)) : Ct fx yX12_looked cX12_looked 2 (some .int) (r + 0) 0 0 al [.ref a0] M (some (.int xr)) N := by
  refine ct_of (lv := [some (.ref a0), none]) (by decide) (Nat.le_of_ble_eq_true rfl) rfl rfl (fun z hz => ?_)
  unfold fX12_looked at h
  refine v_iconst hz (v := (0 : Int32)) (by decide) dX12_looked_0 ?_
  refine v_istore_n hz (lw := [some (.ref a0), some (.int (0 : Int32))]) rfl (Nat.le_of_ble_eq_true rfl) rfl rfl dX12_looked_1 ?_
  exact v_weak (lvle_s (lvle_s lvle_0)) (wX12_looked_2 hz   h)
