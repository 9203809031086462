noncomputable def fX12_told (M : Mem) (a0 : Nat) (a1 : Int32) : Option (Int32 × Mem) :=
  bd (fX12_isCell M (a1 - (10 : Int32))) fun x1 M1 => if x1 = 0 then (if a1 = (0 : Int32) then (ck (isK M1 a0 12) <| some ((mI M1 a0 7), M1)) else if a1 = (1 : Int32) then (ck (isK M1 a0 12) <| bd (fX12_baldFrom M1 a0) fun x5 M5 => some (x5, M5)) else if a1 = (2 : Int32) then (ck (isK M1 a0 12) <| bd (fX12_balds M1 a0) fun x7 M7 => some (x7, M7)) else if a1 = (3 : Int32) then (ck (isK M1 a0 12) <| bd (fX12_allWear M1 a0) fun x9 M9 => some (x9, M9)) else if a1 = (4 : Int32) then (ck (isK M1 a0 12) <| bd (fX12_beating M1 a0) fun x11 M11 => some (x11, M11)) else (some ((-1 : Int32), M1))) else (ck (isK M1 a0 12) <| rb (mR M1 a0 0) fun b13 => ck (isK M1 b13 14) <| ck (inb (a1 - (10 : Int32)) (mG M1 b13)) <| some ((mI M1 b13 (a1 - (10 : Int32)).toNatClampNeg), M1))
set_option maxRecDepth 100000 in
set_option maxHeartbeats 4000000 in
theorem tX12_told (r : Nat) {fx : Fx} {al : Bool} {M N : Mem} {a0 : Nat} {a1 : Int32} {xr : Int32}  (h : fX12_told M a0 a1 = some (xr, N)) : Ct fx yX12_told cX12_told 2 (some .int) (r + 3) 0 0 al [.ref a0, .int a1] M (some (.int xr)) N := by
  refine ct_of (lv := [some (.ref a0), some (.int a1)]) (by decide) (Nat.le_of_ble_eq_true rfl) rfl rfl (fun z hz => ?_)
  unfold fX12_told at h
  refine v_iload_n hz rfl rfl dX12_told_0 ?_
  refine v_bipush hz (v := (10 : Int32)) (by decide) dX12_told_1 ?_
  refine v_isub hz dX12_told_3 ?_
  obtain ⟨x1, M1, e1, h⟩ := bd_inv h
  refine v_callS hz (As := [.int (a1 - (10 : Int32))]) sl_X12_112 (tX12_isCell (r + 1) e1) rfl rfl rfl (Nat.le_of_ble_eq_true rfl) ⟨by decide, by decide⟩ dX12_told_4 ?_
  show V z 7 [some (.ref a0), some (.int a1)] [.int x1] M1 0 0
  refine v_if_eq (tgt := 20) hz dX12_told_7 (by decide) (fun hc => ?_) (fun hc => ?_)
  · replace h := (if_pos hc).symm.trans h
    refine v_iload_n hz rfl rfl dX12_told_20 ?_
    by_cases hs2_0 : a1 = (0 : Int32)
    · replace h := (if_pos hs2_0).symm.trans h
      refine v_tableAt (tgt := 56) hz hs2_0 dX12_told_21 (by decide) (by decide) (by decide) (by decide) ?_
      refine v_aload_n hz rfl rfl dX12_told_56 ?_
      obtain ⟨ck3, h⟩ := ck_inv h
      obtain ⟨ka3, kb3⟩ := isK_of ck3
      refine v_getI hz fl_X12_208 rfl dX12_told_57 ka3 kb3 ?_
      obtain ⟨rfl, rfl⟩ := sp_inv h
      exact v_iret hz dX12_told_60 (by decide) (by decide)
    replace h := (if_neg hs2_0).symm.trans h
    by_cases hs2_1 : a1 = (1 : Int32)
    · replace h := (if_pos hs2_1).symm.trans h
      refine v_tableAt (tgt := 61) hz hs2_1 dX12_told_21 (by decide) (by decide) (by decide) (by decide) ?_
      refine v_aload_n hz rfl rfl dX12_told_61 ?_
      obtain ⟨ck4, h⟩ := ck_inv h
      obtain ⟨ka4, kb4⟩ := isK_of ck4
      obtain ⟨x5, M5, e5, h⟩ := bd_inv h
      refine v_callV hz (As := []) vl_X12_221 (tX12_baldFrom (r + 2) e5) rfl (by decide) ka4 kb4 rfl rfl rfl (Nat.le_of_ble_eq_true rfl) ⟨by decide, by decide⟩ dX12_told_62 ?_
      show V z 65 [some (.ref a0), some (.int a1)] [.int x5] M5 0 0
      obtain ⟨rfl, rfl⟩ := sp_inv h
      exact v_iret hz dX12_told_65 (by decide) (by decide)
    replace h := (if_neg hs2_1).symm.trans h
    by_cases hs2_2 : a1 = (2 : Int32)
    · replace h := (if_pos hs2_2).symm.trans h
      refine v_tableAt (tgt := 66) hz hs2_2 dX12_told_21 (by decide) (by decide) (by decide) (by decide) ?_
      refine v_aload_n hz rfl rfl dX12_told_66 ?_
      obtain ⟨ck6, h⟩ := ck_inv h
      obtain ⟨ka6, kb6⟩ := isK_of ck6
      obtain ⟨x7, M7, e7, h⟩ := bd_inv h
      refine v_callV hz (As := []) vl_X12_241 (tX12_balds (r + 0) e7) rfl (by decide) ka6 kb6 rfl rfl rfl (Nat.le_of_ble_eq_true rfl) ⟨by decide, by decide⟩ dX12_told_67 ?_
      show V z 70 [some (.ref a0), some (.int a1)] [.int x7] M7 0 0
      obtain ⟨rfl, rfl⟩ := sp_inv h
      exact v_iret hz dX12_told_70 (by decide) (by decide)
    replace h := (if_neg hs2_2).symm.trans h
    by_cases hs2_3 : a1 = (3 : Int32)
    · replace h := (if_pos hs2_3).symm.trans h
      refine v_tableAt (tgt := 71) hz hs2_3 dX12_told_21 (by decide) (by decide) (by decide) (by decide) ?_
      refine v_aload_n hz rfl rfl dX12_told_71 ?_
      obtain ⟨ck8, h⟩ := ck_inv h
      obtain ⟨ka8, kb8⟩ := isK_of ck8
      obtain ⟨x9, M9, e9, h⟩ := bd_inv h
      refine v_callV hz (As := []) vl_X12_244 (tX12_allWear (r + 2) e9) rfl (by decide) ka8 kb8 rfl rfl rfl (Nat.le_of_ble_eq_true rfl) ⟨by decide, by decide⟩ dX12_told_72 ?_
      show V z 75 [some (.ref a0), some (.int a1)] [.int x9] M9 0 0
      obtain ⟨rfl, rfl⟩ := sp_inv h
      exact v_iret hz dX12_told_75 (by decide) (by decide)
    replace h := (if_neg hs2_3).symm.trans h
    by_cases hs2_4 : a1 = (4 : Int32)
    · replace h := (if_pos hs2_4).symm.trans h
      refine v_tableAt (tgt := 76) hz hs2_4 dX12_told_21 (by decide) (by decide) (by decide) (by decide) ?_
      refine v_aload_n hz rfl rfl dX12_told_76 ?_
      obtain ⟨ck10, h⟩ := ck_inv h
      obtain ⟨ka10, kb10⟩ := isK_of ck10
      obtain ⟨x11, M11, e11, h⟩ := bd_inv h
      refine v_callV hz (As := []) vl_X12_247 (tX12_beating (r + 0) e11) rfl (by decide) ka10 kb10 rfl rfl rfl (Nat.le_of_ble_eq_true rfl) ⟨by decide, by decide⟩ dX12_told_77 ?_
      show V z 80 [some (.ref a0), some (.int a1)] [.int x11] M11 0 0
      obtain ⟨rfl, rfl⟩ := sp_inv h
      exact v_iret hz dX12_told_80 (by decide) (by decide)
    replace h := (if_neg hs2_4).symm.trans h
    refine v_tableOut (tgt := 81) hz dX12_told_21 (by have q0 := lv_neT hs2_0 (show ((0 : Int32)).toInt = 0 by decide); have q1 := lv_neT hs2_1 (show ((1 : Int32)).toInt = 1 by decide); have q2 := lv_neT hs2_2 (show ((2 : Int32)).toInt = 2 by decide); have q3 := lv_neT hs2_3 (show ((3 : Int32)).toInt = 3 by decide); have q4 := lv_neT hs2_4 (show ((4 : Int32)).toInt = 4 by decide); omega) (by decide) ?_
    refine v_iconst hz (v := (-1 : Int32)) (by decide) dX12_told_81 ?_
    obtain ⟨rfl, rfl⟩ := sp_inv h
    exact v_iret hz dX12_told_82 (by decide) (by decide)
  · replace h := (if_neg hc).symm.trans h
    refine v_aload_n hz rfl rfl dX12_told_10 ?_
    obtain ⟨ck12, h⟩ := ck_inv h
    obtain ⟨ka12, kb12⟩ := isK_of ck12
    obtain ⟨b13, r13, h⟩ := rb_inv h
    refine v_getR hz fl_X12_9 rfl dX12_told_11 ka12 kb12 r13 ?_
    refine v_iload_n hz rfl rfl dX12_told_14 ?_
    refine v_bipush hz (v := (10 : Int32)) (by decide) dX12_told_15 ?_
    refine v_isub hz dX12_told_17 ?_
    obtain ⟨ck14, h⟩ := ck_inv h
    obtain ⟨ka14, kb14⟩ := isK_of ck14
    obtain ⟨g15, h⟩ := ck_inv h
    refine v_iaload hz dX12_told_18 ka14 kb14 g15 ?_
    obtain ⟨rfl, rfl⟩ := sp_inv h
    exact v_iret hz dX12_told_19 (by decide) (by decide)
noncomputable def gX12_pass_30  : Nat → Mem → Nat → Int32 → Int32 → Option (Int32 × Mem)
  | 0, _, _, _, _ => none
  | n + 1, M, l0, l1, l2 => if l1 ≤ l2 then (ck (isK M l0 12) <| some ((mI M l0 7), M)) else (ck (isK M l0 12) <| bd (fX12_goesHour M l0) fun x5 M5 => (gX12_pass_30 n) M5 l0 l1 (l2 + (1 : Int32)))
noncomputable def fX12_pass (M : Mem) (a0 : Nat) (a1 : Int32) : Option (Int32 × Mem) :=
  bd (fX12_within M a1 (0 : Int32) (60 : Int32)) fun x1 M1 => if x1 = 0 then (some ((-2 : Int32), M1)) else (ck (isK M1 a0 12) <| if ((mI M1 a0 7) + a1) ≤ (9999 : Int32) then (gX12_pass_30 FU M1 a0 a1 (0 : Int32)) else (some ((-3 : Int32), M1)))
set_option maxRecDepth 100000 in
set_option maxHeartbeats 4000000 in
theorem gX12_pass_30_s  (n : Nat) (M : Mem) (l0 : Nat) (l1 : Int32) (l2 : Int32) : gX12_pass_30  (n + 1) M l0 l1 l2 = (if l1 ≤ l2 then (ck (isK M l0 12) <| some ((mI M l0 7), M)) else (ck (isK M l0 12) <| bd (fX12_goesHour M l0) fun x5 M5 => (gX12_pass_30 n) M5 l0 l1 (l2 + (1 : Int32)))) := rfl
set_option maxRecDepth 100000 in
set_option maxHeartbeats 4000000 in
theorem wX12_pass_30 {z : Zx} {fx : Fx} {al : Bool} {r : Nat} {N : Mem} {xr : Int32} (hz : Zok z fx al yX12_pass.cls yX12_pass.name cX12_pass (some .int) 3 (r + 6) 0 0 (some (.int xr)) N)    : ∀ {n : Nat} {M : Mem} {l0 : Nat} {l1 : Int32} {l2 : Int32}, gX12_pass_30  n M l0 l1 l2 = some (xr, N) → V z 30 [some (.ref l0), some (.int l1), some (.int l2)] [] M 0 0 := by
  intro n
  induction n with
  | zero => intro M l0 l1 l2 h; cases h
  | succ n ih =>
    intro M l0 l1 l2 h
    replace h := (gX12_pass_30_s  n M l0 l1 l2).symm.trans h
    refine v_iload_n hz rfl rfl dX12_pass_30 ?_
    refine v_iload_n hz rfl rfl dX12_pass_31 ?_
    refine v_icmp_ge (tgt := 45) hz dX12_pass_32 (by decide) (fun hc => ?_) (fun hc => ?_)
    · replace h := (if_pos hc).symm.trans h
      refine v_aload_n hz rfl rfl dX12_pass_45 ?_
      obtain ⟨ck3, h⟩ := ck_inv h
      obtain ⟨ka3, kb3⟩ := isK_of ck3
      refine v_getI hz fl_X12_208 rfl dX12_pass_46 ka3 kb3 ?_
      obtain ⟨rfl, rfl⟩ := sp_inv h
      exact v_iret hz dX12_pass_49 (by decide) (by decide)
    · replace h := (if_neg hc).symm.trans h
      refine v_aload_n hz rfl rfl dX12_pass_35 ?_
      obtain ⟨ck4, h⟩ := ck_inv h
      obtain ⟨ka4, kb4⟩ := isK_of ck4
      obtain ⟨x5, M5, e5, h⟩ := bd_inv h
      refine v_callV hz (As := []) vl_X12_250 (tX12_goesHour (r + 0) e5) rfl (by decide) ka4 kb4 rfl rfl rfl (Nat.le_of_ble_eq_true rfl) ⟨by decide, by decide⟩ dX12_pass_36 ?_
      show V z 39 [some (.ref l0), some (.int l1), some (.int l2)] [] M5 0 0
      refine v_iinc hz (v := (l2 + (1 : Int32))) (lw := [some (.ref l0), some (.int l1), some (.int (l2 + (1 : Int32)))]) rfl (congrArg (fun q => l2 + q) (show Int32.ofInt (1) = (1 : Int32) by decide)) rfl rfl dX12_pass_39 ?_
      refine v_goto (tgt := 30) hz dX12_pass_42 (by decide) ?_
      exact v_weak (lvle_s (lvle_s (lvle_s lvle_0))) (ih h)
set_option maxRecDepth 100000 in
set_option maxHeartbeats 4000000 in
theorem tX12_pass (r : Nat) {fx : Fx} {al : Bool} {M N : Mem} {a0 : Nat} {a1 : Int32} {xr : Int32}  (h : fX12_pass M a0 a1 = some (xr, N)) : Ct fx yX12_pass cX12_pass 3 (some .int) (r + 6) 0 0 al [.ref a0, .int a1] M (some (.int xr)) N := by
  refine ct_of (lv := [some (.ref a0), some (.int a1), none]) (by decide) (Nat.le_of_ble_eq_true rfl) rfl rfl (fun z hz => ?_)
  unfold fX12_pass at h
  refine v_iload_n hz rfl rfl dX12_pass_0 ?_
  refine v_iconst hz (v := (0 : Int32)) (by decide) dX12_pass_1 ?_
  refine v_bipush hz (v := (60 : Int32)) (by decide) dX12_pass_2 ?_
  obtain ⟨x1, M1, e1, h⟩ := bd_inv h
  refine v_callS hz (As := [.int a1, .int (0 : Int32), .int (60 : Int32)]) sl_X12_108 (tX12_within (r + 5) e1) rfl rfl rfl (Nat.le_of_ble_eq_true rfl) ⟨by decide, by decide⟩ dX12_pass_4 ?_
  show V z 7 [some (.ref a0), some (.int a1), none] [.int x1] M1 0 0
  refine v_if_ne (tgt := 13) hz dX12_pass_7 (by decide) (fun hc => ?_) (fun hc => ?_)
  · replace h := (if_neg hc).symm.trans h
    refine v_aload_n hz rfl rfl dX12_pass_13 ?_
    obtain ⟨ck2, h⟩ := ck_inv h
    obtain ⟨ka2, kb2⟩ := isK_of ck2
    refine v_getI hz fl_X12_208 rfl dX12_pass_14 ka2 kb2 ?_
    refine v_iload_n hz rfl rfl dX12_pass_17 ?_
    refine v_iadd hz dX12_pass_18 ?_
    refine v_sipush hz (v := (9999 : Int32)) (by decide) dX12_pass_19 ?_
    refine v_icmp_le (tgt := 28) hz dX12_pass_22 (by decide) (fun hc => ?_) (fun hc => ?_)
    · replace h := (if_pos hc).symm.trans h
      refine v_iconst hz (v := (0 : Int32)) (by decide) dX12_pass_28 ?_
      refine v_istore_n hz (lw := [some (.ref a0), some (.int a1), some (.int (0 : Int32))]) rfl (Nat.le_of_ble_eq_true rfl) rfl rfl dX12_pass_29 ?_
      exact v_weak (lvle_s (lvle_s (lvle_s lvle_0))) (wX12_pass_30 hz   h)
    · replace h := (if_neg hc).symm.trans h
      refine v_bipush hz (v := (-3 : Int32)) (by decide) dX12_pass_25 ?_
      obtain ⟨rfl, rfl⟩ := sp_inv h
      exact v_iret hz dX12_pass_27 (by decide) (by decide)
  · replace h := (if_pos hc).symm.trans h
    refine v_bipush hz (v := (-2 : Int32)) (by decide) dX12_pass_10 ?_
    obtain ⟨rfl, rfl⟩ := sp_inv h
    exact v_iret hz dX12_pass_12 (by decide) (by decide)
noncomputable def gX12_keep_200  : Nat → Mem → Nat → Nat → Int32 → Option (Unit × Mem)
  | 0, _, _, _, _ => none
  | n + 1, M, l0, l1, l2 => if (8 : Int32) ≤ l2 then (ck (isK M l0 12) <| ck (isK M l1 14) <| ck (inb (124 : Int32) (mG M l1)) <| ck (inb (125 : Int32) (mG M l1)) <| ck (inb (126 : Int32) (mG M l1)) <| nm (stI (stI (stI M l1 (124 : Int32).toNatClampNeg (mI M l0 1)) l1 (125 : Int32).toNatClampNeg (mI (stI M l1 (124 : Int32).toNatClampNeg (mI M l0 1)) l0 7)) l1 (126 : Int32).toNatClampNeg (mI (stI (stI M l1 (124 : Int32).toNatClampNeg (mI M l0 1)) l1 (125 : Int32).toNatClampNeg (mI (stI M l1 (124 : Int32).toNatClampNeg (mI M l0 1)) l0 7)) l0 24)) fun M6 => ck (isK M6 l0 12) <| ck (isK M6 l1 14) <| ck (inb (127 : Int32) (mG M6 l1)) <| ck (inb (128 : Int32) (mG M6 l1)) <| nm (stI (stI M6 l1 (127 : Int32).toNatClampNeg (mI M6 l0 28)) l1 (128 : Int32).toNatClampNeg (mI (stI M6 l1 (127 : Int32).toNatClampNeg (mI M6 l0 28)) l0 31)) fun M11 => ck (isK M11 l0 12) <| ck (isK M11 l1 14) <| ck (inb (129 : Int32) (mG M11 l1)) <| some ((), (stI M11 l1 (129 : Int32).toNatClampNeg (mI M11 l0 15)))) else (ck (isK M l0 12) <| rb (mR M l0 32) fun b16 => ck (isK M b16 14) <| ck (inb l2 (mG M b16)) <| ck (isK M l1 14) <| ck (inb ((108 : Int32) + l2) (mG M l1)) <| rb (mR (stI M l1 ((108 : Int32) + l2).toNatClampNeg (mI M b16 l2.toNatClampNeg)) l0 33) fun b21 => ck (isK M b21 14) <| ck (inb l2 (mG M b21)) <| ck (inb ((116 : Int32) + l2) (mG M l1)) <| nm (stI (stI M l1 ((108 : Int32) + l2).toNatClampNeg (mI M b16 l2.toNatClampNeg)) l1 ((116 : Int32) + l2).toNatClampNeg (mI (stI M l1 ((108 : Int32) + l2).toNatClampNeg (mI M b16 l2.toNatClampNeg)) b21 l2.toNatClampNeg)) fun M25 => (gX12_keep_200 n) M25 l0 l1 (l2 + (1 : Int32)))
noncomputable def gX12_keep_162  : Nat → Mem → Nat → Nat → Int32 → Option (Unit × Mem)
  | 0, _, _, _, _ => none
  | n + 1, M, l0, l1, l2 => if (10 : Int32) ≤ l2 then (gX12_keep_200 FU M l0 l1 (0 : Int32)) else (ck (isK M l0 12) <| rb (mR M l0 29) fun b27 => ck (isK M b27 14) <| ck (inb l2 (mG M b27)) <| ck (isK M l1 14) <| ck (inb ((88 : Int32) + l2) (mG M l1)) <| rb (mR (stI M l1 ((88 : Int32) + l2).toNatClampNeg (mI M b27 l2.toNatClampNeg)) l0 30) fun b32 => ck (isK M b32 14) <| ck (inb l2 (mG M b32)) <| ck (inb ((98 : Int32) + l2) (mG M l1)) <| nm (stI (stI M l1 ((88 : Int32) + l2).toNatClampNeg (mI M b27 l2.toNatClampNeg)) l1 ((98 : Int32) + l2).toNatClampNeg (mI (stI M l1 ((88 : Int32) + l2).toNatClampNeg (mI M b27 l2.toNatClampNeg)) b32 l2.toNatClampNeg)) fun M36 => (gX12_keep_162 n) M36 l0 l1 (l2 + (1 : Int32)))
noncomputable def gX12_keep_113  : Nat → Mem → Nat → Nat → Int32 → Option (Unit × Mem)
  | 0, _, _, _, _ => none
  | n + 1, M, l0, l1, l2 => if (5 : Int32) ≤ l2 then (gX12_keep_162 FU M l0 l1 (0 : Int32)) else (ck (isK M l0 12) <| rb (mR M l0 25) fun b38 => ck (isK M b38 14) <| ck (inb l2 (mG M b38)) <| ck (isK M l1 14) <| ck (inb ((73 : Int32) + l2) (mG M l1)) <| rb (mR (stI M l1 ((73 : Int32) + l2).toNatClampNeg (mI M b38 l2.toNatClampNeg)) l0 26) fun b43 => ck (isK M b43 14) <| ck (inb l2 (mG M b43)) <| ck (inb ((78 : Int32) + l2) (mG M l1)) <| nm (stI (stI M l1 ((73 : Int32) + l2).toNatClampNeg (mI M b38 l2.toNatClampNeg)) l1 ((78 : Int32) + l2).toNatClampNeg (mI (stI M l1 ((73 : Int32) + l2).toNatClampNeg (mI M b38 l2.toNatClampNeg)) b43 l2.toNatClampNeg)) fun M47 => ck (isK M47 l0 12) <| rb (mR M47 l0 27) fun b49 => ck (isK M47 b49 14) <| ck (inb l2 (mG M47 b49)) <| ck (isK M47 l1 14) <| ck (inb ((83 : Int32) + l2) (mG M47 l1)) <| (gX12_keep_113 n) (stI M47 l1 ((83 : Int32) + l2).toNatClampNeg (mI M47 b49 l2.toNatClampNeg)) l0 l1 (l2 + (1 : Int32)))
noncomputable def gX12_keep_87  : Nat → Mem → Nat → Nat → Int32 → Option (Unit × Mem)
  | 0, _, _, _, _ => none
  | n + 1, M, l0, l1, l2 => if (24 : Int32) ≤ l2 then (gX12_keep_113 FU M l0 l1 (0 : Int32)) else (ck (isK M l0 12) <| rb (mR M l0 6) fun b55 => ck (isK M b55 14) <| ck (inb l2 (mG M b55)) <| ck (isK M l1 14) <| ck (inb ((49 : Int32) + l2) (mG M l1)) <| (gX12_keep_87 n) (stI M l1 ((49 : Int32) + l2).toNatClampNeg (mI M b55 l2.toNatClampNeg)) l0 l1 (l2 + (1 : Int32)))
noncomputable def gX12_keep_25  : Nat → Mem → Nat → Nat → Int32 → Option (Unit × Mem)
  | 0, _, _, _, _ => none
  | n + 1, M, l0, l1, l2 => if (6 : Int32) ≤ l2 then (gX12_keep_87 FU M l0 l1 (0 : Int32)) else (ck (isK M l0 12) <| rb (mR M l0 2) fun b61 => ck (isK M b61 14) <| ck (inb l2 (mG M b61)) <| ck (isK M l1 14) <| ck (inb ((25 : Int32) + l2) (mG M l1)) <| rb (mR (stI M l1 ((25 : Int32) + l2).toNatClampNeg (mI M b61 l2.toNatClampNeg)) l0 3) fun b66 => ck (isK M b66 14) <| ck (inb l2 (mG M b66)) <| ck (inb ((31 : Int32) + l2) (mG M l1)) <| nm (stI (stI M l1 ((25 : Int32) + l2).toNatClampNeg (mI M b61 l2.toNatClampNeg)) l1 ((31 : Int32) + l2).toNatClampNeg (mI (stI M l1 ((25 : Int32) + l2).toNatClampNeg (mI M b61 l2.toNatClampNeg)) b66 l2.toNatClampNeg)) fun M70 => ck (isK M70 l0 12) <| rb (mR M70 l0 4) fun b72 => ck (isK M70 b72 14) <| ck (inb l2 (mG M70 b72)) <| ck (isK M70 l1 14) <| ck (inb ((37 : Int32) + l2) (mG M70 l1)) <| rb (mR (stI M70 l1 ((37 : Int32) + l2).toNatClampNeg (mI M70 b72 l2.toNatClampNeg)) l0 5) fun b77 => ck (isK M70 b77 14) <| ck (inb l2 (mG M70 b77)) <| ck (inb ((43 : Int32) + l2) (mG M70 l1)) <| nm (stI (stI M70 l1 ((37 : Int32) + l2).toNatClampNeg (mI M70 b72 l2.toNatClampNeg)) l1 ((43 : Int32) + l2).toNatClampNeg (mI (stI M70 l1 ((37 : Int32) + l2).toNatClampNeg (mI M70 b72 l2.toNatClampNeg)) b77 l2.toNatClampNeg)) fun M81 => (gX12_keep_25 n) M81 l0 l1 (l2 + (1 : Int32)))
noncomputable def gX12_keep_2  : Nat → Mem → Nat → Nat → Int32 → Option (Unit × Mem)
  | 0, _, _, _, _ => none
  | n + 1, M, l0, l1, l2 => if (25 : Int32) ≤ l2 then (gX12_keep_25 FU M l0 l1 (0 : Int32)) else (ck (isK M l0 12) <| rb (mR M l0 0) fun b83 => ck (isK M b83 14) <| ck (inb l2 (mG M b83)) <| ck (isK M l1 14) <| ck (inb l2 (mG M l1)) <| (gX12_keep_2 n) (stI M l1 l2.toNatClampNeg (mI M b83 l2.toNatClampNeg)) l0 l1 (l2 + (1 : Int32)))
noncomputable def fX12_keep (M : Mem) (a0 : Nat) (a1 : Nat) : Option (Unit × Mem) :=
  gX12_keep_2 FU M a0 a1 (0 : Int32)
set_option maxRecDepth 100000 in
set_option maxHeartbeats 4000000 in
theorem gX12_keep_200_s  (n : Nat) (M : Mem) (l0 : Nat) (l1 : Nat) (l2 : Int32) : gX12_keep_200  (n + 1) M l0 l1 l2 = (if (8 : Int32) ≤ l2 then (ck (isK M l0 12) <| ck (isK M l1 14) <| ck (inb (124 : Int32) (mG M l1)) <| ck (inb (125 : Int32) (mG M l1)) <| ck (inb (126 : Int32) (mG M l1)) <| nm (stI (stI (stI M l1 (124 : Int32).toNatClampNeg (mI M l0 1)) l1 (125 : Int32).toNatClampNeg (mI (stI M l1 (124 : Int32).toNatClampNeg (mI M l0 1)) l0 7)) l1 (126 : Int32).toNatClampNeg (mI (stI (stI M l1 (124 : Int32).toNatClampNeg (mI M l0 1)) l1 (125 : Int32).toNatClampNeg (mI (stI M l1 (124 : Int32).toNatClampNeg (mI M l0 1)) l0 7)) l0 24)) fun M6 => ck (isK M6 l0 12) <| ck (isK M6 l1 14) <| ck (inb (127 : Int32) (mG M6 l1)) <| ck (inb (128 : Int32) (mG M6 l1)) <| nm (stI (stI M6 l1 (127 : Int32).toNatClampNeg (mI M6 l0 28)) l1 (128 : Int32).toNatClampNeg (mI (stI M6 l1 (127 : Int32).toNatClampNeg (mI M6 l0 28)) l0 31)) fun M11 => ck (isK M11 l0 12) <| ck (isK M11 l1 14) <| ck (inb (129 : Int32) (mG M11 l1)) <| some ((), (stI M11 l1 (129 : Int32).toNatClampNeg (mI M11 l0 15)))) else (ck (isK M l0 12) <| rb (mR M l0 32) fun b16 => ck (isK M b16 14) <| ck (inb l2 (mG M b16)) <| ck (isK M l1 14) <| ck (inb ((108 : Int32) + l2) (mG M l1)) <| rb (mR (stI M l1 ((108 : Int32) + l2).toNatClampNeg (mI M b16 l2.toNatClampNeg)) l0 33) fun b21 => ck (isK M b21 14) <| ck (inb l2 (mG M b21)) <| ck (inb ((116 : Int32) + l2) (mG M l1)) <| nm (stI (stI M l1 ((108 : Int32) + l2).toNatClampNeg (mI M b16 l2.toNatClampNeg)) l1 ((116 : Int32) + l2).toNatClampNeg (mI (stI M l1 ((108 : Int32) + l2).toNatClampNeg (mI M b16 l2.toNatClampNeg)) b21 l2.toNatClampNeg)) fun M25 => (gX12_keep_200 n) M25 l0 l1 (l2 + (1 : Int32)))) := rfl
set_option maxRecDepth 100000 in
set_option maxHeartbeats 4000000 in
theorem wX12_keep_200 {z : Zx} {fx : Fx} {al : Bool} {r : Nat} {N : Mem} (hz : Zok z fx al yX12_keep.cls yX12_keep.name cX12_keep none 3 (r + 0) 0 0 none N)    : ∀ {n : Nat} {M : Mem} {l0 : Nat} {l1 : Nat} {l2 : Int32}, gX12_keep_200  n M l0 l1 l2 = some ((), N) → V z 200 [some (.ref l0), some (.ref l1), some (.int l2)] [] M 0 0 := by
  intro n
  induction n with
  | zero => intro M l0 l1 l2 h; cases h
  | succ n ih =>
    intro M l0 l1 l2 h
    replace h := (gX12_keep_200_s  n M l0 l1 l2).symm.trans h
    refine v_iload_n hz rfl rfl dX12_keep_200 ?_
    refine v_bipush hz (v := (8 : Int32)) (by decide) dX12_keep_201 ?_
    refine v_icmp_ge (tgt := 236) hz dX12_keep_203 (by decide) (fun hc => ?_) (fun hc => ?_)
    · replace h := (if_pos hc).symm.trans h
      refine v_aload_n hz rfl rfl dX12_keep_236 ?_
      refine v_bipush hz (v := (124 : Int32)) (by decide) dX12_keep_237 ?_
      refine v_aload_n hz rfl rfl dX12_keep_239 ?_
      obtain ⟨ck1, h⟩ := ck_inv h
      obtain ⟨ka1, kb1⟩ := isK_of ck1
      refine v_getI hz fl_X12_105 rfl dX12_keep_240 ka1 kb1 ?_
      obtain ⟨ck2, h⟩ := ck_inv h
      obtain ⟨ka2, kb2⟩ := isK_of ck2
      obtain ⟨g3, h⟩ := ck_inv h
      refine v_iastore hz dX12_keep_243 ka2 kb2 g3 ?_
      refine v_aload_n hz rfl rfl dX12_keep_244 ?_
      refine v_bipush hz (v := (125 : Int32)) (by decide) dX12_keep_245 ?_
      refine v_aload_n hz rfl rfl dX12_keep_247 ?_
      refine v_getI hz fl_X12_208 rfl dX12_keep_248 ka1 kb1 ?_
      obtain ⟨g4, h⟩ := ck_inv h
      refine v_iastore hz dX12_keep_251 ka2 kb2 g4 ?_
      refine v_aload_n hz rfl rfl dX12_keep_252 ?_
      refine v_bipush hz (v := (126 : Int32)) (by decide) dX12_keep_253 ?_
      refine v_aload_n hz rfl rfl dX12_keep_255 ?_
      refine v_getI hz fl_X12_273 rfl dX12_keep_256 ka1 kb1 ?_
      obtain ⟨g5, h⟩ := ck_inv h
      refine v_iastore hz dX12_keep_259 ka2 kb2 g5 ?_
      obtain ⟨M6, eM6, h⟩ := nm_inv h
      refine v_mem eM6.symm ?_
      refine v_aload_n hz rfl rfl dX12_keep_260 ?_
      refine v_bipush hz (v := (127 : Int32)) (by decide) dX12_keep_261 ?_
      refine v_aload_n hz rfl rfl dX12_keep_263 ?_
      obtain ⟨ck7, h⟩ := ck_inv h
      obtain ⟨ka7, kb7⟩ := isK_of ck7
      refine v_getI hz fl_X12_285 rfl dX12_keep_264 ka7 kb7 ?_
      obtain ⟨ck8, h⟩ := ck_inv h
      obtain ⟨ka8, kb8⟩ := isK_of ck8
      obtain ⟨g9, h⟩ := ck_inv h
      refine v_iastore hz dX12_keep_267 ka8 kb8 g9 ?_
      refine v_aload_n hz rfl rfl dX12_keep_268 ?_
      refine v_sipush hz (v := (128 : Int32)) (by decide) dX12_keep_269 ?_
      refine v_aload_n hz rfl rfl dX12_keep_272 ?_
      refine v_getI hz fl_X12_288 rfl dX12_keep_273 ka7 kb7 ?_
      obtain ⟨g10, h⟩ := ck_inv h
      refine v_iastore hz dX12_keep_276 ka8 kb8 g10 ?_
      obtain ⟨M11, eM11, h⟩ := nm_inv h
      refine v_mem eM11.symm ?_
      refine v_aload_n hz rfl rfl dX12_keep_277 ?_
      refine v_sipush hz (v := (129 : Int32)) (by decide) dX12_keep_278 ?_
      refine v_aload_n hz rfl rfl dX12_keep_281 ?_
      obtain ⟨ck12, h⟩ := ck_inv h
      obtain ⟨ka12, kb12⟩ := isK_of ck12
      refine v_getI hz fl_X12_101 rfl dX12_keep_282 ka12 kb12 ?_
      obtain ⟨ck13, h⟩ := ck_inv h
      obtain ⟨ka13, kb13⟩ := isK_of ck13
      obtain ⟨g14, h⟩ := ck_inv h
      refine v_iastore hz dX12_keep_285 ka13 kb13 g14 ?_
      obtain ⟨-, rfl⟩ := sp_inv h
      exact v_vret hz dX12_keep_286 (by decide) (by decide)
    · replace h := (if_neg hc).symm.trans h
      refine v_aload_n hz rfl rfl dX12_keep_206 ?_
      refine v_bipush hz (v := (108 : Int32)) (by decide) dX12_keep_207 ?_
      refine v_iload_n hz rfl rfl dX12_keep_209 ?_
      refine v_iadd hz dX12_keep_210 ?_
      refine v_aload_n hz rfl rfl dX12_keep_211 ?_
      obtain ⟨ck15, h⟩ := ck_inv h
      obtain ⟨ka15, kb15⟩ := isK_of ck15
      obtain ⟨b16, r16, h⟩ := rb_inv h
      refine v_getR hz fl_X12_70 rfl dX12_keep_212 ka15 kb15 r16 ?_
      refine v_iload_n hz rfl rfl dX12_keep_215 ?_
      obtain ⟨ck17, h⟩ := ck_inv h
      obtain ⟨ka17, kb17⟩ := isK_of ck17
      obtain ⟨g18, h⟩ := ck_inv h
      refine v_iaload hz dX12_keep_216 ka17 kb17 g18 ?_
      obtain ⟨ck19, h⟩ := ck_inv h
      obtain ⟨ka19, kb19⟩ := isK_of ck19
      obtain ⟨g20, h⟩ := ck_inv h
      refine v_iastore hz dX12_keep_217 ka19 kb19 g20 ?_
      refine v_aload_n hz rfl rfl dX12_keep_218 ?_
      refine v_bipush hz (v := (116 : Int32)) (by decide) dX12_keep_219 ?_
      refine v_iload_n hz rfl rfl dX12_keep_221 ?_
      refine v_iadd hz dX12_keep_222 ?_
      refine v_aload_n hz rfl rfl dX12_keep_223 ?_
      obtain ⟨b21, r21, h⟩ := rb_inv h
      refine v_getR hz fl_X12_73 rfl dX12_keep_224 ka15 kb15 r21 ?_
      refine v_iload_n hz rfl rfl dX12_keep_227 ?_
      obtain ⟨ck22, h⟩ := ck_inv h
      obtain ⟨ka22, kb22⟩ := isK_of ck22
      obtain ⟨g23, h⟩ := ck_inv h
      refine v_iaload hz dX12_keep_228 ka22 kb22 g23 ?_
      obtain ⟨g24, h⟩ := ck_inv h
      refine v_iastore hz dX12_keep_229 ka19 kb19 g24 ?_
      obtain ⟨M25, eM25, h⟩ := nm_inv h
      refine v_mem eM25.symm ?_
      refine v_iinc hz (v := (l2 + (1 : Int32))) (lw := [some (.ref l0), some (.ref l1), some (.int (l2 + (1 : Int32)))]) rfl (congrArg (fun q => l2 + q) (show Int32.ofInt (1) = (1 : Int32) by decide)) rfl rfl dX12_keep_230 ?_
      refine v_goto (tgt := 200) hz dX12_keep_233 (by decide) ?_
      exact v_weak (lvle_s (lvle_s (lvle_s lvle_0))) (ih h)
set_option maxRecDepth 100000 in
set_option maxHeartbeats 4000000 in
theorem gX12_keep_162_s  (n : Nat) (M : Mem) (l0 : Nat) (l1 : Nat) (l2 : Int32) : gX12_keep_162  (n + 1) M l0 l1 l2 = (if (10 : Int32) ≤ l2 then (gX12_keep_200 FU M l0 l1 (0 : Int32)) else (ck (isK M l0 12) <| rb (mR M l0 29) fun b27 => ck (isK M b27 14) <| ck (inb l2 (mG M b27)) <| ck (isK M l1 14) <| ck (inb ((88 : Int32) + l2) (mG M l1)) <| rb (mR (stI M l1 ((88 : Int32) + l2).toNatClampNeg (mI M b27 l2.toNatClampNeg)) l0 30) fun b32 => ck (isK M b32 14) <| ck (inb l2 (mG M b32)) <| ck (inb ((98 : Int32) + l2) (mG M l1)) <| nm (stI (stI M l1 ((88 : Int32) + l2).toNatClampNeg (mI M b27 l2.toNatClampNeg)) l1 ((98 : Int32) + l2).toNatClampNeg (mI (stI M l1 ((88 : Int32) + l2).toNatClampNeg (mI M b27 l2.toNatClampNeg)) b32 l2.toNatClampNeg)) fun M36 => (gX12_keep_162 n) M36 l0 l1 (l2 + (1 : Int32)))) := rfl
set_option maxRecDepth 100000 in
set_option maxHeartbeats 4000000 in
theorem wX12_keep_162 {z : Zx} {fx : Fx} {al : Bool} {r : Nat} {N : Mem} (hz : Zok z fx al yX12_keep.cls yX12_keep.name cX12_keep none 3 (r + 0) 0 0 none N)    : ∀ {n : Nat} {M : Mem} {l0 : Nat} {l1 : Nat} {l2 : Int32}, gX12_keep_162  n M l0 l1 l2 = some ((), N) → V z 162 [some (.ref l0), some (.ref l1), some (.int l2)] [] M 0 0 := by
  intro n
  induction n with
  | zero => intro M l0 l1 l2 h; cases h
  | succ n ih =>
    intro M l0 l1 l2 h
    replace h := (gX12_keep_162_s  n M l0 l1 l2).symm.trans h
    refine v_iload_n hz rfl rfl dX12_keep_162 ?_
    refine v_bipush hz (v := (10 : Int32)) (by decide) dX12_keep_163 ?_
    refine v_icmp_ge (tgt := 198) hz dX12_keep_165 (by decide) (fun hc => ?_) (fun hc => ?_)
    · replace h := (if_pos hc).symm.trans h
      refine v_iconst hz (v := (0 : Int32)) (by decide) dX12_keep_198 ?_
      refine v_istore_n hz (lw := [some (.ref l0), some (.ref l1), some (.int (0 : Int32))]) rfl (Nat.le_of_ble_eq_true rfl) rfl rfl dX12_keep_199 ?_
      exact v_weak (lvle_s (lvle_s (lvle_s lvle_0))) (wX12_keep_200 hz   h)
    · replace h := (if_neg hc).symm.trans h
      refine v_aload_n hz rfl rfl dX12_keep_168 ?_
      refine v_bipush hz (v := (88 : Int32)) (by decide) dX12_keep_169 ?_
      refine v_iload_n hz rfl rfl dX12_keep_171 ?_
      refine v_iadd hz dX12_keep_172 ?_
      refine v_aload_n hz rfl rfl dX12_keep_173 ?_
      obtain ⟨ck26, h⟩ := ck_inv h
      obtain ⟨ka26, kb26⟩ := isK_of ck26
      obtain ⟨b27, r27, h⟩ := rb_inv h
      refine v_getR hz fl_X12_64 rfl dX12_keep_174 ka26 kb26 r27 ?_
      refine v_iload_n hz rfl rfl dX12_keep_177 ?_
      obtain ⟨ck28, h⟩ := ck_inv h
      obtain ⟨ka28, kb28⟩ := isK_of ck28
      obtain ⟨g29, h⟩ := ck_inv h
      refine v_iaload hz dX12_keep_178 ka28 kb28 g29 ?_
      obtain ⟨ck30, h⟩ := ck_inv h
      obtain ⟨ka30, kb30⟩ := isK_of ck30
      obtain ⟨g31, h⟩ := ck_inv h
      refine v_iastore hz dX12_keep_179 ka30 kb30 g31 ?_
      refine v_aload_n hz rfl rfl dX12_keep_180 ?_
      refine v_bipush hz (v := (98 : Int32)) (by decide) dX12_keep_181 ?_
      refine v_iload_n hz rfl rfl dX12_keep_183 ?_
      refine v_iadd hz dX12_keep_184 ?_
      refine v_aload_n hz rfl rfl dX12_keep_185 ?_
      obtain ⟨b32, r32, h⟩ := rb_inv h
      refine v_getR hz fl_X12_67 rfl dX12_keep_186 ka26 kb26 r32 ?_
      refine v_iload_n hz rfl rfl dX12_keep_189 ?_
      obtain ⟨ck33, h⟩ := ck_inv h
      obtain ⟨ka33, kb33⟩ := isK_of ck33
      obtain ⟨g34, h⟩ := ck_inv h
      refine v_iaload hz dX12_keep_190 ka33 kb33 g34 ?_
      obtain ⟨g35, h⟩ := ck_inv h
      refine v_iastore hz dX12_keep_191 ka30 kb30 g35 ?_
      obtain ⟨M36, eM36, h⟩ := nm_inv h
      refine v_mem eM36.symm ?_
      refine v_iinc hz (v := (l2 + (1 : Int32))) (lw := [some (.ref l0), some (.ref l1), some (.int (l2 + (1 : Int32)))]) rfl (congrArg (fun q => l2 + q) (show Int32.ofInt (1) = (1 : Int32) by decide)) rfl rfl dX12_keep_192 ?_
      refine v_goto (tgt := 162) hz dX12_keep_195 (by decide) ?_
      exact v_weak (lvle_s (lvle_s (lvle_s lvle_0))) (ih h)
set_option maxRecDepth 100000 in
set_option maxHeartbeats 4000000 in
theorem gX12_keep_113_s  (n : Nat) (M : Mem) (l0 : Nat) (l1 : Nat) (l2 : Int32) : gX12_keep_113  (n + 1) M l0 l1 l2 = (if (5 : Int32) ≤ l2 then (gX12_keep_162 FU M l0 l1 (0 : Int32)) else (ck (isK M l0 12) <| rb (mR M l0 25) fun b38 => ck (isK M b38 14) <| ck (inb l2 (mG M b38)) <| ck (isK M l1 14) <| ck (inb ((73 : Int32) + l2) (mG M l1)) <| rb (mR (stI M l1 ((73 : Int32) + l2).toNatClampNeg (mI M b38 l2.toNatClampNeg)) l0 26) fun b43 => ck (isK M b43 14) <| ck (inb l2 (mG M b43)) <| ck (inb ((78 : Int32) + l2) (mG M l1)) <| nm (stI (stI M l1 ((73 : Int32) + l2).toNatClampNeg (mI M b38 l2.toNatClampNeg)) l1 ((78 : Int32) + l2).toNatClampNeg (mI (stI M l1 ((73 : Int32) + l2).toNatClampNeg (mI M b38 l2.toNatClampNeg)) b43 l2.toNatClampNeg)) fun M47 => ck (isK M47 l0 12) <| rb (mR M47 l0 27) fun b49 => ck (isK M47 b49 14) <| ck (inb l2 (mG M47 b49)) <| ck (isK M47 l1 14) <| ck (inb ((83 : Int32) + l2) (mG M47 l1)) <| (gX12_keep_113 n) (stI M47 l1 ((83 : Int32) + l2).toNatClampNeg (mI M47 b49 l2.toNatClampNeg)) l0 l1 (l2 + (1 : Int32)))) := rfl
set_option maxRecDepth 100000 in
set_option maxHeartbeats 4000000 in
theorem wX12_keep_113 {z : Zx} {fx : Fx} {al : Bool} {r : Nat} {N : Mem} (hz : Zok z fx al yX12_keep.cls yX12_keep.name cX12_keep none 3 (r + 0) 0 0 none N)    : ∀ {n : Nat} {M : Mem} {l0 : Nat} {l1 : Nat} {l2 : Int32}, gX12_keep_113  n M l0 l1 l2 = some ((), N) → V z 113 [some (.ref l0), some (.ref l1), some (.int l2)] [] M 0 0 := by
  intro n
  induction n with
  | zero => intro M l0 l1 l2 h; cases h
  | succ n ih =>
    intro M l0 l1 l2 h
    replace h := (gX12_keep_113_s  n M l0 l1 l2).symm.trans h
    refine v_iload_n hz rfl rfl dX12_keep_113 ?_
    refine v_iconst hz (v := (5 : Int32)) (by decide) dX12_keep_114 ?_
    refine v_icmp_ge (tgt := 160) hz dX12_keep_115 (by decide) (fun hc => ?_) (fun hc => ?_)
    · replace h := (if_pos hc).symm.trans h
      refine v_iconst hz (v := (0 : Int32)) (by decide) dX12_keep_160 ?_
      refine v_istore_n hz (lw := [some (.ref l0), some (.ref l1), some (.int (0 : Int32))]) rfl (Nat.le_of_ble_eq_true rfl) rfl rfl dX12_keep_161 ?_
      exact v_weak (lvle_s (lvle_s (lvle_s lvle_0))) (wX12_keep_162 hz   h)
    · replace h := (if_neg hc).symm.trans h
      refine v_aload_n hz rfl rfl dX12_keep_118 ?_
      refine v_bipush hz (v := (73 : Int32)) (by decide) dX12_keep_119 ?_
      refine v_iload_n hz rfl rfl dX12_keep_121 ?_
      refine v_iadd hz dX12_keep_122 ?_
      refine v_aload_n hz rfl rfl dX12_keep_123 ?_
      obtain ⟨ck37, h⟩ := ck_inv h
      obtain ⟨ka37, kb37⟩ := isK_of ck37
      obtain ⟨b38, r38, h⟩ := rb_inv h
      refine v_getR hz fl_X12_55 rfl dX12_keep_124 ka37 kb37 r38 ?_
      refine v_iload_n hz rfl rfl dX12_keep_127 ?_
      obtain ⟨ck39, h⟩ := ck_inv h
      obtain ⟨ka39, kb39⟩ := isK_of ck39
      obtain ⟨g40, h⟩ := ck_inv h
      refine v_iaload hz dX12_keep_128 ka39 kb39 g40 ?_
      obtain ⟨ck41, h⟩ := ck_inv h
      obtain ⟨ka41, kb41⟩ := isK_of ck41
      obtain ⟨g42, h⟩ := ck_inv h
      refine v_iastore hz dX12_keep_129 ka41 kb41 g42 ?_
      refine v_aload_n hz rfl rfl dX12_keep_130 ?_
      refine v_bipush hz (v := (78 : Int32)) (by decide) dX12_keep_131 ?_
      refine v_iload_n hz rfl rfl dX12_keep_133 ?_
      refine v_iadd hz dX12_keep_134 ?_
      refine v_aload_n hz rfl rfl dX12_keep_135 ?_
      obtain ⟨b43, r43, h⟩ := rb_inv h
      refine v_getR hz fl_X12_58 rfl dX12_keep_136 ka37 kb37 r43 ?_
      refine v_iload_n hz rfl rfl dX12_keep_139 ?_
      obtain ⟨ck44, h⟩ := ck_inv h
      obtain ⟨ka44, kb44⟩ := isK_of ck44
      obtain ⟨g45, h⟩ := ck_inv h
      refine v_iaload hz dX12_keep_140 ka44 kb44 g45 ?_
      obtain ⟨g46, h⟩ := ck_inv h
      refine v_iastore hz dX12_keep_141 ka41 kb41 g46 ?_
      obtain ⟨M47, eM47, h⟩ := nm_inv h
      refine v_mem eM47.symm ?_
      refine v_aload_n hz rfl rfl dX12_keep_142 ?_
      refine v_bipush hz (v := (83 : Int32)) (by decide) dX12_keep_143 ?_
      refine v_iload_n hz rfl rfl dX12_keep_145 ?_
      refine v_iadd hz dX12_keep_146 ?_
      refine v_aload_n hz rfl rfl dX12_keep_147 ?_
      obtain ⟨ck48, h⟩ := ck_inv h
      obtain ⟨ka48, kb48⟩ := isK_of ck48
      obtain ⟨b49, r49, h⟩ := rb_inv h
      refine v_getR hz fl_X12_61 rfl dX12_keep_148 ka48 kb48 r49 ?_
      refine v_iload_n hz rfl rfl dX12_keep_151 ?_
      obtain ⟨ck50, h⟩ := ck_inv h
      obtain ⟨ka50, kb50⟩ := isK_of ck50
      obtain ⟨g51, h⟩ := ck_inv h
      refine v_iaload hz dX12_keep_152 ka50 kb50 g51 ?_
      obtain ⟨ck52, h⟩ := ck_inv h
      obtain ⟨ka52, kb52⟩ := isK_of ck52
      obtain ⟨g53, h⟩ := ck_inv h
      refine v_iastore hz dX12_keep_153 ka52 kb52 g53 ?_
      refine v_iinc hz (v := (l2 + (1 : Int32))) (lw := [some (.ref l0), some (.ref l1), some (.int (l2 + (1 : Int32)))]) rfl (congrArg (fun q => l2 + q) (show Int32.ofInt (1) = (1 : Int32) by decide)) rfl rfl dX12_keep_154 ?_
      refine v_goto (tgt := 113) hz dX12_keep_157 (by decide) ?_
      exact v_weak (lvle_s (lvle_s (lvle_s lvle_0))) (ih h)
set_option maxRecDepth 100000 in
set_option maxHeartbeats 4000000 in
theorem gX12_keep_87_s  (n : Nat) (M : Mem) (l0 : Nat) (l1 : Nat) (l2 : Int32) : gX12_keep_87  (n + 1) M l0 l1 l2 = (if (24 : Int32) ≤ l2 then (gX12_keep_113 FU M l0 l1 (0 : Int32)) else (ck (isK M l0 12) <| rb (mR M l0 6) fun b55 => ck (isK M b55 14) <| ck (inb l2 (mG M b55)) <| ck (isK M l1 14) <| ck (inb ((49 : Int32) + l2) (mG M l1)) <| (gX12_keep_87 n) (stI M l1 ((49 : Int32) + l2).toNatClampNeg (mI M b55 l2.toNatClampNeg)) l0 l1 (l2 + (1 : Int32)))) := rfl
set_option maxRecDepth 100000 in
set_option maxHeartbeats 4000000 in
theorem wX12_keep_87 {z : Zx} {fx : Fx} {al : Bool} {r : Nat} {N : Mem} (hz : Zok z fx al yX12_keep.cls yX12_keep.name cX12_keep none 3 (r + 0) 0 0 none N)    : ∀ {n : Nat} {M : Mem} {l0 : Nat} {l1 : Nat} {l2 : Int32}, gX12_keep_87  n M l0 l1 l2 = some ((), N) → V z 87 [some (.ref l0), some (.ref l1), some (.int l2)] [] M 0 0 := by
  intro n
  induction n with
  | zero => intro M l0 l1 l2 h; cases h
  | succ n ih =>
    intro M l0 l1 l2 h
    replace h := (gX12_keep_87_s  n M l0 l1 l2).symm.trans h
    refine v_iload_n hz rfl rfl dX12_keep_87 ?_
    refine v_bipush hz (v := (24 : Int32)) (by decide) dX12_keep_88 ?_
    refine v_icmp_ge (tgt := 111) hz dX12_keep_90 (by decide) (fun hc => ?_) (fun hc => ?_)
    · replace h := (if_pos hc).symm.trans h
      refine v_iconst hz (v := (0 : Int32)) (by decide) dX12_keep_111 ?_
      refine v_istore_n hz (lw := [some (.ref l0), some (.ref l1), some (.int (0 : Int32))]) rfl (Nat.le_of_ble_eq_true rfl) rfl rfl dX12_keep_112 ?_
      exact v_weak (lvle_s (lvle_s (lvle_s lvle_0))) (wX12_keep_113 hz   h)
    · replace h := (if_neg hc).symm.trans h
      refine v_aload_n hz rfl rfl dX12_keep_93 ?_
      refine v_bipush hz (v := (49 : Int32)) (by decide) dX12_keep_94 ?_
      refine v_iload_n hz rfl rfl dX12_keep_96 ?_
      refine v_iadd hz dX12_keep_97 ?_
      refine v_aload_n hz rfl rfl dX12_keep_98 ?_
      obtain ⟨ck54, h⟩ := ck_inv h
      obtain ⟨ka54, kb54⟩ := isK_of ck54
      obtain ⟨b55, r55, h⟩ := rb_inv h
      refine v_getR hz fl_X12_27 rfl dX12_keep_99 ka54 kb54 r55 ?_
      refine v_iload_n hz rfl rfl dX12_keep_102 ?_
      obtain ⟨ck56, h⟩ := ck_inv h
      obtain ⟨ka56, kb56⟩ := isK_of ck56
      obtain ⟨g57, h⟩ := ck_inv h
      refine v_iaload hz dX12_keep_103 ka56 kb56 g57 ?_
      obtain ⟨ck58, h⟩ := ck_inv h
      obtain ⟨ka58, kb58⟩ := isK_of ck58
      obtain ⟨g59, h⟩ := ck_inv h
      refine v_iastore hz dX12_keep_104 ka58 kb58 g59 ?_
      refine v_iinc hz (v := (l2 + (1 : Int32))) (lw := [some (.ref l0), some (.ref l1), some (.int (l2 + (1 : Int32)))]) rfl (congrArg (fun q => l2 + q) (show Int32.ofInt (1) = (1 : Int32) by decide)) rfl rfl dX12_keep_105 ?_
      refine v_goto (tgt := 87) hz dX12_keep_108 (by decide) ?_
      exact v_weak (lvle_s (lvle_s (lvle_s lvle_0))) (ih h)
set_option maxRecDepth 100000 in
set_option maxHeartbeats 4000000 in
theorem gX12_keep_25_s  (n : Nat) (M : Mem) (l0 : Nat) (l1 : Nat) (l2 : Int32) : gX12_keep_25  (n + 1) M l0 l1 l2 = (if (6 : Int32) ≤ l2 then (gX12_keep_87 FU M l0 l1 (0 : Int32)) else (ck (isK M l0 12) <| rb (mR M l0 2) fun b61 => ck (isK M b61 14) <| ck (inb l2 (mG M b61)) <| ck (isK M l1 14) <| ck (inb ((25 : Int32) + l2) (mG M l1)) <| rb (mR (stI M l1 ((25 : Int32) + l2).toNatClampNeg (mI M b61 l2.toNatClampNeg)) l0 3) fun b66 => ck (isK M b66 14) <| ck (inb l2 (mG M b66)) <| ck (inb ((31 : Int32) + l2) (mG M l1)) <| nm (stI (stI M l1 ((25 : Int32) + l2).toNatClampNeg (mI M b61 l2.toNatClampNeg)) l1 ((31 : Int32) + l2).toNatClampNeg (mI (stI M l1 ((25 : Int32) + l2).toNatClampNeg (mI M b61 l2.toNatClampNeg)) b66 l2.toNatClampNeg)) fun M70 => ck (isK M70 l0 12) <| rb (mR M70 l0 4) fun b72 => ck (isK M70 b72 14) <| ck (inb l2 (mG M70 b72)) <| ck (isK M70 l1 14) <| ck (inb ((37 : Int32) + l2) (mG M70 l1)) <| rb (mR (stI M70 l1 ((37 : Int32) + l2).toNatClampNeg (mI M70 b72 l2.toNatClampNeg)) l0 5) fun b77 => ck (isK M70 b77 14) <| ck (inb l2 (mG M70 b77)) <| ck (inb ((43 : Int32) + l2) (mG M70 l1)) <| nm (stI (stI M70 l1 ((37 : Int32) + l2).toNatClampNeg (mI M70 b72 l2.toNatClampNeg)) l1 ((43 : Int32) + l2).toNatClampNeg (mI (stI M70 l1 ((37 : Int32) + l2).toNatClampNeg (mI M70 b72 l2.toNatClampNeg)) b77 l2.toNatClampNeg)) fun M81 => (gX12_keep_25 n) M81 l0 l1 (l2 + (1 : Int32)))) := rfl
set_option maxRecDepth 100000 in
set_option maxHeartbeats 4000000 in
theorem wX12_keep_25 {z : Zx} {fx : Fx} {al : Bool} {r : Nat} {N : Mem} (hz : Zok z fx al yX12_keep.cls yX12_keep.name cX12_keep none 3 (r + 0) 0 0 none N)    : ∀ {n : Nat} {M : Mem} {l0 : Nat} {l1 : Nat} {l2 : Int32}, gX12_keep_25  n M l0 l1 l2 = some ((), N) → V z 25 [some (.ref l0), some (.ref l1), some (.int l2)] [] M 0 0 := by
  intro n
  induction n with
  | zero => intro M l0 l1 l2 h; cases h
  | succ n ih =>
    intro M l0 l1 l2 h
    replace h := (gX12_keep_25_s  n M l0 l1 l2).symm.trans h
    refine v_iload_n hz rfl rfl dX12_keep_25 ?_
    refine v_bipush hz (v := (6 : Int32)) (by decide) dX12_keep_26 ?_
    refine v_icmp_ge (tgt := 85) hz dX12_keep_28 (by decide) (fun hc => ?_) (fun hc => ?_)
    · replace h := (if_pos hc).symm.trans h
      refine v_iconst hz (v := (0 : Int32)) (by decide) dX12_keep_85 ?_
      refine v_istore_n hz (lw := [some (.ref l0), some (.ref l1), some (.int (0 : Int32))]) rfl (Nat.le_of_ble_eq_true rfl) rfl rfl dX12_keep_86 ?_
      exact v_weak (lvle_s (lvle_s (lvle_s lvle_0))) (wX12_keep_87 hz   h)
    · replace h := (if_neg hc).symm.trans h
      refine v_aload_n hz rfl rfl dX12_keep_31 ?_
      refine v_bipush hz (v := (25 : Int32)) (by decide) dX12_keep_32 ?_
      refine v_iload_n hz rfl rfl dX12_keep_34 ?_
      refine v_iadd hz dX12_keep_35 ?_
      refine v_aload_n hz rfl rfl dX12_keep_36 ?_
      obtain ⟨ck60, h⟩ := ck_inv h
      obtain ⟨ka60, kb60⟩ := isK_of ck60
      obtain ⟨b61, r61, h⟩ := rb_inv h
      refine v_getR hz fl_X12_15 rfl dX12_keep_37 ka60 kb60 r61 ?_
      refine v_iload_n hz rfl rfl dX12_keep_40 ?_
      obtain ⟨ck62, h⟩ := ck_inv h
      obtain ⟨ka62, kb62⟩ := isK_of ck62
      obtain ⟨g63, h⟩ := ck_inv h
      refine v_iaload hz dX12_keep_41 ka62 kb62 g63 ?_
      obtain ⟨ck64, h⟩ := ck_inv h
      obtain ⟨ka64, kb64⟩ := isK_of ck64
      obtain ⟨g65, h⟩ := ck_inv h
      refine v_iastore hz dX12_keep_42 ka64 kb64 g65 ?_
      refine v_aload_n hz rfl rfl dX12_keep_43 ?_
      refine v_bipush hz (v := (31 : Int32)) (by decide) dX12_keep_44 ?_
      refine v_iload_n hz rfl rfl dX12_keep_46 ?_
      refine v_iadd hz dX12_keep_47 ?_
      refine v_aload_n hz rfl rfl dX12_keep_48 ?_
      obtain ⟨b66, r66, h⟩ := rb_inv h
      refine v_getR hz fl_X12_18 rfl dX12_keep_49 ka60 kb60 r66 ?_
      refine v_iload_n hz rfl rfl dX12_keep_52 ?_
      obtain ⟨ck67, h⟩ := ck_inv h
      obtain ⟨ka67, kb67⟩ := isK_of ck67
      obtain ⟨g68, h⟩ := ck_inv h
      refine v_iaload hz dX12_keep_53 ka67 kb67 g68 ?_
      obtain ⟨g69, h⟩ := ck_inv h
      refine v_iastore hz dX12_keep_54 ka64 kb64 g69 ?_
      obtain ⟨M70, eM70, h⟩ := nm_inv h
      refine v_mem eM70.symm ?_
      refine v_aload_n hz rfl rfl dX12_keep_55 ?_
      refine v_bipush hz (v := (37 : Int32)) (by decide) dX12_keep_56 ?_
      refine v_iload_n hz rfl rfl dX12_keep_58 ?_
      refine v_iadd hz dX12_keep_59 ?_
      refine v_aload_n hz rfl rfl dX12_keep_60 ?_
      obtain ⟨ck71, h⟩ := ck_inv h
      obtain ⟨ka71, kb71⟩ := isK_of ck71
      obtain ⟨b72, r72, h⟩ := rb_inv h
      refine v_getR hz fl_X12_21 rfl dX12_keep_61 ka71 kb71 r72 ?_
      refine v_iload_n hz rfl rfl dX12_keep_64 ?_
      obtain ⟨ck73, h⟩ := ck_inv h
      obtain ⟨ka73, kb73⟩ := isK_of ck73
      obtain ⟨g74, h⟩ := ck_inv h
      refine v_iaload hz dX12_keep_65 ka73 kb73 g74 ?_
      obtain ⟨ck75, h⟩ := ck_inv h
      obtain ⟨ka75, kb75⟩ := isK_of ck75
      obtain ⟨g76, h⟩ := ck_inv h
      refine v_iastore hz dX12_keep_66 ka75 kb75 g76 ?_
      refine v_aload_n hz rfl rfl dX12_keep_67 ?_
      refine v_bipush hz (v := (43 : Int32)) (by decide) dX12_keep_68 ?_
      refine v_iload_n hz rfl rfl dX12_keep_70 ?_
      refine v_iadd hz dX12_keep_71 ?_
      refine v_aload_n hz rfl rfl dX12_keep_72 ?_
      obtain ⟨b77, r77, h⟩ := rb_inv h
      refine v_getR hz fl_X12_24 rfl dX12_keep_73 ka71 kb71 r77 ?_
      refine v_iload_n hz rfl rfl dX12_keep_76 ?_
      obtain ⟨ck78, h⟩ := ck_inv h
      obtain ⟨ka78, kb78⟩ := isK_of ck78
      obtain ⟨g79, h⟩ := ck_inv h
      refine v_iaload hz dX12_keep_77 ka78 kb78 g79 ?_
      obtain ⟨g80, h⟩ := ck_inv h
      refine v_iastore hz dX12_keep_78 ka75 kb75 g80 ?_
      obtain ⟨M81, eM81, h⟩ := nm_inv h
      refine v_mem eM81.symm ?_
      refine v_iinc hz (v := (l2 + (1 : Int32))) (lw := [some (.ref l0), some (.ref l1), some (.int (l2 + (1 : Int32)))]) rfl (congrArg (fun q => l2 + q) (show Int32.ofInt (1) = (1 : Int32) by decide)) rfl rfl dX12_keep_79 ?_
      refine v_goto (tgt := 25) hz dX12_keep_82 (by decide) ?_
      exact v_weak (lvle_s (lvle_s (lvle_s lvle_0))) (ih h)
set_option maxRecDepth 100000 in
set_option maxHeartbeats 4000000 in
theorem gX12_keep_2_s  (n : Nat) (M : Mem) (l0 : Nat) (l1 : Nat) (l2 : Int32) : gX12_keep_2  (n + 1) M l0 l1 l2 = (if (25 : Int32) ≤ l2 then (gX12_keep_25 FU M l0 l1 (0 : Int32)) else (ck (isK M l0 12) <| rb (mR M l0 0) fun b83 => ck (isK M b83 14) <| ck (inb l2 (mG M b83)) <| ck (isK M l1 14) <| ck (inb l2 (mG M l1)) <| (gX12_keep_2 n) (stI M l1 l2.toNatClampNeg (mI M b83 l2.toNatClampNeg)) l0 l1 (l2 + (1 : Int32)))) := rfl
set_option maxRecDepth 100000 in
set_option maxHeartbeats 4000000 in
theorem wX12_keep_2 {z : Zx} {fx : Fx} {al : Bool} {r : Nat} {N : Mem} (hz : Zok z fx al yX12_keep.cls yX12_keep.name cX12_keep none 3 (r + 0) 0 0 none N)    : ∀ {n : Nat} {M : Mem} {l0 : Nat} {l1 : Nat} {l2 : Int32}, gX12_keep_2  n M l0 l1 l2 = some ((), N) → V z 2 [some (.ref l0), some (.ref l1), some (.int l2)] [] M 0 0 := by
  intro n
  induction n with
  | zero => intro M l0 l1 l2 h; cases h
  | succ n ih =>
    intro M l0 l1 l2 h
    replace h := (gX12_keep_2_s  n M l0 l1 l2).symm.trans h
    refine v_iload_n hz rfl rfl dX12_keep_2 ?_
    refine v_bipush hz (v := (25 : Int32)) (by decide) dX12_keep_3 ?_
    refine v_icmp_ge (tgt := 23) hz dX12_keep_5 (by decide) (fun hc => ?_) (fun hc => ?_)
    · replace h := (if_pos hc).symm.trans h
      refine v_iconst hz (v := (0 : Int32)) (by decide) dX12_keep_23 ?_
      refine v_istore_n hz (lw := [some (.ref l0), some (.ref l1), some (.int (0 : Int32))]) rfl (Nat.le_of_ble_eq_true rfl) rfl rfl dX12_keep_24 ?_
      exact v_weak (lvle_s (lvle_s (lvle_s lvle_0))) (wX12_keep_25 hz   h)
    · replace h := (if_neg hc).symm.trans h
      refine v_aload_n hz rfl rfl dX12_keep_8 ?_
      refine v_iload_n hz rfl rfl dX12_keep_9 ?_
      refine v_aload_n hz rfl rfl dX12_keep_10 ?_
      obtain ⟨ck82, h⟩ := ck_inv h
      obtain ⟨ka82, kb82⟩ := isK_of ck82
      obtain ⟨b83, r83, h⟩ := rb_inv h
      refine v_getR hz fl_X12_9 rfl dX12_keep_11 ka82 kb82 r83 ?_
      refine v_iload_n hz rfl rfl dX12_keep_14 ?_
      obtain ⟨ck84, h⟩ := ck_inv h
      obtain ⟨ka84, kb84⟩ := isK_of ck84
      obtain ⟨g85, h⟩ := ck_inv h
      refine v_iaload hz dX12_keep_15 ka84 kb84 g85 ?_
      obtain ⟨ck86, h⟩ := ck_inv h
      obtain ⟨ka86, kb86⟩ := isK_of ck86
      obtain ⟨g87, h⟩ := ck_inv h
      refine v_iastore hz dX12_keep_16 ka86 kb86 g87 ?_
      refine v_iinc hz (v := (l2 + (1 : Int32))) (lw := [some (.ref l0), some (.ref l1), some (.int (l2 + (1 : Int32)))]) rfl (congrArg (fun q => l2 + q) (show Int32.ofInt (1) = (1 : Int32) by decide)) rfl rfl dX12_keep_17 ?_
      refine v_goto (tgt := 2) hz dX12_keep_20 (by decide) ?_
      exact v_weak (lvle_s (lvle_s (lvle_s lvle_0))) (ih h)
set_option maxRecDepth 100000 in
set_option maxHeartbeats 4000000 in
theorem tX12_keep (r : Nat) {fx : Fx} {al : Bool} {M N : Mem} {a0 : Nat} {a1 : Nat}  (h : fX12_keep M a0 a1 = some ((), N)) : Ct fx yX12_keep cX12_keep 3 none (r + 0) 0 0 al [.ref a0, .ref a1] M none N := by
  refine ct_of (lv := [some (.ref a0), some (.ref a1), none]) (by decide) (Nat.le_of_ble_eq_true rfl) rfl rfl (fun z hz => ?_)
  unfold fX12_keep at h
  refine v_iconst hz (v := (0 : Int32)) (by decide) dX12_keep_0 ?_
  refine v_istore_n hz (lw := [some (.ref a0), some (.ref a1), some (.int (0 : Int32))]) rfl (Nat.le_of_ble_eq_true rfl) rfl rfl dX12_keep_1 ?_
  exact v_weak (lvle_s (lvle_s (lvle_s lvle_0))) (wX12_keep_2 hz   h)
