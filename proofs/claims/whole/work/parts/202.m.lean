noncomputable def fX4_pullBy (M : Mem) (a0 : Nat) (a1 : Int32) (a2 : Nat) (a3 : Int32) (a4 : Int32) : Option (Int32 × Mem) :=
  ck (isK M a2 3) <| if ((mI M a2 2) - (mI M a2 2) / (2 : Int32) * (2 : Int32)) = (1 : Int32) then (some ((a1 / (2 : Int32)), M)) else (some (a1, M))
set_option maxRecDepth 100000 in
set_option maxHeartbeats 4000000 in
theorem tX4_pullBy (r : Nat) {fx : Fx} {al : Bool} {M N : Mem} {a0 : Nat} {a1 : Int32} {a2 : Nat} {a3 : Int32} {a4 : Int32} {xr : Int32}  (h : fX4_pullBy M a0 a1 a2 a3 a4 = some (xr, N)) : Ct fx yX4_pullBy cX4_pullBy 5 (some .int) (r + 0) 0 0 al [.ref a0, .int a1, .ref a2, .int a3, .int a4] M (some (.int xr)) N := by
  refine ct_of (lv := [some (.ref a0), some (.int a1), some (.ref a2), some (.int a3), some (.int a4)]) (by decide) (Nat.le_of_ble_eq_true rfl) rfl rfl (fun z hz => ?_)
  unfold fX4_pullBy at h
  refine v_aload_n hz rfl rfl dX4_pullBy_0 ?_
  obtain ⟨ck1, h⟩ := ck_inv h
  obtain ⟨ka1, kb1⟩ := isK_of ck1
  refine v_getI hz fl_X4_7 rfl dX4_pullBy_1 ka1 kb1 ?_
  refine v_iconst hz (v := (2 : Int32)) (by decide) dX4_pullBy_4 ?_
  refine v_irem hz (by decide) dX4_pullBy_5 ?_
  refine v_iconst hz (v := (1 : Int32)) (by decide) dX4_pullBy_6 ?_
  refine v_icmp_ne (tgt := 16) hz dX4_pullBy_7 (by decide) (fun hc => ?_) (fun hc => ?_)
  · replace h := (if_neg hc).symm.trans h
    refine v_iload_n hz rfl rfl dX4_pullBy_16 ?_
    obtain ⟨rfl, rfl⟩ := sp_inv h
    exact v_iret hz dX4_pullBy_17 (by decide) (by decide)
  · replace h := (if_pos hc).symm.trans h
    refine v_iload_n hz rfl rfl dX4_pullBy_10 ?_
    refine v_iconst hz (v := (2 : Int32)) (by decide) dX4_pullBy_11 ?_
    refine v_idiv hz (by decide) dX4_pullBy_12 ?_
    refine v_goto (tgt := 17) hz dX4_pullBy_13 (by decide) ?_
    obtain ⟨rfl, rfl⟩ := sp_inv h
    exact v_iret hz dX4_pullBy_17 (by decide) (by decide)
noncomputable def fX8_pullBy (M : Mem) (a0 : Nat) (a1 : Int32) (a2 : Nat) (a3 : Int32) (a4 : Int32) : Option (Int32 × Mem) :=
  ck (isK M a2 3) <| rb (mR M a2 9) fun b2 => ck (isK M b2 14) <| ck (inb ((a3 * (4 : Int32)) + ((mI M a2 2) - (mI M a2 2) / (4 : Int32) * (4 : Int32))) (mG M b2)) <| bd (fX4_pullBy M a0 a1 a2 a3 a4) fun x5 M5 => ck (isW M a0) <| some ((x5 + (mI M b2 ((a3 * (4 : Int32)) + ((mI M a2 2) - (mI M a2 2) / (4 : Int32) * (4 : Int32))).toNatClampNeg)), M5)
set_option maxRecDepth 100000 in
set_option maxHeartbeats 4000000 in
theorem tX8_pullBy (r : Nat) {fx : Fx} {al : Bool} {M N : Mem} {a0 : Nat} {a1 : Int32} {a2 : Nat} {a3 : Int32} {a4 : Int32} {xr : Int32}  (h : fX8_pullBy M a0 a1 a2 a3 a4 = some (xr, N)) : Ct fx yX8_pullBy cX8_pullBy 6 (some .int) (r + 1) 0 0 al [.ref a0, .int a1, .ref a2, .int a3, .int a4] M (some (.int xr)) N := by
  refine ct_of (lv := [some (.ref a0), some (.int a1), some (.ref a2), some (.int a3), some (.int a4), none]) (by decide) (Nat.le_of_ble_eq_true rfl) rfl rfl (fun z hz => ?_)
  unfold fX8_pullBy at h
  refine v_aload_n hz rfl rfl dX8_pullBy_0 ?_
  obtain ⟨ck1, h⟩ := ck_inv h
  obtain ⟨ka1, kb1⟩ := isK_of ck1
  obtain ⟨b2, r2, h⟩ := rb_inv h
  refine v_getR hz fl_X8_9 rfl dX8_pullBy_1 ka1 kb1 r2 ?_
  refine v_iload_n hz rfl rfl dX8_pullBy_4 ?_
  refine v_iconst hz (v := (4 : Int32)) (by decide) dX8_pullBy_5 ?_
  refine v_imul hz dX8_pullBy_6 ?_
  refine v_aload_n hz rfl rfl dX8_pullBy_7 ?_
  refine v_getI hz fl_X8_15 rfl dX8_pullBy_8 ka1 kb1 ?_
  refine v_iconst hz (v := (4 : Int32)) (by decide) dX8_pullBy_11 ?_
  refine v_irem hz (by decide) dX8_pullBy_12 ?_
  refine v_iadd hz dX8_pullBy_13 ?_
  obtain ⟨ck3, h⟩ := ck_inv h
  obtain ⟨ka3, kb3⟩ := isK_of ck3
  obtain ⟨g4, h⟩ := ck_inv h
  refine v_iaload hz dX8_pullBy_14 ka3 kb3 g4 ?_
  refine v_istore hz (lw := [some (.ref a0), some (.int a1), some (.ref a2), some (.int a3), some (.int a4), some (.int (mI M b2 ((a3 * (4 : Int32)) + ((mI M a2 2) - (mI M a2 2) / (4 : Int32) * (4 : Int32))).toNatClampNeg))]) (Nat.le_of_ble_eq_true rfl) rfl rfl dX8_pullBy_15 ?_
  refine v_aload_n hz rfl rfl dX8_pullBy_17 ?_
  refine v_iload_n hz rfl rfl dX8_pullBy_18 ?_
  refine v_aload_n hz rfl rfl dX8_pullBy_19 ?_
  refine v_iload_n hz rfl rfl dX8_pullBy_20 ?_
  refine v_iload hz rfl dX8_pullBy_21 ?_
  obtain ⟨x5, M5, e5, h⟩ := bd_inv h
  obtain ⟨g6, h⟩ := ck_inv h
  refine v_callSUw hz (As := [.int a1, .ref a2, .int a3, .int a4]) upl_X8_19 (tX4_pullBy (r + 0) e5) g6 rfl rfl rfl (Nat.le_of_ble_eq_true rfl) ⟨by decide, by decide⟩ dX8_pullBy_23 ?_
  show V z 26 [some (.ref a0), some (.int a1), some (.ref a2), some (.int a3), some (.int a4), some (.int (mI M b2 ((a3 * (4 : Int32)) + ((mI M a2 2) - (mI M a2 2) / (4 : Int32) * (4 : Int32))).toNatClampNeg))] [.int x5] M5 0 0
  refine v_iload hz rfl dX8_pullBy_26 ?_
  refine v_iadd hz dX8_pullBy_28 ?_
  obtain ⟨rfl, rfl⟩ := sp_inv h
  exact v_iret hz dX8_pullBy_29 (by decide) (by decide)
noncomputable def fX10_pullBy (M : Mem) (a0 : Nat) (a1 : Int32) (a2 : Nat) (a3 : Int32) (a4 : Int32) : Option (Int32 × Mem) :=
  some (a1, M)
set_option maxRecDepth 100000 in
set_option maxHeartbeats 4000000 in
theorem tX10_pullBy (r : Nat) {fx : Fx} {al : Bool} {M N : Mem} {a0 : Nat} {a1 : Int32} {a2 : Nat} {a3 : Int32} {a4 : Int32} {xr : Int32}  (h : fX10_pullBy M a0 a1 a2 a3 a4 = some (xr, N)) : Ct fx yX10_pullBy cX10_pullBy 5 (some .int) (r + 0) 0 0 al [.ref a0, .int a1, .ref a2, .int a3, .int a4] M (some (.int xr)) N := by
  refine ct_of (lv := [some (.ref a0), some (.int a1), some (.ref a2), some (.int a3), some (.int a4)]) (by decide) (Nat.le_of_ble_eq_true rfl) rfl rfl (fun z hz => ?_)
  unfold fX10_pullBy at h
  refine v_iload_n hz rfl rfl dX10_pullBy_0 ?_
  obtain ⟨rfl, rfl⟩ := sp_inv h
  exact v_iret hz dX10_pullBy_1 (by decide) (by decide)
noncomputable def vt10_pullBy (M : Mem) (a0 : Nat) (a1 : Int32) (a2 : Nat) (a3 : Int32) (a4 : Int32) : Option (Int32 × Mem) := ck (decide (a0 < mN M)) <| if mK M a0 = 0 then fX0_pullBy M a0 a1 a2 a3 a4 else if mK M a0 = 2 then fX2_pullBy M a0 a1 a2 a3 a4 else if mK M a0 = 4 then fX4_pullBy M a0 a1 a2 a3 a4 else if mK M a0 = 6 then fX6_pullBy M a0 a1 a2 a3 a4 else if mK M a0 = 8 then fX8_pullBy M a0 a1 a2 a3 a4 else if mK M a0 = 9 then fX10_pullBy M a0 a1 a2 a3 a4 else if mK M a0 = 10 then fX10_pullBy M a0 a1 a2 a3 a4 else none
noncomputable def fX3_pullOn (M : Mem) (a0 : Nat) (a1 : Int32) (a2 : Int32) : Option (Int32 × Mem) :=
  ck (isK M a0 3) <| rb (mR M a0 10) fun b2 => ck (isK M b2 14) <| ck (inb (0 : Int32) (mG M b2)) <| rb (mR (stI M b2 (0 : Int32).toNatClampNeg a1) a0 5) fun b5 => ck (isK M b5 14) <| ck (inb a1 (mG M b5)) <| ck (inb (1 : Int32) (mG M b2)) <| rb (mR (stI (stI M b2 (0 : Int32).toNatClampNeg a1) b2 (1 : Int32).toNatClampNeg (mI (stI M b2 (0 : Int32).toNatClampNeg a1) b5 a1.toNatClampNeg)) a0 6) fun b9 => ck (isK M b9 14) <| ck (inb a1 (mG M b9)) <| ck (inb (2 : Int32) (mG M b2)) <| nm (stI (stI (stI M b2 (0 : Int32).toNatClampNeg a1) b2 (1 : Int32).toNatClampNeg (mI (stI M b2 (0 : Int32).toNatClampNeg a1) b5 a1.toNatClampNeg)) b2 (2 : Int32).toNatClampNeg (mI (stI (stI M b2 (0 : Int32).toNatClampNeg a1) b2 (1 : Int32).toNatClampNeg (mI (stI M b2 (0 : Int32).toNatClampNeg a1) b5 a1.toNatClampNeg)) b9 a1.toNatClampNeg)) fun M13 => ck (isK M13 a0 3) <| rb (mR M13 a0 10) fun b15 => ck (isK M13 b15 14) <| ck (inb (3 : Int32) (mG M13 b15)) <| rb (mR (stI M13 b15 (3 : Int32).toNatClampNeg a2) a0 3) fun b18 => ck (isK M13 b18 14) <| ck (inb a2 (mG M13 b18)) <| ck (inb (4 : Int32) (mG M13 b15)) <| nm (stI (stI M13 b15 (3 : Int32).toNatClampNeg a2) b15 (4 : Int32).toNatClampNeg ((mI (stI M13 b15 (3 : Int32).toNatClampNeg a2) b18 a2.toNatClampNeg) / (10 : Int32))) fun M22 => ck (isK M22 a0 3) <| rb (mR M22 a0 10) fun b24 => ck (isK M22 b24 14) <| ck (inb (5 : Int32) (mG M22 b24)) <| bd (fX3_kindOf (stI M22 b24 (5 : Int32).toNatClampNeg ((mI M22 a0 2) - (mI M22 a0 2) / (10 : Int32) * (10 : Int32))) a0 a1) fun x27 M27 => ck (isK M27 a0 3) <| rb (mR M27 a0 3) fun b29 => ck (isK M27 b29 14) <| ck (inb a2 (mG M27 b29)) <| rb (mR M27 a0 1) fun b32 => rb (mR M27 a0 10) fun b33 => ck (isK M27 b32 7) <| bd (fX7_drawsBy M27 b32 b33) fun x35 M35 => bd (vt10_pullBy M35 x27 ((mI M27 b29 a2.toNatClampNeg) + x35) a0 a1 a2) fun x36 M36 => some (x36, M36)
set_option maxRecDepth 100000 in
set_option maxHeartbeats 4000000 in
theorem tX3_pullOn (r : Nat) {fx : Fx} {al : Bool} {M N : Mem} {a0 : Nat} {a1 : Int32} {a2 : Int32} {xr : Int32}  (h : fX3_pullOn M a0 a1 a2 = some (xr, N)) : Ct fx yX3_pullOn cX3_pullOn 3 (some .int) (r + 2) 0 0 al [.ref a0, .int a1, .int a2] M (some (.int xr)) N := by
  refine ct_of (lv := [some (.ref a0), some (.int a1), some (.int a2)]) (by decide) (Nat.le_of_ble_eq_true rfl) rfl rfl (fun z hz => ?_)
  unfold fX3_pullOn at h
  refine v_aload_n hz rfl rfl dX3_pullOn_0 ?_
  obtain ⟨ck1, h⟩ := ck_inv h
  obtain ⟨ka1, kb1⟩ := isK_of ck1
  obtain ⟨b2, r2, h⟩ := rb_inv h
  refine v_getR hz fl_X3_31 rfl dX3_pullOn_1 ka1 kb1 r2 ?_
  refine v_iconst hz (v := (0 : Int32)) (by decide) dX3_pullOn_4 ?_
  refine v_iload_n hz rfl rfl dX3_pullOn_5 ?_
  obtain ⟨ck3, h⟩ := ck_inv h
  obtain ⟨ka3, kb3⟩ := isK_of ck3
  obtain ⟨g4, h⟩ := ck_inv h
  refine v_iastore hz dX3_pullOn_6 ka3 kb3 g4 ?_
  refine v_aload_n hz rfl rfl dX3_pullOn_7 ?_
  refine v_getR hz fl_X3_31 rfl dX3_pullOn_8 ka1 kb1 r2 ?_
  refine v_iconst hz (v := (1 : Int32)) (by decide) dX3_pullOn_11 ?_
  refine v_aload_n hz rfl rfl dX3_pullOn_12 ?_
  obtain ⟨b5, r5, h⟩ := rb_inv h
  refine v_getR hz fl_X3_15 rfl dX3_pullOn_13 ka1 kb1 r5 ?_
  refine v_iload_n hz rfl rfl dX3_pullOn_16 ?_
  obtain ⟨ck6, h⟩ := ck_inv h
  obtain ⟨ka6, kb6⟩ := isK_of ck6
  obtain ⟨g7, h⟩ := ck_inv h
  refine v_iaload hz dX3_pullOn_17 ka6 kb6 g7 ?_
  obtain ⟨g8, h⟩ := ck_inv h
  refine v_iastore hz dX3_pullOn_18 ka3 kb3 g8 ?_
  refine v_aload_n hz rfl rfl dX3_pullOn_19 ?_
  refine v_getR hz fl_X3_31 rfl dX3_pullOn_20 ka1 kb1 r2 ?_
  refine v_iconst hz (v := (2 : Int32)) (by decide) dX3_pullOn_23 ?_
  refine v_aload_n hz rfl rfl dX3_pullOn_24 ?_
  obtain ⟨b9, r9, h⟩ := rb_inv h
  refine v_getR hz fl_X3_18 rfl dX3_pullOn_25 ka1 kb1 r9 ?_
  refine v_iload_n hz rfl rfl dX3_pullOn_28 ?_
  obtain ⟨ck10, h⟩ := ck_inv h
  obtain ⟨ka10, kb10⟩ := isK_of ck10
  obtain ⟨g11, h⟩ := ck_inv h
  refine v_iaload hz dX3_pullOn_29 ka10 kb10 g11 ?_
  obtain ⟨g12, h⟩ := ck_inv h
  refine v_iastore hz dX3_pullOn_30 ka3 kb3 g12 ?_
  obtain ⟨M13, eM13, h⟩ := nm_inv h
  refine v_mem eM13.symm ?_
  refine v_aload_n hz rfl rfl dX3_pullOn_31 ?_
  obtain ⟨ck14, h⟩ := ck_inv h
  obtain ⟨ka14, kb14⟩ := isK_of ck14
  obtain ⟨b15, r15, h⟩ := rb_inv h
  refine v_getR hz fl_X3_31 rfl dX3_pullOn_32 ka14 kb14 r15 ?_
  refine v_iconst hz (v := (3 : Int32)) (by decide) dX3_pullOn_35 ?_
  refine v_iload_n hz rfl rfl dX3_pullOn_36 ?_
  obtain ⟨ck16, h⟩ := ck_inv h
  obtain ⟨ka16, kb16⟩ := isK_of ck16
  obtain ⟨g17, h⟩ := ck_inv h
  refine v_iastore hz dX3_pullOn_37 ka16 kb16 g17 ?_
  refine v_aload_n hz rfl rfl dX3_pullOn_38 ?_
  refine v_getR hz fl_X3_31 rfl dX3_pullOn_39 ka14 kb14 r15 ?_
  refine v_iconst hz (v := (4 : Int32)) (by decide) dX3_pullOn_42 ?_
  refine v_aload_n hz rfl rfl dX3_pullOn_43 ?_
  obtain ⟨b18, r18, h⟩ := rb_inv h
  refine v_getR hz fl_X3_9 rfl dX3_pullOn_44 ka14 kb14 r18 ?_
  refine v_iload_n hz rfl rfl dX3_pullOn_47 ?_
  obtain ⟨ck19, h⟩ := ck_inv h
  obtain ⟨ka19, kb19⟩ := isK_of ck19
  obtain ⟨g20, h⟩ := ck_inv h
  refine v_iaload hz dX3_pullOn_48 ka19 kb19 g20 ?_
  refine v_bipush hz (v := (10 : Int32)) (by decide) dX3_pullOn_49 ?_
  refine v_idiv hz (by decide) dX3_pullOn_51 ?_
  obtain ⟨g21, h⟩ := ck_inv h
  refine v_iastore hz dX3_pullOn_52 ka16 kb16 g21 ?_
  obtain ⟨M22, eM22, h⟩ := nm_inv h
  refine v_mem eM22.symm ?_
  refine v_aload_n hz rfl rfl dX3_pullOn_53 ?_
  obtain ⟨ck23, h⟩ := ck_inv h
  obtain ⟨ka23, kb23⟩ := isK_of ck23
  obtain ⟨b24, r24, h⟩ := rb_inv h
  refine v_getR hz fl_X3_31 rfl dX3_pullOn_54 ka23 kb23 r24 ?_
  refine v_iconst hz (v := (5 : Int32)) (by decide) dX3_pullOn_57 ?_
  refine v_aload_n hz rfl rfl dX3_pullOn_58 ?_
  refine v_getI hz fl_X3_42 rfl dX3_pullOn_59 ka23 kb23 ?_
  refine v_bipush hz (v := (10 : Int32)) (by decide) dX3_pullOn_62 ?_
  refine v_irem hz (by decide) dX3_pullOn_64 ?_
  obtain ⟨ck25, h⟩ := ck_inv h
  obtain ⟨ka25, kb25⟩ := isK_of ck25
  obtain ⟨g26, h⟩ := ck_inv h
  refine v_iastore hz dX3_pullOn_65 ka25 kb25 g26 ?_
  refine v_aload_n hz rfl rfl dX3_pullOn_66 ?_
  refine v_iload_n hz rfl rfl dX3_pullOn_67 ?_
  obtain ⟨x27, M27, e27, h⟩ := bd_inv h
  refine v_callV hz (As := [.int a1]) vl_X3_73 (tX3_kindOf (r + 1) e27) rfl (by decide) ka23 kb23 rfl rfl rfl (Nat.le_of_ble_eq_true rfl) ⟨by decide, by decide⟩ dX3_pullOn_68 ?_
  show V z 71 [some (.ref a0), some (.int a1), some (.int a2)] [.ref x27] M27 0 0
  refine v_aload_n hz rfl rfl dX3_pullOn_71 ?_
  obtain ⟨ck28, h⟩ := ck_inv h
  obtain ⟨ka28, kb28⟩ := isK_of ck28
  obtain ⟨b29, r29, h⟩ := rb_inv h
  refine v_getR hz fl_X3_9 rfl dX3_pullOn_72 ka28 kb28 r29 ?_
  refine v_iload_n hz rfl rfl dX3_pullOn_75 ?_
  obtain ⟨ck30, h⟩ := ck_inv h
  obtain ⟨ka30, kb30⟩ := isK_of ck30
  obtain ⟨g31, h⟩ := ck_inv h
  refine v_iaload hz dX3_pullOn_76 ka30 kb30 g31 ?_
  refine v_aload_n hz rfl rfl dX3_pullOn_77 ?_
  obtain ⟨b32, r32, h⟩ := rb_inv h
  refine v_getR hz fl_X3_38 rfl dX3_pullOn_78 ka28 kb28 r32 ?_
  refine v_aload_n hz rfl rfl dX3_pullOn_81 ?_
  obtain ⟨b33, r33, h⟩ := rb_inv h
  refine v_getR hz fl_X3_31 rfl dX3_pullOn_82 ka28 kb28 r33 ?_
  obtain ⟨ck34, h⟩ := ck_inv h
  obtain ⟨ka34, kb34⟩ := isK_of ck34
  obtain ⟨x35, M35, e35, h⟩ := bd_inv h
  refine v_callV hz (As := [.ref b33]) vl_X3_77 (tX7_drawsBy (r + 0) e35) rfl (by decide) ka34 kb34 rfl rfl rfl (Nat.le_of_ble_eq_true rfl) ⟨by decide, by decide⟩ dX3_pullOn_85 ?_
  show V z 88 [some (.ref a0), some (.int a1), some (.int a2)] [.int x35, .int (mI M27 b29 a2.toNatClampNeg), .ref x27] M35 0 0
  refine v_iadd hz dX3_pullOn_88 ?_
  refine v_aload_n hz rfl rfl dX3_pullOn_89 ?_
  refine v_iload_n hz rfl rfl dX3_pullOn_90 ?_
  refine v_iload_n hz rfl rfl dX3_pullOn_91 ?_
  obtain ⟨x36, M36, e36, h⟩ := bd_inv h
  have kk36 : V z 95 [some (.ref a0), some (.int a1), some (.int a2)] [.int x36] M36 0 0 := by
    obtain ⟨rfl, rfl⟩ := sp_inv h
    exact v_iret hz dX3_pullOn_95 (by decide) (by decide)
  obtain ⟨gq36, e36⟩ := ck_inv e36
  replace gq36 := of_decide_eq_true gq36
  by_cases hq36 : mK M35 x27 = 0
  · replace e36 := (if_pos hq36).symm.trans e36
    exact v_callU hz (As := [.int ((mI M27 b29 a2.toNatClampNeg) + x35), .ref a0, .int a1, .int a2]) ul_X3_81_X0 (tX0_pullBy (r + 0) e36) rfl (by decide) gq36 hq36 rfl rfl rfl (Nat.le_of_ble_eq_true rfl) ⟨by decide, by decide⟩ dX3_pullOn_92 kk36
  replace e36 := (if_neg hq36).symm.trans e36
  by_cases hq36 : mK M35 x27 = 2
  · replace e36 := (if_pos hq36).symm.trans e36
    exact v_callU hz (As := [.int ((mI M27 b29 a2.toNatClampNeg) + x35), .ref a0, .int a1, .int a2]) ul_X3_81_X2 (tX2_pullBy (r + 1) e36) rfl (by decide) gq36 hq36 rfl rfl rfl (Nat.le_of_ble_eq_true rfl) ⟨by decide, by decide⟩ dX3_pullOn_92 kk36
  replace e36 := (if_neg hq36).symm.trans e36
  by_cases hq36 : mK M35 x27 = 4
  · replace e36 := (if_pos hq36).symm.trans e36
    exact v_callU hz (As := [.int ((mI M27 b29 a2.toNatClampNeg) + x35), .ref a0, .int a1, .int a2]) ul_X3_81_X4 (tX4_pullBy (r + 1) e36) rfl (by decide) gq36 hq36 rfl rfl rfl (Nat.le_of_ble_eq_true rfl) ⟨by decide, by decide⟩ dX3_pullOn_92 kk36
  replace e36 := (if_neg hq36).symm.trans e36
  by_cases hq36 : mK M35 x27 = 6
  · replace e36 := (if_pos hq36).symm.trans e36
    exact v_callU hz (As := [.int ((mI M27 b29 a2.toNatClampNeg) + x35), .ref a0, .int a1, .int a2]) ul_X3_81_X6 (tX6_pullBy (r + 1) e36) rfl (by decide) gq36 hq36 rfl rfl rfl (Nat.le_of_ble_eq_true rfl) ⟨by decide, by decide⟩ dX3_pullOn_92 kk36
  replace e36 := (if_neg hq36).symm.trans e36
  by_cases hq36 : mK M35 x27 = 8
  · replace e36 := (if_pos hq36).symm.trans e36
    exact v_callU hz (As := [.int ((mI M27 b29 a2.toNatClampNeg) + x35), .ref a0, .int a1, .int a2]) ul_X3_81_X8 (tX8_pullBy (r + 0) e36) rfl (by decide) gq36 hq36 rfl rfl rfl (Nat.le_of_ble_eq_true rfl) ⟨by decide, by decide⟩ dX3_pullOn_92 kk36
  replace e36 := (if_neg hq36).symm.trans e36
  by_cases hq36 : mK M35 x27 = 9
  · replace e36 := (if_pos hq36).symm.trans e36
    exact v_callU hz (As := [.int ((mI M27 b29 a2.toNatClampNeg) + x35), .ref a0, .int a1, .int a2]) ul_X3_81_X9 (tX10_pullBy (r + 1) e36) rfl (by decide) gq36 hq36 rfl rfl rfl (Nat.le_of_ble_eq_true rfl) ⟨by decide, by decide⟩ dX3_pullOn_92 kk36
  replace e36 := (if_neg hq36).symm.trans e36
  by_cases hq36 : mK M35 x27 = 10
  · replace e36 := (if_pos hq36).symm.trans e36
    exact v_callU hz (As := [.int ((mI M27 b29 a2.toNatClampNeg) + x35), .ref a0, .int a1, .int a2]) ul_X3_81_X10 (tX10_pullBy (r + 1) e36) rfl (by decide) gq36 hq36 rfl rfl rfl (Nat.le_of_ble_eq_true rfl) ⟨by decide, by decide⟩ dX3_pullOn_92 kk36
  replace e36 := (if_neg hq36).symm.trans e36
  cases e36
noncomputable def gX3_sends_81 (K15 : Mem → Nat → Int32 → Int32 → Int32 → Int32 → Int32 → Option (Int32 × Mem)) (M : Mem) (l0 : Nat) (l1 : Int32) (l2 : Int32) (l3 : Int32) (l4 : Int32) (l5 : Int32) : Option (Int32 × Mem) :=
  K15 M l0 l1 l2 l3 l4 (l5 + (1 : Int32))
noncomputable def gX3_sends_72 (K15 : Mem → Nat → Int32 → Int32 → Int32 → Int32 → Int32 → Option (Int32 × Mem)) (M : Mem) (l0 : Nat) (l1 : Int32) (l5 : Int32) (l6 : Int32) (l7 : Int32) : Option (Int32 × Mem) :=
  gX3_sends_81 K15 M l0 l1 l6 l7 (0 : Int32) l5
noncomputable def gX3_sends_15  : Nat → Mem → Nat → Int32 → Int32 → Int32 → Int32 → Int32 → Option (Int32 × Mem)
  | 0, _, _, _, _, _, _, _ => none
  | n + 1, M, l0, l1, l2, l3, l4, l5 => if (4 : Int32) ≤ l5 then (some (l2, M)) else (ck (isK M l0 3) <| rb (mR M l0 7) fun b6 => ck (isK M b6 14) <| ck (inb l1 (mG M b6)) <| bd (fX11_nextTo M (mI M b6 l1.toNatClampNeg) l5) fun x9 M9 => if x9 = (-1 : Int32) then (gX3_sends_81 (gX3_sends_15 n) M9 l0 l1 l2 l3 l4 l5) else (ck (isK M9 l0 3) <| bd (fX3_isBald M9 l0 x9) fun x11 M11 => if x11 = 0 then (ck (isK M11 l0 3) <| bd (fX3_pullOn M11 l0 l1 x9) fun x13 M13 => if l4 = 0 then (if x13 ≤ l3 then (gX3_sends_81 (gX3_sends_15 n) M13 l0 l1 l2 l3 l4 l5) else (gX3_sends_72 (gX3_sends_15 n) M13 l0 l1 l5 x9 x13)) else (gX3_sends_72 (gX3_sends_15 n) M13 l0 l1 l5 x9 x13)) else (gX3_sends_81 (gX3_sends_15 n) M11 l0 l1 l2 l3 l4 l5)))
noncomputable def fX3_sends (M : Mem) (a0 : Nat) (a1 : Int32) : Option (Int32 × Mem) :=
  ck (isK M a0 3) <| rb (mR M a0 7) fun b2 => ck (isK M b2 14) <| ck (inb a1 (mG M b2)) <| gX3_sends_15 FU M a0 a1 (mI M b2 a1.toNatClampNeg) (0 : Int32) (1 : Int32) (0 : Int32)
set_option maxRecDepth 100000 in
set_option maxHeartbeats 4000000 in
theorem wX3_sends_81 {z : Zx} {fx : Fx} {al : Bool} {r : Nat} {N : Mem} {xr : Int32} (hz : Zok z fx al yX3_sends.cls yX3_sends.name cX3_sends (some .int) 8 (r + 3) 0 0 (some (.int xr)) N)  {K15 : Mem → Nat → Int32 → Int32 → Int32 → Int32 → Int32 → Option (Int32 × Mem)} (hK15 : ∀ {M : Mem} {l0 : Nat} {l1 : Int32} {l2 : Int32} {l3 : Int32} {l4 : Int32} {l5 : Int32}, K15 M l0 l1 l2 l3 l4 l5 = some (xr, N) → V z 15 [some (.ref l0), some (.int l1), some (.int l2), some (.int l3), some (.int l4), some (.int l5), none, none] [] M 0 0) {M : Mem} {l0 : Nat} {l1 : Int32} {l2 : Int32} {l3 : Int32} {l4 : Int32} {l5 : Int32} (h : gX3_sends_81 K15 M l0 l1 l2 l3 l4 l5 = some (xr, N)) : V z 81 [some (.ref l0), some (.int l1), some (.int l2), some (.int l3), some (.int l4), some (.int l5), none, none] [] M 0 0 := by
  unfold gX3_sends_81 at h
  refine v_iinc hz (v := (l5 + (1 : Int32))) (lw := [some (.ref l0), some (.int l1), some (.int l2), some (.int l3), some (.int l4), some (.int (l5 + (1 : Int32))), none, none]) rfl (congrArg (fun q => l5 + q) (show Int32.ofInt (1) = (1 : Int32) by decide)) rfl rfl dX3_sends_81 ?_
  refine v_goto (tgt := 15) hz dX3_sends_84 (by decide) ?_
  exact v_weak (lvle_s (lvle_s (lvle_s (lvle_s (lvle_s (lvle_s (lvle_n (lvle_n lvle_0)))))))) (hK15 h)
set_option maxRecDepth 100000 in
set_option maxHeartbeats 4000000 in
theorem wX3_sends_72 {z : Zx} {fx : Fx} {al : Bool} {r : Nat} {N : Mem} {xr : Int32} (hz : Zok z fx al yX3_sends.cls yX3_sends.name cX3_sends (some .int) 8 (r + 3) 0 0 (some (.int xr)) N)  {K15 : Mem → Nat → Int32 → Int32 → Int32 → Int32 → Int32 → Option (Int32 × Mem)} (hK15 : ∀ {M : Mem} {l0 : Nat} {l1 : Int32} {l2 : Int32} {l3 : Int32} {l4 : Int32} {l5 : Int32}, K15 M l0 l1 l2 l3 l4 l5 = some (xr, N) → V z 15 [some (.ref l0), some (.int l1), some (.int l2), some (.int l3), some (.int l4), some (.int l5), none, none] [] M 0 0) {M : Mem} {l0 : Nat} {l1 : Int32} {l5 : Int32} {l6 : Int32} {l7 : Int32} (h : gX3_sends_72 K15 M l0 l1 l5 l6 l7 = some (xr, N)) : V z 72 [some (.ref l0), some (.int l1), none, none, none, some (.int l5), some (.int l6), some (.int l7)] [] M 0 0 := by
  unfold gX3_sends_72 at h
  refine v_iconst hz (v := (0 : Int32)) (by decide) dX3_sends_72 ?_
  refine v_istore hz (lw := [some (.ref l0), some (.int l1), none, none, some (.int (0 : Int32)), some (.int l5), some (.int l6), some (.int l7)]) (Nat.le_of_ble_eq_true rfl) rfl rfl dX3_sends_73 ?_
  refine v_iload hz rfl dX3_sends_75 ?_
  refine v_istore_n hz (lw := [some (.ref l0), some (.int l1), some (.int l6), none, some (.int (0 : Int32)), some (.int l5), some (.int l6), some (.int l7)]) rfl (Nat.le_of_ble_eq_true rfl) rfl rfl dX3_sends_77 ?_
  refine v_iload hz rfl dX3_sends_78 ?_
  refine v_istore_n hz (lw := [some (.ref l0), some (.int l1), some (.int l6), some (.int l7), some (.int (0 : Int32)), some (.int l5), some (.int l6), some (.int l7)]) rfl (Nat.le_of_ble_eq_true rfl) rfl rfl dX3_sends_80 ?_
  exact v_weak (lvle_s (lvle_s (lvle_s (lvle_s (lvle_s (lvle_s (lvle_n (lvle_n lvle_0)))))))) (wX3_sends_81 hz  (fun h => hK15 h) h)
set_option maxRecDepth 100000 in
set_option maxHeartbeats 4000000 in
theorem gX3_sends_15_s  (n : Nat) (M : Mem) (l0 : Nat) (l1 : Int32) (l2 : Int32) (l3 : Int32) (l4 : Int32) (l5 : Int32) : gX3_sends_15  (n + 1) M l0 l1 l2 l3 l4 l5 = (if (4 : Int32) ≤ l5 then (some (l2, M)) else (ck (isK M l0 3) <| rb (mR M l0 7) fun b6 => ck (isK M b6 14) <| ck (inb l1 (mG M b6)) <| bd (fX11_nextTo M (mI M b6 l1.toNatClampNeg) l5) fun x9 M9 => if x9 = (-1 : Int32) then (gX3_sends_81 (gX3_sends_15 n) M9 l0 l1 l2 l3 l4 l5) else (ck (isK M9 l0 3) <| bd (fX3_isBald M9 l0 x9) fun x11 M11 => if x11 = 0 then (ck (isK M11 l0 3) <| bd (fX3_pullOn M11 l0 l1 x9) fun x13 M13 => if l4 = 0 then (if x13 ≤ l3 then (gX3_sends_81 (gX3_sends_15 n) M13 l0 l1 l2 l3 l4 l5) else (gX3_sends_72 (gX3_sends_15 n) M13 l0 l1 l5 x9 x13)) else (gX3_sends_72 (gX3_sends_15 n) M13 l0 l1 l5 x9 x13)) else (gX3_sends_81 (gX3_sends_15 n) M11 l0 l1 l2 l3 l4 l5)))) := rfl
set_option maxRecDepth 100000 in
set_option maxHeartbeats 4000000 in
theorem wX3_sends_15 {z : Zx} {fx : Fx} {al : Bool} {r : Nat} {N : Mem} {xr : Int32} (hz : Zok z fx al yX3_sends.cls yX3_sends.name cX3_sends (some .int) 8 (r + 3) 0 0 (some (.int xr)) N)    : ∀ {n : Nat} {M : Mem} {l0 : Nat} {l1 : Int32} {l2 : Int32} {l3 : Int32} {l4 : Int32} {l5 : Int32}, gX3_sends_15  n M l0 l1 l2 l3 l4 l5 = some (xr, N) → V z 15 [some (.ref l0), some (.int l1), some (.int l2), some (.int l3), some (.int l4), some (.int l5), none, none] [] M 0 0 := by
  intro n
  induction n with
  | zero => intro M l0 l1 l2 l3 l4 l5 h; cases h
  | succ n ih =>
    intro M l0 l1 l2 l3 l4 l5 h
    replace h := (gX3_sends_15_s  n M l0 l1 l2 l3 l4 l5).symm.trans h
    refine v_iload hz rfl dX3_sends_15 ?_
    refine v_iconst hz (v := (4 : Int32)) (by decide) dX3_sends_17 ?_
    refine v_icmp_ge (tgt := 87) hz dX3_sends_18 (by decide) (fun hc => ?_) (fun hc => ?_)
    · replace h := (if_pos hc).symm.trans h
      refine v_iload_n hz rfl rfl dX3_sends_87 ?_
      obtain ⟨rfl, rfl⟩ := sp_inv h
      exact v_iret hz dX3_sends_88 (by decide) (by decide)
    · replace h := (if_neg hc).symm.trans h
      refine v_aload_n hz rfl rfl dX3_sends_21 ?_
      obtain ⟨ck5, h⟩ := ck_inv h
      obtain ⟨ka5, kb5⟩ := isK_of ck5
      obtain ⟨b6, r6, h⟩ := rb_inv h
      refine v_getR hz fl_X3_21 rfl dX3_sends_22 ka5 kb5 r6 ?_
      refine v_iload_n hz rfl rfl dX3_sends_25 ?_
      obtain ⟨ck7, h⟩ := ck_inv h
      obtain ⟨ka7, kb7⟩ := isK_of ck7
      obtain ⟨g8, h⟩ := ck_inv h
      refine v_iaload hz dX3_sends_26 ka7 kb7 g8 ?_
      refine v_iload hz rfl dX3_sends_27 ?_
      obtain ⟨x9, M9, e9, h⟩ := bd_inv h
      refine v_callSN hz (As := [.int (mI M b6 l1.toNatClampNeg), .int l5]) nl_X3_87 (tX11_nextTo (r + 2) e9) rfl rfl rfl (Nat.le_of_ble_eq_true rfl) ⟨by decide, by decide⟩ dX3_sends_29 ?_
      show V z 32 [some (.ref l0), some (.int l1), some (.int l2), some (.int l3), some (.int l4), some (.int l5), none, none] [.int x9] M9 0 0
      refine v_istore hz (lw := [some (.ref l0), some (.int l1), some (.int l2), some (.int l3), some (.int l4), some (.int l5), some (.int x9), none]) (Nat.le_of_ble_eq_true rfl) rfl rfl dX3_sends_32 ?_
      refine v_iload hz rfl dX3_sends_34 ?_
      refine v_iconst hz (v := (-1 : Int32)) (by decide) dX3_sends_36 ?_
      refine v_icmp_eq (tgt := 81) hz dX3_sends_37 (by decide) (fun hc => ?_) (fun hc => ?_)
      · replace h := (if_pos hc).symm.trans h
        exact v_weak (lvle_s (lvle_s (lvle_s (lvle_s (lvle_s (lvle_s (lvle_n (lvle_n lvle_0)))))))) (wX3_sends_81 hz  (fun h => ih h) h)
      · replace h := (if_neg hc).symm.trans h
        refine v_aload_n hz rfl rfl dX3_sends_40 ?_
        refine v_iload hz rfl dX3_sends_41 ?_
        obtain ⟨ck10, h⟩ := ck_inv h
        obtain ⟨ka10, kb10⟩ := isK_of ck10
        obtain ⟨x11, M11, e11, h⟩ := bd_inv h
        refine v_callV hz (As := [.int x9]) vl_X3_60 (tX3_isBald (r + 2) e11) rfl (by decide) ka10 kb10 rfl rfl rfl (Nat.le_of_ble_eq_true rfl) ⟨by decide, by decide⟩ dX3_sends_43 ?_
        show V z 46 [some (.ref l0), some (.int l1), some (.int l2), some (.int l3), some (.int l4), some (.int l5), some (.int x9), none] [.int x11] M11 0 0
        refine v_if_eq (tgt := 52) hz dX3_sends_46 (by decide) (fun hc => ?_) (fun hc => ?_)
        · replace h := (if_pos hc).symm.trans h
          refine v_aload_n hz rfl rfl dX3_sends_52 ?_
          refine v_iload_n hz rfl rfl dX3_sends_53 ?_
          refine v_iload hz rfl dX3_sends_54 ?_
          obtain ⟨ck12, h⟩ := ck_inv h
          obtain ⟨ka12, kb12⟩ := isK_of ck12
          obtain ⟨x13, M13, e13, h⟩ := bd_inv h
          refine v_callV hz (As := [.int l1, .int x9]) vl_X3_90 (tX3_pullOn (r + 0) e13) rfl (by decide) ka12 kb12 rfl rfl rfl (Nat.le_of_ble_eq_true rfl) ⟨by decide, by decide⟩ dX3_sends_56 ?_
          show V z 59 [some (.ref l0), some (.int l1), some (.int l2), some (.int l3), some (.int l4), some (.int l5), some (.int x9), none] [.int x13] M13 0 0
          refine v_istore hz (lw := [some (.ref l0), some (.int l1), some (.int l2), some (.int l3), some (.int l4), some (.int l5), some (.int x9), some (.int x13)]) (Nat.le_of_ble_eq_true rfl) rfl rfl dX3_sends_59 ?_
          refine v_iload hz rfl dX3_sends_61 ?_
          refine v_if_ne (tgt := 72) hz dX3_sends_63 (by decide) (fun hc => ?_) (fun hc => ?_)
          · replace h := (if_neg hc).symm.trans h
            exact v_weak (lvle_s (lvle_s (lvle_n (lvle_n (lvle_n (lvle_s (lvle_s (lvle_s lvle_0)))))))) (wX3_sends_72 hz  (fun h => ih h) h)
          · replace h := (if_pos hc).symm.trans h
            refine v_iload hz rfl dX3_sends_66 ?_
            refine v_iload_n hz rfl rfl dX3_sends_68 ?_
            refine v_icmp_le (tgt := 81) hz dX3_sends_69 (by decide) (fun hc => ?_) (fun hc => ?_)
            · replace h := (if_pos hc).symm.trans h
              exact v_weak (lvle_s (lvle_s (lvle_s (lvle_s (lvle_s (lvle_s (lvle_n (lvle_n lvle_0)))))))) (wX3_sends_81 hz  (fun h => ih h) h)
            · replace h := (if_neg hc).symm.trans h
              exact v_weak (lvle_s (lvle_s (lvle_n (lvle_n (lvle_n (lvle_s (lvle_s (lvle_s lvle_0)))))))) (wX3_sends_72 hz  (fun h => ih h) h)
        · replace h := (if_neg hc).symm.trans h
          refine v_goto (tgt := 81) hz dX3_sends_49 (by decide) ?_
          exact v_weak (lvle_s (lvle_s (lvle_s (lvle_s (lvle_s (lvle_s (lvle_n (lvle_n lvle_0)))))))) (wX3_sends_81 hz  (fun h => ih h) h)
set_option maxRecDepth 100000 in
set_option maxHeartbeats 4000000 in
theorem tX3_sends (r : Nat) {fx : Fx} {al : Bool} {M N : Mem} {a0 : Nat} {a1 : Int32} {xr : Int32}  (h : fX3_sends M a0 a1 = some (xr, N)) : Ct fx yX3_sends cX3_sends 8 (some .int) (r + 3) 0 0 al [.ref a0, .int a1] M (some (.int xr)) N := by
  refine ct_of (lv := [some (.ref a0), some (.int a1), none, none, none, none, none, none]) (by decide) (Nat.le_of_ble_eq_true rfl) rfl rfl (fun z hz => ?_)
  unfold fX3_sends at h
  refine v_aload_n hz rfl rfl dX3_sends_0 ?_
  obtain ⟨ck1, h⟩ := ck_inv h
  obtain ⟨ka1, kb1⟩ := isK_of ck1
  obtain ⟨b2, r2, h⟩ := rb_inv h
  refine v_getR hz fl_X3_21 rfl dX3_sends_1 ka1 kb1 r2 ?_
  refine v_iload_n hz rfl rfl dX3_sends_4 ?_
  obtain ⟨ck3, h⟩ := ck_inv h
  obtain ⟨ka3, kb3⟩ := isK_of ck3
  obtain ⟨g4, h⟩ := ck_inv h
  refine v_iaload hz dX3_sends_5 ka3 kb3 g4 ?_
  refine v_istore_n hz (lw := [some (.ref a0), some (.int a1), some (.int (mI M b2 a1.toNatClampNeg)), none, none, none, none, none]) rfl (Nat.le_of_ble_eq_true rfl) rfl rfl dX3_sends_6 ?_
  refine v_iconst hz (v := (0 : Int32)) (by decide) dX3_sends_7 ?_
  refine v_istore_n hz (lw := [some (.ref a0), some (.int a1), some (.int (mI M b2 a1.toNatClampNeg)), some (.int (0 : Int32)), none, none, none, none]) rfl (Nat.le_of_ble_eq_true rfl) rfl rfl dX3_sends_8 ?_
  refine v_iconst hz (v := (1 : Int32)) (by decide) dX3_sends_9 ?_
  refine v_istore hz (lw := [some (.ref a0), some (.int a1), some (.int (mI M b2 a1.toNatClampNeg)), some (.int (0 : Int32)), some (.int (1 : Int32)), none, none, none]) (Nat.le_of_ble_eq_true rfl) rfl rfl dX3_sends_10 ?_
  refine v_iconst hz (v := (0 : Int32)) (by decide) dX3_sends_12 ?_
  refine v_istore hz (lw := [some (.ref a0), some (.int a1), some (.int (mI M b2 a1.toNatClampNeg)), some (.int (0 : Int32)), some (.int (1 : Int32)), some (.int (0 : Int32)), none, none]) (Nat.le_of_ble_eq_true rfl) rfl rfl dX3_sends_13 ?_
  exact v_weak (lvle_s (lvle_s (lvle_s (lvle_s (lvle_s (lvle_s (lvle_n (lvle_n lvle_0)))))))) (wX3_sends_15 hz   h)
noncomputable def fX9_tread (M : Mem) (a0 : Nat) : Option (Int32 × Mem) :=
  some ((3 : Int32), M)
set_option maxRecDepth 100000 in
set_option maxHeartbeats 4000000 in
theorem tX9_tread (r : Nat) {fx : Fx} {al : Bool} {M N : Mem} {a0 : Nat} {xr : Int32}  (h : fX9_tread M a0 = some (xr, N)) : Ct fx yX9_tread cX9_tread 1 (some .int) (r + 0) 0 0 al [.ref a0] M (some (.int xr)) N := by
  refine ct_of (lv := [some (.ref a0)]) (by decide) (Nat.le_of_ble_eq_true rfl) rfl rfl (fun z hz => ?_)
  unfold fX9_tread at h
  refine v_iconst hz (v := (3 : Int32)) (by decide) dX9_tread_0 ?_
  obtain ⟨rfl, rfl⟩ := sp_inv h
  exact v_iret hz dX9_tread_1 (by decide) (by decide)
noncomputable def fX4_tread (M : Mem) (a0 : Nat) : Option (Int32 × Mem) :=
  some ((6 : Int32), M)
set_option maxRecDepth 100000 in
set_option maxHeartbeats 4000000 in
theorem tX4_tread (r : Nat) {fx : Fx} {al : Bool} {M N : Mem} {a0 : Nat} {xr : Int32}  (h : fX4_tread M a0 = some (xr, N)) : Ct fx yX4_tread cX4_tread 1 (some .int) (r + 0) 0 0 al [.ref a0] M (some (.int xr)) N := by
  refine ct_of (lv := [some (.ref a0)]) (by decide) (Nat.le_of_ble_eq_true rfl) rfl rfl (fun z hz => ?_)
  unfold fX4_tread at h
  refine v_bipush hz (v := (6 : Int32)) (by decide) dX4_tread_0 ?_
  obtain ⟨rfl, rfl⟩ := sp_inv h
  exact v_iret hz dX4_tread_2 (by decide) (by decide)
noncomputable def fX6_tread (M : Mem) (a0 : Nat) : Option (Int32 × Mem) :=
  some ((1 : Int32), M)
set_option maxRecDepth 100000 in
set_option maxHeartbeats 4000000 in
theorem tX6_tread (r : Nat) {fx : Fx} {al : Bool} {M N : Mem} {a0 : Nat} {xr : Int32}  (h : fX6_tread M a0 = some (xr, N)) : Ct fx yX6_tread cX6_tread 1 (some .int) (r + 0) 0 0 al [.ref a0] M (some (.int xr)) N := by
  refine ct_of (lv := [some (.ref a0)]) (by decide) (Nat.le_of_ble_eq_true rfl) rfl rfl (fun z hz => ?_)
  unfold fX6_tread at h
  refine v_iconst hz (v := (1 : Int32)) (by decide) dX6_tread_0 ?_
  obtain ⟨rfl, rfl⟩ := sp_inv h
  exact v_iret hz dX6_tread_1 (by decide) (by decide)
noncomputable def fX10_tread (M : Mem) (a0 : Nat) : Option (Int32 × Mem) :=
  some ((2 : Int32), M)
set_option maxRecDepth 100000 in
set_option maxHeartbeats 4000000 in
theorem tX10_tread (r : Nat) {fx : Fx} {al : Bool} {M N : Mem} {a0 : Nat} {xr : Int32}  (h : fX10_tread M a0 = some (xr, N)) : Ct fx yX10_tread cX10_tread 1 (some .int) (r + 0) 0 0 al [.ref a0] M (some (.int xr)) N := by
  refine ct_of (lv := [some (.ref a0)]) (by decide) (Nat.le_of_ble_eq_true rfl) rfl rfl (fun z hz => ?_)
  unfold fX10_tread at h
  refine v_iconst hz (v := (2 : Int32)) (by decide) dX10_tread_0 ?_
  obtain ⟨rfl, rfl⟩ := sp_inv h
  exact v_iret hz dX10_tread_1 (by decide) (by decide)
noncomputable def vt10_tread (M : Mem) (a0 : Nat)  : Option (Int32 × Mem) := ck (decide (a0 < mN M)) <| if mK M a0 = 0 then fX0_tread M a0  else if mK M a0 = 2 then fX9_tread M a0  else if mK M a0 = 4 then fX4_tread M a0  else if mK M a0 = 6 then fX6_tread M a0  else if mK M a0 = 8 then fX4_tread M a0  else if mK M a0 = 9 then fX9_tread M a0  else if mK M a0 = 10 then fX10_tread M a0  else none
noncomputable def gX3_goHour_76  : Nat → Mem → Nat → Int32 → Option (Unit × Mem)
  | 0, _, _, _ => none
  | n + 1, M, l0, l1 => if (25 : Int32) ≤ l1 then (some ((), M)) else (ck (isK M l0 3) <| rb (mR M l0 3) fun b3 => ck (isK M b3 14) <| ck (inb l1 (mG M b3)) <| ck (inb l1 (mG M b3)) <| nm (stI M b3 l1.toNatClampNeg (if (0 : Int32) < ((mI M b3 l1.toNatClampNeg) - (1 : Int32)) then ((mI M b3 l1.toNatClampNeg) - (1 : Int32)) else (0 : Int32))) fun M7 => (gX3_goHour_76 n) M7 l0 (l1 + (1 : Int32)))
noncomputable def gX3_goHour_48 (K2 : Mem → Nat → Int32 → Option (Unit × Mem)) (M : Mem) (l0 : Nat) (l1 : Int32) : Option (Unit × Mem) :=
  K2 M l0 (l1 + (1 : Int32))
noncomputable def gX3_goHour_2  : Nat → Mem → Nat → Int32 → Option (Unit × Mem)
  | 0, _, _, _ => none
  | n + 1, M, l0, l1 => ck (isK M l0 3) <| if (mI M l0 4) ≤ l1 then (if ((mI (stI M l0 2 ((mI M l0 2) + (1 : Int32))) l0 2) - (mI (stI M l0 2 ((mI M l0 2) + (1 : Int32))) l0 2) / (10 : Int32) * (10 : Int32)) = 0 then (gX3_goHour_76 FU (stI M l0 2 ((mI M l0 2) + (1 : Int32))) l0 (0 : Int32)) else (some ((), (stI M l0 2 ((mI M l0 2) + (1 : Int32)))))) else (rb (mR M l0 8) fun b8 => ck (isK M b8 16) <| ck (inb l1 (mG M b8)) <| if (mI M b8 l1.toNatClampNeg) = 0 then (rb (mR M l0 7) fun b11 => bd (fX3_sends M l0 l1) fun x12 M12 => ck (isK M12 b11 14) <| ck (inb l1 (mG M12 b11)) <| ck (isK M12 l0 3) <| rb (mR (stI M12 b11 l1.toNatClampNeg x12) l0 7) fun b16 => ck (isK M12 b16 14) <| ck (inb l1 (mG M12 b16)) <| bd (fX3_kindOf (stI M12 b11 l1.toNatClampNeg x12) l0 l1) fun x19 M19 => bd (vt10_tread M19 x19) fun x20 M20 => ck (isK M20 l0 3) <| bd (fX3_tread M20 l0 (mI (stI M12 b11 l1.toNatClampNeg x12) b16 l1.toNatClampNeg) x20) fun x22 M22 => gX3_goHour_48 (gX3_goHour_2 n) M22 l0 l1) else (gX3_goHour_48 (gX3_goHour_2 n) M l0 l1))
noncomputable def fX3_goHour (M : Mem) (a0 : Nat) : Option (Unit × Mem) :=
  gX3_goHour_2 FU M a0 (0 : Int32)
set_option maxRecDepth 100000 in
set_option maxHeartbeats 4000000 in
theorem gX3_goHour_76_s  (n : Nat) (M : Mem) (l0 : Nat) (l1 : Int32) : gX3_goHour_76  (n + 1) M l0 l1 = (if (25 : Int32) ≤ l1 then (some ((), M)) else (ck (isK M l0 3) <| rb (mR M l0 3) fun b3 => ck (isK M b3 14) <| ck (inb l1 (mG M b3)) <| ck (inb l1 (mG M b3)) <| nm (stI M b3 l1.toNatClampNeg (if (0 : Int32) < ((mI M b3 l1.toNatClampNeg) - (1 : Int32)) then ((mI M b3 l1.toNatClampNeg) - (1 : Int32)) else (0 : Int32))) fun M7 => (gX3_goHour_76 n) M7 l0 (l1 + (1 : Int32)))) := rfl
set_option maxRecDepth 100000 in
set_option maxHeartbeats 4000000 in
theorem wX3_goHour_76 {z : Zx} {fx : Fx} {al : Bool} {r : Nat} {N : Mem} (hz : Zok z fx al yX3_goHour.cls yX3_goHour.name cX3_goHour none 2 (r + 4) 0 0 none N)    : ∀ {n : Nat} {M : Mem} {l0 : Nat} {l1 : Int32}, gX3_goHour_76  n M l0 l1 = some ((), N) → V z 76 [some (.ref l0), some (.int l1)] [] M 0 0 := by
  intro n
  induction n with
  | zero => intro M l0 l1 h; cases h
  | succ n ih =>
    intro M l0 l1 h
    replace h := (gX3_goHour_76_s  n M l0 l1).symm.trans h
    refine v_iload_n hz rfl rfl dX3_goHour_76 ?_
    refine v_bipush hz (v := (25 : Int32)) (by decide) dX3_goHour_77 ?_
    refine v_icmp_ge (tgt := 106) hz dX3_goHour_79 (by decide) (fun hc => ?_) (fun hc => ?_)
    · replace h := (if_pos hc).symm.trans h
      obtain ⟨-, rfl⟩ := sp_inv h
      exact v_vret hz dX3_goHour_106 (by decide) (by decide)
    · replace h := (if_neg hc).symm.trans h
      refine v_aload_n hz rfl rfl dX3_goHour_82 ?_
      obtain ⟨ck2, h⟩ := ck_inv h
      obtain ⟨ka2, kb2⟩ := isK_of ck2
      obtain ⟨b3, r3, h⟩ := rb_inv h
      refine v_getR hz fl_X3_9 rfl dX3_goHour_83 ka2 kb2 r3 ?_
      refine v_iload_n hz rfl rfl dX3_goHour_86 ?_
      refine v_iconst hz (v := (0 : Int32)) (by decide) dX3_goHour_87 ?_
      refine v_aload_n hz rfl rfl dX3_goHour_88 ?_
      refine v_getR hz fl_X3_9 rfl dX3_goHour_89 ka2 kb2 r3 ?_
      refine v_iload_n hz rfl rfl dX3_goHour_92 ?_
      obtain ⟨ck4, h⟩ := ck_inv h
      obtain ⟨ka4, kb4⟩ := isK_of ck4
      obtain ⟨g5, h⟩ := ck_inv h
      refine v_iaload hz dX3_goHour_93 ka4 kb4 g5 ?_
      refine v_iconst hz (v := (1 : Int32)) (by decide) dX3_goHour_94 ?_
      refine v_isub hz dX3_goHour_95 ?_
      refine v_mmax hz ml_X3_64 rfl (Nat.le_of_ble_eq_true rfl) (by decide) (by decide) dX3_goHour_96 ?_
      obtain ⟨g6, h⟩ := ck_inv h
      refine v_iastore hz dX3_goHour_99 ka4 kb4 g6 ?_
      obtain ⟨M7, eM7, h⟩ := nm_inv h
      refine v_mem eM7.symm ?_
      refine v_iinc hz (v := (l1 + (1 : Int32))) (lw := [some (.ref l0), some (.int (l1 + (1 : Int32)))]) rfl (congrArg (fun q => l1 + q) (show Int32.ofInt (1) = (1 : Int32) by decide)) rfl rfl dX3_goHour_100 ?_
      refine v_goto (tgt := 76) hz dX3_goHour_103 (by decide) ?_
      exact v_weak (lvle_s (lvle_s lvle_0)) (ih h)
set_option maxRecDepth 100000 in
set_option maxHeartbeats 4000000 in
theorem wX3_goHour_48 {z : Zx} {fx : Fx} {al : Bool} {r : Nat} {N : Mem} (hz : Zok z fx al yX3_goHour.cls yX3_goHour.name cX3_goHour none 2 (r + 4) 0 0 none N)  {K2 : Mem → Nat → Int32 → Option (Unit × Mem)} (hK2 : ∀ {M : Mem} {l0 : Nat} {l1 : Int32}, K2 M l0 l1 = some ((), N) → V z 2 [some (.ref l0), some (.int l1)] [] M 0 0) {M : Mem} {l0 : Nat} {l1 : Int32} (h : gX3_goHour_48 K2 M l0 l1 = some ((), N)) : V z 48 [some (.ref l0), some (.int l1)] [] M 0 0 := by
  unfold gX3_goHour_48 at h
  refine v_iinc hz (v := (l1 + (1 : Int32))) (lw := [some (.ref l0), some (.int (l1 + (1 : Int32)))]) rfl (congrArg (fun q => l1 + q) (show Int32.ofInt (1) = (1 : Int32) by decide)) rfl rfl dX3_goHour_48 ?_
  refine v_goto (tgt := 2) hz dX3_goHour_51 (by decide) ?_
  exact v_weak (lvle_s (lvle_s lvle_0)) (hK2 h)
set_option maxRecDepth 100000 in
set_option maxHeartbeats 4000000 in
theorem gX3_goHour_2_s  (n : Nat) (M : Mem) (l0 : Nat) (l1 : Int32) : gX3_goHour_2  (n + 1) M l0 l1 = (ck (isK M l0 3) <| if (mI M l0 4) ≤ l1 then (if ((mI (stI M l0 2 ((mI M l0 2) + (1 : Int32))) l0 2) - (mI (stI M l0 2 ((mI M l0 2) + (1 : Int32))) l0 2) / (10 : Int32) * (10 : Int32)) = 0 then (gX3_goHour_76 FU (stI M l0 2 ((mI M l0 2) + (1 : Int32))) l0 (0 : Int32)) else (some ((), (stI M l0 2 ((mI M l0 2) + (1 : Int32)))))) else (rb (mR M l0 8) fun b8 => ck (isK M b8 16) <| ck (inb l1 (mG M b8)) <| if (mI M b8 l1.toNatClampNeg) = 0 then (rb (mR M l0 7) fun b11 => bd (fX3_sends M l0 l1) fun x12 M12 => ck (isK M12 b11 14) <| ck (inb l1 (mG M12 b11)) <| ck (isK M12 l0 3) <| rb (mR (stI M12 b11 l1.toNatClampNeg x12) l0 7) fun b16 => ck (isK M12 b16 14) <| ck (inb l1 (mG M12 b16)) <| bd (fX3_kindOf (stI M12 b11 l1.toNatClampNeg x12) l0 l1) fun x19 M19 => bd (vt10_tread M19 x19) fun x20 M20 => ck (isK M20 l0 3) <| bd (fX3_tread M20 l0 (mI (stI M12 b11 l1.toNatClampNeg x12) b16 l1.toNatClampNeg) x20) fun x22 M22 => gX3_goHour_48 (gX3_goHour_2 n) M22 l0 l1) else (gX3_goHour_48 (gX3_goHour_2 n) M l0 l1))) := rfl
set_option maxRecDepth 100000 in
set_option maxHeartbeats 4000000 in
theorem wX3_goHour_2 {z : Zx} {fx : Fx} {al : Bool} {r : Nat} {N : Mem} (hz : Zok z fx al yX3_goHour.cls yX3_goHour.name cX3_goHour none 2 (r + 4) 0 0 none N)    : ∀ {n : Nat} {M : Mem} {l0 : Nat} {l1 : Int32}, gX3_goHour_2  n M l0 l1 = some ((), N) → V z 2 [some (.ref l0), some (.int l1)] [] M 0 0 := by
  intro n
  induction n with
  | zero => intro M l0 l1 h; cases h
  | succ n ih =>
    intro M l0 l1 h
    replace h := (gX3_goHour_2_s  n M l0 l1).symm.trans h
    refine v_iload_n hz rfl rfl dX3_goHour_2 ?_
    refine v_aload_n hz rfl rfl dX3_goHour_3 ?_
    obtain ⟨ck1, h⟩ := ck_inv h
    obtain ⟨ka1, kb1⟩ := isK_of ck1
    refine v_getI hz fl_X3_46 rfl dX3_goHour_4 ka1 kb1 ?_
    refine v_icmp_ge (tgt := 54) hz dX3_goHour_7 (by decide) (fun hc => ?_) (fun hc => ?_)
    · replace h := (if_pos hc).symm.trans h
      refine v_aload_n hz rfl rfl dX3_goHour_54 ?_
      refine v_dup hz rfl dX3_goHour_55 ?_
      refine v_getI hz fl_X3_42 rfl dX3_goHour_56 ka1 kb1 ?_
      refine v_iconst hz (v := (1 : Int32)) (by decide) dX3_goHour_59 ?_
      refine v_iadd hz dX3_goHour_60 ?_
      refine v_putI hz fl_X3_42 ft_3_2 (by decide) rfl rfl rfl dX3_goHour_61 ka1 kb1 ?_
      refine v_aload_n hz rfl rfl dX3_goHour_64 ?_
      refine v_getI hz fl_X3_42 rfl dX3_goHour_65 ka1 kb1 ?_
      refine v_bipush hz (v := (10 : Int32)) (by decide) dX3_goHour_68 ?_
      refine v_irem hz (by decide) dX3_goHour_70 ?_
      refine v_if_ne (tgt := 106) hz dX3_goHour_71 (by decide) (fun hc => ?_) (fun hc => ?_)
      · replace h := (if_neg hc).symm.trans h
        obtain ⟨-, rfl⟩ := sp_inv h
        exact v_vret hz dX3_goHour_106 (by decide) (by decide)
      · replace h := (if_pos hc).symm.trans h
        refine v_iconst hz (v := (0 : Int32)) (by decide) dX3_goHour_74 ?_
        refine v_istore_n hz (lw := [some (.ref l0), some (.int (0 : Int32))]) rfl (Nat.le_of_ble_eq_true rfl) rfl rfl dX3_goHour_75 ?_
        exact v_weak (lvle_s (lvle_s lvle_0)) (wX3_goHour_76 hz   h)
    · replace h := (if_neg hc).symm.trans h
      refine v_aload_n hz rfl rfl dX3_goHour_10 ?_
      obtain ⟨b8, r8, h⟩ := rb_inv h
      refine v_getR hz fl_X3_24 rfl dX3_goHour_11 ka1 kb1 r8 ?_
      refine v_iload_n hz rfl rfl dX3_goHour_14 ?_
      obtain ⟨ck9, h⟩ := ck_inv h
      obtain ⟨ka9, kb9⟩ := isK_of ck9
      obtain ⟨g10, h⟩ := ck_inv h
      refine v_zaload hz dX3_goHour_15 ka9 kb9 g10 ?_
      refine v_if_ne (tgt := 48) hz dX3_goHour_16 (by decide) (fun hc => ?_) (fun hc => ?_)
      · replace h := (if_neg hc).symm.trans h
        exact v_weak (lvle_s (lvle_s lvle_0)) (wX3_goHour_48 hz  (fun h => ih h) h)
      · replace h := (if_pos hc).symm.trans h
        refine v_aload_n hz rfl rfl dX3_goHour_19 ?_
        obtain ⟨b11, r11, h⟩ := rb_inv h
        refine v_getR hz fl_X3_21 rfl dX3_goHour_20 ka1 kb1 r11 ?_
        refine v_iload_n hz rfl rfl dX3_goHour_23 ?_
        refine v_aload_n hz rfl rfl dX3_goHour_24 ?_
        refine v_iload_n hz rfl rfl dX3_goHour_25 ?_
        obtain ⟨x12, M12, e12, h⟩ := bd_inv h
        refine v_callV hz (As := [.int l1]) vl_X3_93 (tX3_sends (r + 0) e12) rfl (by decide) ka1 kb1 rfl rfl rfl (Nat.le_of_ble_eq_true rfl) ⟨by decide, by decide⟩ dX3_goHour_26 ?_
        show V z 29 [some (.ref l0), some (.int l1)] [.int x12, .int l1, .ref b11] M12 0 0
        obtain ⟨ck13, h⟩ := ck_inv h
        obtain ⟨ka13, kb13⟩ := isK_of ck13
        obtain ⟨g14, h⟩ := ck_inv h
        refine v_iastore hz dX3_goHour_29 ka13 kb13 g14 ?_
        refine v_aload_n hz rfl rfl dX3_goHour_30 ?_
        refine v_aload_n hz rfl rfl dX3_goHour_31 ?_
        obtain ⟨ck15, h⟩ := ck_inv h
        obtain ⟨ka15, kb15⟩ := isK_of ck15
        obtain ⟨b16, r16, h⟩ := rb_inv h
        refine v_getR hz fl_X3_21 rfl dX3_goHour_32 ka15 kb15 r16 ?_
        refine v_iload_n hz rfl rfl dX3_goHour_35 ?_
        obtain ⟨ck17, h⟩ := ck_inv h
        obtain ⟨ka17, kb17⟩ := isK_of ck17
        obtain ⟨g18, h⟩ := ck_inv h
        refine v_iaload hz dX3_goHour_36 ka17 kb17 g18 ?_
        refine v_aload_n hz rfl rfl dX3_goHour_37 ?_
        refine v_iload_n hz rfl rfl dX3_goHour_38 ?_
        obtain ⟨x19, M19, e19, h⟩ := bd_inv h
        refine v_callV hz (As := [.int l1]) vl_X3_73 (tX3_kindOf (r + 3) e19) rfl (by decide) ka15 kb15 rfl rfl rfl (Nat.le_of_ble_eq_true rfl) ⟨by decide, by decide⟩ dX3_goHour_39 ?_
        show V z 42 [some (.ref l0), some (.int l1)] [.ref x19, .int (mI (stI M12 b11 l1.toNatClampNeg x12) b16 l1.toNatClampNeg), .ref l0] M19 0 0
        obtain ⟨x20, M20, e20, h⟩ := bd_inv h
        have kk20 : V z 45 [some (.ref l0), some (.int l1)] [.int x20, .int (mI (stI M12 b11 l1.toNatClampNeg x12) b16 l1.toNatClampNeg), .ref l0] M20 0 0 := by
          obtain ⟨ck21, h⟩ := ck_inv h
          obtain ⟨ka21, kb21⟩ := isK_of ck21
          obtain ⟨x22, M22, e22, h⟩ := bd_inv h
          refine v_callV hz (As := [.int (mI (stI M12 b11 l1.toNatClampNeg x12) b16 l1.toNatClampNeg), .int x20]) vl_X3_101 (tX3_tread (r + 2) e22) rfl (by decide) ka21 kb21 rfl rfl rfl (Nat.le_of_ble_eq_true rfl) ⟨by decide, by decide⟩ dX3_goHour_45 ?_
          show V z 48 [some (.ref l0), some (.int l1)] [] M22 0 0
          exact v_weak (lvle_s (lvle_s lvle_0)) (wX3_goHour_48 hz  (fun h => ih h) h)
        obtain ⟨gq20, e20⟩ := ck_inv e20
        replace gq20 := of_decide_eq_true gq20
        by_cases hq20 : mK M19 x19 = 0
        · replace e20 := (if_pos hq20).symm.trans e20
          exact v_callU hz (As := []) ul_X3_97_X0 (tX0_tread (r + 3) e20) rfl (by decide) gq20 hq20 rfl rfl rfl (Nat.le_of_ble_eq_true rfl) ⟨by decide, by decide⟩ dX3_goHour_42 kk20
        replace e20 := (if_neg hq20).symm.trans e20
        by_cases hq20 : mK M19 x19 = 2
        · replace e20 := (if_pos hq20).symm.trans e20
          exact v_callU hz (As := []) ul_X3_97_X2 (tX9_tread (r + 3) e20) rfl (by decide) gq20 hq20 rfl rfl rfl (Nat.le_of_ble_eq_true rfl) ⟨by decide, by decide⟩ dX3_goHour_42 kk20
        replace e20 := (if_neg hq20).symm.trans e20
        by_cases hq20 : mK M19 x19 = 4
        · replace e20 := (if_pos hq20).symm.trans e20
          exact v_callU hz (As := []) ul_X3_97_X4 (tX4_tread (r + 3) e20) rfl (by decide) gq20 hq20 rfl rfl rfl (Nat.le_of_ble_eq_true rfl) ⟨by decide, by decide⟩ dX3_goHour_42 kk20
        replace e20 := (if_neg hq20).symm.trans e20
        by_cases hq20 : mK M19 x19 = 6
        · replace e20 := (if_pos hq20).symm.trans e20
          exact v_callU hz (As := []) ul_X3_97_X6 (tX6_tread (r + 3) e20) rfl (by decide) gq20 hq20 rfl rfl rfl (Nat.le_of_ble_eq_true rfl) ⟨by decide, by decide⟩ dX3_goHour_42 kk20
        replace e20 := (if_neg hq20).symm.trans e20
        by_cases hq20 : mK M19 x19 = 8
        · replace e20 := (if_pos hq20).symm.trans e20
          exact v_callU hz (As := []) ul_X3_97_X8 (tX4_tread (r + 3) e20) rfl (by decide) gq20 hq20 rfl rfl rfl (Nat.le_of_ble_eq_true rfl) ⟨by decide, by decide⟩ dX3_goHour_42 kk20
        replace e20 := (if_neg hq20).symm.trans e20
        by_cases hq20 : mK M19 x19 = 9
        · replace e20 := (if_pos hq20).symm.trans e20
          exact v_callU hz (As := []) ul_X3_97_X9 (tX9_tread (r + 3) e20) rfl (by decide) gq20 hq20 rfl rfl rfl (Nat.le_of_ble_eq_true rfl) ⟨by decide, by decide⟩ dX3_goHour_42 kk20
        replace e20 := (if_neg hq20).symm.trans e20
        by_cases hq20 : mK M19 x19 = 10
        · replace e20 := (if_pos hq20).symm.trans e20
          exact v_callU hz (As := []) ul_X3_97_X10 (tX10_tread (r + 3) e20) rfl (by decide) gq20 hq20 rfl rfl rfl (Nat.le_of_ble_eq_true rfl) ⟨by decide, by decide⟩ dX3_goHour_42 kk20
        replace e20 := (if_neg hq20).symm.trans e20
        cases e20
set_option maxRecDepth 100000 in
set_option maxHeartbeats 4000000 in
theorem tX3_goHour (r : Nat) {fx : Fx} {al : Bool} {M N : Mem} {a0 : Nat}  (h : fX3_goHour M a0 = some ((), N)) : Ct fx yX3_goHour cX3_goHour 2 none (r + 4) 0 0 al [.ref a0] M none N := by
  refine ct_of (lv := [some (.ref a0), none]) (by decide) (Nat.le_of_ble_eq_true rfl) rfl rfl (fun z hz => ?_)
  unfold fX3_goHour at h
  refine v_iconst hz (v := (0 : Int32)) (by decide) dX3_goHour_0 ?_
  refine v_istore_n hz (lw := [some (.ref a0), some (.int (0 : Int32))]) rfl (Nat.le_of_ble_eq_true rfl) rfl rfl dX3_goHour_1 ?_
  exact v_weak (lvle_s (lvle_s lvle_0)) (wX3_goHour_2 hz   h)
noncomputable def gX3_goHours_2  : Nat → Mem → Nat → Int32 → Int32 → Option (Unit × Mem)
  | 0, _, _, _, _ => none
  | n + 1, M, l0, l1, l2 => if l1 ≤ l2 then (some ((), M)) else (ck (isK M l0 3) <| bd (fX3_goHour M l0) fun x2 M2 => (gX3_goHours_2 n) M2 l0 l1 (l2 + (1 : Int32)))
noncomputable def fX3_goHours (M : Mem) (a0 : Nat) (a1 : Int32) : Option (Unit × Mem) :=
  gX3_goHours_2 FU M a0 a1 (0 : Int32)
set_option maxRecDepth 100000 in
set_option maxHeartbeats 4000000 in
theorem gX3_goHours_2_s  (n : Nat) (M : Mem) (l0 : Nat) (l1 : Int32) (l2 : Int32) : gX3_goHours_2  (n + 1) M l0 l1 l2 = (if l1 ≤ l2 then (some ((), M)) else (ck (isK M l0 3) <| bd (fX3_goHour M l0) fun x2 M2 => (gX3_goHours_2 n) M2 l0 l1 (l2 + (1 : Int32)))) := rfl
set_option maxRecDepth 100000 in
set_option maxHeartbeats 4000000 in
theorem wX3_goHours_2 {z : Zx} {fx : Fx} {al : Bool} {r : Nat} {N : Mem} (hz : Zok z fx al yX3_goHours.cls yX3_goHours.name cX3_goHours none 3 (r + 5) 0 0 none N)    : ∀ {n : Nat} {M : Mem} {l0 : Nat} {l1 : Int32} {l2 : Int32}, gX3_goHours_2  n M l0 l1 l2 = some ((), N) → V z 2 [some (.ref l0), some (.int l1), some (.int l2)] [] M 0 0 := by
  intro n
  induction n with
  | zero => intro M l0 l1 l2 h; cases h
  | succ n ih =>
    intro M l0 l1 l2 h
    replace h := (gX3_goHours_2_s  n M l0 l1 l2).symm.trans h
    refine v_iload_n hz rfl rfl dX3_goHours_2 ?_
    refine v_iload_n hz rfl rfl dX3_goHours_3 ?_
    refine v_icmp_ge (tgt := 17) hz dX3_goHours_4 (by decide) (fun hc => ?_) (fun hc => ?_)
    · replace h := (if_pos hc).symm.trans h
      obtain ⟨-, rfl⟩ := sp_inv h
      exact v_vret hz dX3_goHours_17 (by decide) (by decide)
    · replace h := (if_neg hc).symm.trans h
      refine v_aload_n hz rfl rfl dX3_goHours_7 ?_
      obtain ⟨ck1, h⟩ := ck_inv h
      obtain ⟨ka1, kb1⟩ := isK_of ck1
      obtain ⟨x2, M2, e2, h⟩ := bd_inv h
      refine v_callV hz (As := []) vl_X3_104 (tX3_goHour (r + 0) e2) rfl (by decide) ka1 kb1 rfl rfl rfl (Nat.le_of_ble_eq_true rfl) ⟨by decide, by decide⟩ dX3_goHours_8 ?_
      show V z 11 [some (.ref l0), some (.int l1), some (.int l2)] [] M2 0 0
      refine v_iinc hz (v := (l2 + (1 : Int32))) (lw := [some (.ref l0), some (.int l1), some (.int (l2 + (1 : Int32)))]) rfl (congrArg (fun q => l2 + q) (show Int32.ofInt (1) = (1 : Int32) by decide)) rfl rfl dX3_goHours_11 ?_
      refine v_goto (tgt := 2) hz dX3_goHours_14 (by decide) ?_
      exact v_weak (lvle_s (lvle_s (lvle_s lvle_0))) (ih h)
set_option maxRecDepth 100000 in
set_option maxHeartbeats 4000000 in
theorem tX3_goHours (r : Nat) {fx : Fx} {al : Bool} {M N : Mem} {a0 : Nat} {a1 : Int32}  (h : fX3_goHours M a0 a1 = some ((), N)) : Ct fx yX3_goHours cX3_goHours 3 none (r + 5) 0 0 al [.ref a0, .int a1] M none N := by
  refine ct_of (lv := [some (.ref a0), some (.int a1), none]) (by decide) (Nat.le_of_ble_eq_true rfl) rfl rfl (fun z hz => ?_)
  unfold fX3_goHours at h
  refine v_iconst hz (v := (0 : Int32)) (by decide) dX3_goHours_0 ?_
  refine v_istore_n hz (lw := [some (.ref a0), some (.int a1), some (.int (0 : Int32))]) rfl (Nat.le_of_ble_eq_true rfl) rfl rfl dX3_goHours_1 ?_
  exact v_weak (lvle_s (lvle_s (lvle_s lvle_0))) (wX3_goHours_2 hz   h)
noncomputable def gX3_hoursTo_2  : Nat → Mem → Nat → Int32 → Int32 → Int32 → Option (Int32 × Mem)
  | 0, _, _, _, _, _ => none
  | n + 1, M, l0, l1, l2, l3 => if (40 : Int32) < l3 then (some ((-5 : Int32), M)) else (ck (isK M l0 3) <| rb (mR M l0 7) fun b2 => ck (isK M b2 14) <| ck (inb l1 (mG M b2)) <| if (mI M b2 l1.toNatClampNeg) = l2 then (some (l3, M)) else (bd (fX3_goHour M l0) fun x5 M5 => (gX3_hoursTo_2 n) M5 l0 l1 l2 (l3 + (1 : Int32))))
noncomputable def fX3_hoursTo (M : Mem) (a0 : Nat) (a1 : Int32) (a2 : Int32) : Option (Int32 × Mem) :=
  gX3_hoursTo_2 FU M a0 a1 a2 (0 : Int32)
set_option maxRecDepth 100000 in
set_option maxHeartbeats 4000000 in
theorem gX3_hoursTo_2_s  (n : Nat) (M : Mem) (l0 : Nat) (l1 : Int32) (l2 : Int32) (l3 : Int32) : gX3_hoursTo_2  (n + 1) M l0 l1 l2 l3 = (if (40 : Int32) < l3 then (some ((-5 : Int32), M)) else (ck (isK M l0 3) <| rb (mR M l0 7) fun b2 => ck (isK M b2 14) <| ck (inb l1 (mG M b2)) <| if (mI M b2 l1.toNatClampNeg) = l2 then (some (l3, M)) else (bd (fX3_goHour M l0) fun x5 M5 => (gX3_hoursTo_2 n) M5 l0 l1 l2 (l3 + (1 : Int32))))) := rfl
set_option maxRecDepth 100000 in
set_option maxHeartbeats 4000000 in
theorem wX3_hoursTo_2 {z : Zx} {fx : Fx} {al : Bool} {r : Nat} {N : Mem} {xr : Int32} (hz : Zok z fx al yX3_hoursTo.cls yX3_hoursTo.name cX3_hoursTo (some .int) 4 (r + 5) 0 0 (some (.int xr)) N)    : ∀ {n : Nat} {M : Mem} {l0 : Nat} {l1 : Int32} {l2 : Int32} {l3 : Int32}, gX3_hoursTo_2  n M l0 l1 l2 l3 = some (xr, N) → V z 2 [some (.ref l0), some (.int l1), some (.int l2), some (.int l3)] [] M 0 0 := by
  intro n
  induction n with
  | zero => intro M l0 l1 l2 l3 h; cases h
  | succ n ih =>
    intro M l0 l1 l2 l3 h
    replace h := (gX3_hoursTo_2_s  n M l0 l1 l2 l3).symm.trans h
    refine v_iload_n hz rfl rfl dX3_hoursTo_2 ?_
    refine v_bipush hz (v := (40 : Int32)) (by decide) dX3_hoursTo_3 ?_
    refine v_icmp_gt (tgt := 30) hz dX3_hoursTo_5 (by decide) (fun hc => ?_) (fun hc => ?_)
    · replace h := (if_pos hc).symm.trans h
      refine v_bipush hz (v := (-5 : Int32)) (by decide) dX3_hoursTo_30 ?_
      obtain ⟨rfl, rfl⟩ := sp_inv h
      exact v_iret hz dX3_hoursTo_32 (by decide) (by decide)
    · replace h := (if_neg hc).symm.trans h
      refine v_aload_n hz rfl rfl dX3_hoursTo_8 ?_
      obtain ⟨ck1, h⟩ := ck_inv h
      obtain ⟨ka1, kb1⟩ := isK_of ck1
      obtain ⟨b2, r2, h⟩ := rb_inv h
      refine v_getR hz fl_X3_21 rfl dX3_hoursTo_9 ka1 kb1 r2 ?_
      refine v_iload_n hz rfl rfl dX3_hoursTo_12 ?_
      obtain ⟨ck3, h⟩ := ck_inv h
      obtain ⟨ka3, kb3⟩ := isK_of ck3
      obtain ⟨g4, h⟩ := ck_inv h
      refine v_iaload hz dX3_hoursTo_13 ka3 kb3 g4 ?_
      refine v_iload_n hz rfl rfl dX3_hoursTo_14 ?_
      refine v_icmp_ne (tgt := 20) hz dX3_hoursTo_15 (by decide) (fun hc => ?_) (fun hc => ?_)
      · replace h := (if_neg hc).symm.trans h
        refine v_aload_n hz rfl rfl dX3_hoursTo_20 ?_
        obtain ⟨x5, M5, e5, h⟩ := bd_inv h
        refine v_callV hz (As := []) vl_X3_104 (tX3_goHour (r + 0) e5) rfl (by decide) ka1 kb1 rfl rfl rfl (Nat.le_of_ble_eq_true rfl) ⟨by decide, by decide⟩ dX3_hoursTo_21 ?_
        show V z 24 [some (.ref l0), some (.int l1), some (.int l2), some (.int l3)] [] M5 0 0
        refine v_iinc hz (v := (l3 + (1 : Int32))) (lw := [some (.ref l0), some (.int l1), some (.int l2), some (.int (l3 + (1 : Int32)))]) rfl (congrArg (fun q => l3 + q) (show Int32.ofInt (1) = (1 : Int32) by decide)) rfl rfl dX3_hoursTo_24 ?_
        refine v_goto (tgt := 2) hz dX3_hoursTo_27 (by decide) ?_
        exact v_weak (lvle_s (lvle_s (lvle_s (lvle_s lvle_0)))) (ih h)
      · replace h := (if_pos hc).symm.trans h
        refine v_iload_n hz rfl rfl dX3_hoursTo_18 ?_
        obtain ⟨rfl, rfl⟩ := sp_inv h
        exact v_iret hz dX3_hoursTo_19 (by decide) (by decide)
set_option maxRecDepth 100000 in
set_option maxHeartbeats 4000000 in
theorem tX3_hoursTo (r : Nat) {fx : Fx} {al : Bool} {M N : Mem} {a0 : Nat} {a1 : Int32} {a2 : Int32} {xr : Int32}  (h : fX3_hoursTo M a0 a1 a2 = some (xr, N)) : Ct fx yX3_hoursTo cX3_hoursTo 4 (some .int) (r + 5) 0 0 al [.ref a0, .int a1, .int a2] M (some (.int xr)) N := by
  refine ct_of (lv := [some (.ref a0), some (.int a1), some (.int a2), none]) (by decide) (Nat.le_of_ble_eq_true rfl) rfl rfl (fun z hz => ?_)
  unfold fX3_hoursTo at h
  refine v_iconst hz (v := (0 : Int32)) (by decide) dX3_hoursTo_0 ?_
  refine v_istore_n hz (lw := [some (.ref a0), some (.int a1), some (.int a2), some (.int (0 : Int32))]) rfl (Nat.le_of_ble_eq_true rfl) rfl rfl dX3_hoursTo_1 ?_
  exact v_weak (lvle_s (lvle_s (lvle_s (lvle_s lvle_0)))) (wX3_hoursTo_2 hz   h)
