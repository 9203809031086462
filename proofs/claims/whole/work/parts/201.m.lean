noncomputable def fX3_take (M : Mem) (a0 : Nat) (a1 : Nat) : Option (Unit × Mem) :=
  ck (isK M a1 3) <| rb (mR M a1 1) fun b2 => ck (isK M a0 3) <| nm (stI (stI (stR M a0 1 (some b2)) a0 2 (mI (stR M a0 1 (some b2)) a1 2)) a0 4 (mI (stI (stR M a0 1 (some b2)) a0 2 (mI (stR M a0 1 (some b2)) a1 2)) a1 4)) fun M4 => ck (isK M4 a1 3) <| rb (mR M4 a1 3) fun b6 => ck (isK M4 a0 3) <| rb (mR M4 a0 3) fun b8 => ck (isK M4 b6 14) <| ck (isK M4 b8 14) <| ck (cpok (0 : Int32) (0 : Int32) (25 : Int32) (mG M4 b6) (mG M4 b8)) <| rb (mR (cpI M4 b6 b8 (0 : Int32).toNatClampNeg (0 : Int32).toNatClampNeg (25 : Int32).toNatClampNeg) a1 5) fun b12 => rb (mR (cpI M4 b6 b8 (0 : Int32).toNatClampNeg (0 : Int32).toNatClampNeg (25 : Int32).toNatClampNeg) a0 5) fun b13 => ck (isK M4 b12 14) <| ck (isK M4 b13 14) <| ck (cpok (0 : Int32) (0 : Int32) (6 : Int32) (mG M4 b12) (mG M4 b13)) <| nm (cpI (cpI M4 b6 b8 (0 : Int32).toNatClampNeg (0 : Int32).toNatClampNeg (25 : Int32).toNatClampNeg) b12 b13 (0 : Int32).toNatClampNeg (0 : Int32).toNatClampNeg (6 : Int32).toNatClampNeg) fun M17 => ck (isK M17 a1 3) <| rb (mR M17 a1 6) fun b19 => ck (isK M17 a0 3) <| rb (mR M17 a0 6) fun b21 => ck (isK M17 b19 14) <| ck (isK M17 b21 14) <| ck (cpok (0 : Int32) (0 : Int32) (6 : Int32) (mG M17 b19) (mG M17 b21)) <| rb (mR (cpI M17 b19 b21 (0 : Int32).toNatClampNeg (0 : Int32).toNatClampNeg (6 : Int32).toNatClampNeg) a1 7) fun b25 => rb (mR (cpI M17 b19 b21 (0 : Int32).toNatClampNeg (0 : Int32).toNatClampNeg (6 : Int32).toNatClampNeg) a0 7) fun b26 => ck (isK M17 b25 14) <| ck (isK M17 b26 14) <| ck (cpok (0 : Int32) (0 : Int32) (6 : Int32) (mG M17 b25) (mG M17 b26)) <| nm (cpI (cpI M17 b19 b21 (0 : Int32).toNatClampNeg (0 : Int32).toNatClampNeg (6 : Int32).toNatClampNeg) b25 b26 (0 : Int32).toNatClampNeg (0 : Int32).toNatClampNeg (6 : Int32).toNatClampNeg) fun M30 => ck (isK M30 a1 3) <| rb (mR M30 a1 8) fun b32 => ck (isK M30 a0 3) <| rb (mR M30 a0 8) fun b34 => ck (isK M30 b32 16) <| ck (isK M30 b34 16) <| ck (cpok (0 : Int32) (0 : Int32) (6 : Int32) (mG M30 b32) (mG M30 b34)) <| ck (allb M30 b32 (0 : Int32).toNatClampNeg (6 : Int32).toNatClampNeg) <| rb (mR (cpI M30 b32 b34 (0 : Int32).toNatClampNeg (0 : Int32).toNatClampNeg (6 : Int32).toNatClampNeg) a1 9) fun b39 => rb (mR (cpI M30 b32 b34 (0 : Int32).toNatClampNeg (0 : Int32).toNatClampNeg (6 : Int32).toNatClampNeg) a0 9) fun b40 => ck (isK M30 b39 14) <| ck (isK M30 b40 14) <| ck (cpok (0 : Int32) (0 : Int32) (24 : Int32) (mG M30 b39) (mG M30 b40)) <| nm (cpI (cpI M30 b32 b34 (0 : Int32).toNatClampNeg (0 : Int32).toNatClampNeg (6 : Int32).toNatClampNeg) b39 b40 (0 : Int32).toNatClampNeg (0 : Int32).toNatClampNeg (24 : Int32).toNatClampNeg) fun M44 => some ((), M44)
set_option maxRecDepth 100000 in
set_option maxHeartbeats 4000000 in
theorem tX3_take (r : Nat) {fx : Fx} {al : Bool} {M N : Mem} {a0 : Nat} {a1 : Nat}  (h : fX3_take M a0 a1 = some ((), N)) : Ct fx yX3_take cX3_take 2 none (r + 1) 0 0 al [.ref a0, .ref a1] M none N := by
  refine ct_of (lv := [some (.ref a0), some (.ref a1)]) (by decide) (Nat.le_of_ble_eq_true rfl) rfl rfl (fun z hz => ?_)
  unfold fX3_take at h
  refine v_aload_n hz rfl rfl dX3_take_0 ?_
  refine v_aload_n hz rfl rfl dX3_take_1 ?_
  obtain ⟨ck1, h⟩ := ck_inv h
  obtain ⟨ka1, kb1⟩ := isK_of ck1
  obtain ⟨b2, r2, h⟩ := rb_inv h
  refine v_getR hz fl_X3_38 rfl dX3_take_2 ka1 kb1 r2 ?_
  obtain ⟨ck3, h⟩ := ck_inv h
  obtain ⟨ka3, kb3⟩ := isK_of ck3
  refine v_putR hz fl_X3_38 ft_3_1 (by decide) rfl (fun _ => rfl) (fun _ => rfl) dX3_take_5 ka3 kb3 ?_
  refine v_aload_n hz rfl rfl dX3_take_8 ?_
  refine v_aload_n hz rfl rfl dX3_take_9 ?_
  refine v_getI hz fl_X3_42 rfl dX3_take_10 ka1 kb1 ?_
  refine v_putI hz fl_X3_42 ft_3_2 (by decide) rfl rfl rfl dX3_take_13 ka3 kb3 ?_
  refine v_aload_n hz rfl rfl dX3_take_16 ?_
  refine v_aload_n hz rfl rfl dX3_take_17 ?_
  refine v_getI hz fl_X3_46 rfl dX3_take_18 ka1 kb1 ?_
  refine v_putI hz fl_X3_46 ft_3_4 (by decide) rfl rfl rfl dX3_take_21 ka3 kb3 ?_
  obtain ⟨M4, eM4, h⟩ := nm_inv h
  refine v_mem eM4.symm ?_
  refine v_aload_n hz rfl rfl dX3_take_24 ?_
  obtain ⟨ck5, h⟩ := ck_inv h
  obtain ⟨ka5, kb5⟩ := isK_of ck5
  obtain ⟨b6, r6, h⟩ := rb_inv h
  refine v_getR hz fl_X3_9 rfl dX3_take_25 ka5 kb5 r6 ?_
  refine v_iconst hz (v := (0 : Int32)) (by decide) dX3_take_28 ?_
  refine v_aload_n hz rfl rfl dX3_take_29 ?_
  obtain ⟨ck7, h⟩ := ck_inv h
  obtain ⟨ka7, kb7⟩ := isK_of ck7
  obtain ⟨b8, r8, h⟩ := rb_inv h
  refine v_getR hz fl_X3_9 rfl dX3_take_30 ka7 kb7 r8 ?_
  refine v_iconst hz (v := (0 : Int32)) (by decide) dX3_take_33 ?_
  refine v_bipush hz (v := (25 : Int32)) (by decide) dX3_take_34 ?_
  obtain ⟨ck9, h⟩ := ck_inv h
  obtain ⟨ka9, kb9⟩ := isK_of ck9
  obtain ⟨ck10, h⟩ := ck_inv h
  obtain ⟨ka10, kb10⟩ := isK_of ck10
  obtain ⟨g11, h⟩ := ck_inv h
  refine v_copyI hz cl_X3_49 (Or.inl rfl) rfl ka9 kb9 ka10 kb10 g11 (Nat.le_of_ble_eq_true rfl) dX3_take_36 ?_
  refine v_aload_n hz rfl rfl dX3_take_39 ?_
  obtain ⟨b12, r12, h⟩ := rb_inv h
  refine v_getR hz fl_X3_15 rfl dX3_take_40 ka5 kb5 r12 ?_
  refine v_iconst hz (v := (0 : Int32)) (by decide) dX3_take_43 ?_
  refine v_aload_n hz rfl rfl dX3_take_44 ?_
  obtain ⟨b13, r13, h⟩ := rb_inv h
  refine v_getR hz fl_X3_15 rfl dX3_take_45 ka7 kb7 r13 ?_
  refine v_iconst hz (v := (0 : Int32)) (by decide) dX3_take_48 ?_
  refine v_bipush hz (v := (6 : Int32)) (by decide) dX3_take_49 ?_
  obtain ⟨ck14, h⟩ := ck_inv h
  obtain ⟨ka14, kb14⟩ := isK_of ck14
  obtain ⟨ck15, h⟩ := ck_inv h
  obtain ⟨ka15, kb15⟩ := isK_of ck15
  obtain ⟨g16, h⟩ := ck_inv h
  refine v_copyI hz cl_X3_49 (Or.inl rfl) rfl ka14 kb14 ka15 kb15 g16 (Nat.le_of_ble_eq_true rfl) dX3_take_51 ?_
  obtain ⟨M17, eM17, h⟩ := nm_inv h
  refine v_mem eM17.symm ?_
  refine v_aload_n hz rfl rfl dX3_take_54 ?_
  obtain ⟨ck18, h⟩ := ck_inv h
  obtain ⟨ka18, kb18⟩ := isK_of ck18
  obtain ⟨b19, r19, h⟩ := rb_inv h
  refine v_getR hz fl_X3_18 rfl dX3_take_55 ka18 kb18 r19 ?_
  refine v_iconst hz (v := (0 : Int32)) (by decide) dX3_take_58 ?_
  refine v_aload_n hz rfl rfl dX3_take_59 ?_
  obtain ⟨ck20, h⟩ := ck_inv h
  obtain ⟨ka20, kb20⟩ := isK_of ck20
  obtain ⟨b21, r21, h⟩ := rb_inv h
  refine v_getR hz fl_X3_18 rfl dX3_take_60 ka20 kb20 r21 ?_
  refine v_iconst hz (v := (0 : Int32)) (by decide) dX3_take_63 ?_
  refine v_bipush hz (v := (6 : Int32)) (by decide) dX3_take_64 ?_
  obtain ⟨ck22, h⟩ := ck_inv h
  obtain ⟨ka22, kb22⟩ := isK_of ck22
  obtain ⟨ck23, h⟩ := ck_inv h
  obtain ⟨ka23, kb23⟩ := isK_of ck23
  obtain ⟨g24, h⟩ := ck_inv h
  refine v_copyI hz cl_X3_49 (Or.inl rfl) rfl ka22 kb22 ka23 kb23 g24 (Nat.le_of_ble_eq_true rfl) dX3_take_66 ?_
  refine v_aload_n hz rfl rfl dX3_take_69 ?_
  obtain ⟨b25, r25, h⟩ := rb_inv h
  refine v_getR hz fl_X3_21 rfl dX3_take_70 ka18 kb18 r25 ?_
  refine v_iconst hz (v := (0 : Int32)) (by decide) dX3_take_73 ?_
  refine v_aload_n hz rfl rfl dX3_take_74 ?_
  obtain ⟨b26, r26, h⟩ := rb_inv h
  refine v_getR hz fl_X3_21 rfl dX3_take_75 ka20 kb20 r26 ?_
  refine v_iconst hz (v := (0 : Int32)) (by decide) dX3_take_78 ?_
  refine v_bipush hz (v := (6 : Int32)) (by decide) dX3_take_79 ?_
  obtain ⟨ck27, h⟩ := ck_inv h
  obtain ⟨ka27, kb27⟩ := isK_of ck27
  obtain ⟨ck28, h⟩ := ck_inv h
  obtain ⟨ka28, kb28⟩ := isK_of ck28
  obtain ⟨g29, h⟩ := ck_inv h
  refine v_copyI hz cl_X3_49 (Or.inl rfl) rfl ka27 kb27 ka28 kb28 g29 (Nat.le_of_ble_eq_true rfl) dX3_take_81 ?_
  obtain ⟨M30, eM30, h⟩ := nm_inv h
  refine v_mem eM30.symm ?_
  refine v_aload_n hz rfl rfl dX3_take_84 ?_
  obtain ⟨ck31, h⟩ := ck_inv h
  obtain ⟨ka31, kb31⟩ := isK_of ck31
  obtain ⟨b32, r32, h⟩ := rb_inv h
  refine v_getR hz fl_X3_24 rfl dX3_take_85 ka31 kb31 r32 ?_
  refine v_iconst hz (v := (0 : Int32)) (by decide) dX3_take_88 ?_
  refine v_aload_n hz rfl rfl dX3_take_89 ?_
  obtain ⟨ck33, h⟩ := ck_inv h
  obtain ⟨ka33, kb33⟩ := isK_of ck33
  obtain ⟨b34, r34, h⟩ := rb_inv h
  refine v_getR hz fl_X3_24 rfl dX3_take_90 ka33 kb33 r34 ?_
  refine v_iconst hz (v := (0 : Int32)) (by decide) dX3_take_93 ?_
  refine v_bipush hz (v := (6 : Int32)) (by decide) dX3_take_94 ?_
  obtain ⟨ck35, h⟩ := ck_inv h
  obtain ⟨ka35, kb35⟩ := isK_of ck35
  obtain ⟨ck36, h⟩ := ck_inv h
  obtain ⟨ka36, kb36⟩ := isK_of ck36
  obtain ⟨g37, h⟩ := ck_inv h
  obtain ⟨g38, h⟩ := ck_inv h
  refine v_copyI hz cl_X3_49 (Or.inr ⟨rfl, allb_of g38⟩) rfl ka35 kb35 ka36 kb36 g37 (Nat.le_of_ble_eq_true rfl) dX3_take_96 ?_
  refine v_aload_n hz rfl rfl dX3_take_99 ?_
  obtain ⟨b39, r39, h⟩ := rb_inv h
  refine v_getR hz fl_X3_28 rfl dX3_take_100 ka31 kb31 r39 ?_
  refine v_iconst hz (v := (0 : Int32)) (by decide) dX3_take_103 ?_
  refine v_aload_n hz rfl rfl dX3_take_104 ?_
  obtain ⟨b40, r40, h⟩ := rb_inv h
  refine v_getR hz fl_X3_28 rfl dX3_take_105 ka33 kb33 r40 ?_
  refine v_iconst hz (v := (0 : Int32)) (by decide) dX3_take_108 ?_
  refine v_bipush hz (v := (24 : Int32)) (by decide) dX3_take_109 ?_
  obtain ⟨ck41, h⟩ := ck_inv h
  obtain ⟨ka41, kb41⟩ := isK_of ck41
  obtain ⟨ck42, h⟩ := ck_inv h
  obtain ⟨ka42, kb42⟩ := isK_of ck42
  obtain ⟨g43, h⟩ := ck_inv h
  refine v_copyI hz cl_X3_49 (Or.inl rfl) rfl ka41 kb41 ka42 kb42 g43 (Nat.le_of_ble_eq_true rfl) dX3_take_111 ?_
  obtain ⟨M44, eM44, h⟩ := nm_inv h
  refine v_mem eM44.symm ?_
  obtain ⟨-, rfl⟩ := sp_inv h
  exact v_vret hz dX3_take_114 (by decide) (by decide)
noncomputable def fX3_welcome (M : Mem) (a0 : Nat) (a1 : Int32) (a2 : Int32) (a3 : Int32) : Option (Int32 × Mem) :=
  ck (isK M a0 3) <| if (mI M a0 4) < (6 : Int32) then (rb (mR M a0 5) fun b2 => ck (isK M b2 14) <| ck (inb (mI M a0 4) (mG M b2)) <| rb (mR (stI M b2 (mI M a0 4).toNatClampNeg a1) a0 6) fun b5 => ck (isK M b5 14) <| ck (inb (mI M a0 4) (mG M b5)) <| rb (mR (stI (stI M b2 (mI M a0 4).toNatClampNeg a1) b5 (mI M a0 4).toNatClampNeg a2) a0 7) fun b8 => ck (isK M b8 14) <| ck (inb (mI M a0 4) (mG M b8)) <| nm (stI (stI (stI (stI M b2 (mI M a0 4).toNatClampNeg a1) b5 (mI M a0 4).toNatClampNeg a2) b8 (mI M a0 4).toNatClampNeg a3) a0 4 ((mI (stI (stI (stI M b2 (mI M a0 4).toNatClampNeg a1) b5 (mI M a0 4).toNatClampNeg a2) b8 (mI M a0 4).toNatClampNeg a3) a0 4) + (1 : Int32))) fun M11 => some ((mI M a0 4), M11)) else (some ((-4 : Int32), M))
set_option maxRecDepth 100000 in
set_option maxHeartbeats 4000000 in
theorem tX3_welcome (r : Nat) {fx : Fx} {al : Bool} {M N : Mem} {a0 : Nat} {a1 : Int32} {a2 : Int32} {a3 : Int32} {xr : Int32}  (h : fX3_welcome M a0 a1 a2 a3 = some (xr, N)) : Ct fx yX3_welcome cX3_welcome 5 (some .int) (r + 0) 0 0 al [.ref a0, .int a1, .int a2, .int a3] M (some (.int xr)) N := by
  refine ct_of (lv := [some (.ref a0), some (.int a1), some (.int a2), some (.int a3), none]) (by decide) (Nat.le_of_ble_eq_true rfl) rfl rfl (fun z hz => ?_)
  unfold fX3_welcome at h
  refine v_aload_n hz rfl rfl dX3_welcome_0 ?_
  obtain ⟨ck1, h⟩ := ck_inv h
  obtain ⟨ka1, kb1⟩ := isK_of ck1
  refine v_getI hz fl_X3_46 rfl dX3_welcome_1 ka1 kb1 ?_
  refine v_bipush hz (v := (6 : Int32)) (by decide) dX3_welcome_4 ?_
  refine v_icmp_lt (tgt := 12) hz dX3_welcome_6 (by decide) (fun hc => ?_) (fun hc => ?_)
  · replace h := (if_pos hc).symm.trans h
    refine v_aload_n hz rfl rfl dX3_welcome_12 ?_
    refine v_getI hz fl_X3_46 rfl dX3_welcome_13 ka1 kb1 ?_
    refine v_istore hz (lw := [some (.ref a0), some (.int a1), some (.int a2), some (.int a3), some (.int (mI M a0 4))]) (Nat.le_of_ble_eq_true rfl) rfl rfl dX3_welcome_16 ?_
    refine v_aload_n hz rfl rfl dX3_welcome_18 ?_
    obtain ⟨b2, r2, h⟩ := rb_inv h
    refine v_getR hz fl_X3_15 rfl dX3_welcome_19 ka1 kb1 r2 ?_
    refine v_iload hz rfl dX3_welcome_22 ?_
    refine v_iload_n hz rfl rfl dX3_welcome_24 ?_
    obtain ⟨ck3, h⟩ := ck_inv h
    obtain ⟨ka3, kb3⟩ := isK_of ck3
    obtain ⟨g4, h⟩ := ck_inv h
    refine v_iastore hz dX3_welcome_25 ka3 kb3 g4 ?_
    refine v_aload_n hz rfl rfl dX3_welcome_26 ?_
    obtain ⟨b5, r5, h⟩ := rb_inv h
    refine v_getR hz fl_X3_18 rfl dX3_welcome_27 ka1 kb1 r5 ?_
    refine v_iload hz rfl dX3_welcome_30 ?_
    refine v_iload_n hz rfl rfl dX3_welcome_32 ?_
    obtain ⟨ck6, h⟩ := ck_inv h
    obtain ⟨ka6, kb6⟩ := isK_of ck6
    obtain ⟨g7, h⟩ := ck_inv h
    refine v_iastore hz dX3_welcome_33 ka6 kb6 g7 ?_
    refine v_aload_n hz rfl rfl dX3_welcome_34 ?_
    obtain ⟨b8, r8, h⟩ := rb_inv h
    refine v_getR hz fl_X3_21 rfl dX3_welcome_35 ka1 kb1 r8 ?_
    refine v_iload hz rfl dX3_welcome_38 ?_
    refine v_iload_n hz rfl rfl dX3_welcome_40 ?_
    obtain ⟨ck9, h⟩ := ck_inv h
    obtain ⟨ka9, kb9⟩ := isK_of ck9
    obtain ⟨g10, h⟩ := ck_inv h
    refine v_iastore hz dX3_welcome_41 ka9 kb9 g10 ?_
    refine v_aload_n hz rfl rfl dX3_welcome_42 ?_
    refine v_dup hz rfl dX3_welcome_43 ?_
    refine v_getI hz fl_X3_46 rfl dX3_welcome_44 ka1 kb1 ?_
    refine v_iconst hz (v := (1 : Int32)) (by decide) dX3_welcome_47 ?_
    refine v_iadd hz dX3_welcome_48 ?_
    refine v_putI hz fl_X3_46 ft_3_4 (by decide) rfl rfl rfl dX3_welcome_49 ka1 kb1 ?_
    obtain ⟨M11, eM11, h⟩ := nm_inv h
    refine v_mem eM11.symm ?_
    refine v_iload hz rfl dX3_welcome_52 ?_
    obtain ⟨rfl, rfl⟩ := sp_inv h
    exact v_iret hz dX3_welcome_54 (by decide) (by decide)
  · replace h := (if_neg hc).symm.trans h
    refine v_bipush hz (v := (-4 : Int32)) (by decide) dX3_welcome_9 ?_
    obtain ⟨rfl, rfl⟩ := sp_inv h
    exact v_iret hz dX3_welcome_11 (by decide) (by decide)
noncomputable def fX3_kindOf (M : Mem) (a0 : Nat) (a1 : Int32) : Option (Nat × Mem) :=
  ck (isK M a0 3) <| rb (mR M a0 0) fun b2 => rb (mR M a0 5) fun b3 => ck (isK M b3 14) <| ck (inb a1 (mG M b3)) <| ck (isK M b2 17) <| ck (inb (mI M b3 a1.toNatClampNeg) (mG M b2)) <| rb (mR M b2 (mI M b3 a1.toNatClampNeg).toNatClampNeg) fun b8 => some (b8, M)
set_option maxRecDepth 100000 in
set_option maxHeartbeats 4000000 in
theorem tX3_kindOf (r : Nat) {fx : Fx} {al : Bool} {M N : Mem} {a0 : Nat} {a1 : Int32} {xr : Nat}  (h : fX3_kindOf M a0 a1 = some (xr, N)) : Ct fx yX3_kindOf cX3_kindOf 2 (some (.object "CarpetsLaw$Walker")) (r + 0) 0 0 al [.ref a0, .int a1] M (some (.ref xr)) N := by
  refine ct_of (lv := [some (.ref a0), some (.int a1)]) (by decide) (Nat.le_of_ble_eq_true rfl) rfl rfl (fun z hz => ?_)
  unfold fX3_kindOf at h
  refine v_aload_n hz rfl rfl dX3_kindOf_0 ?_
  obtain ⟨ck1, h⟩ := ck_inv h
  obtain ⟨ka1, kb1⟩ := isK_of ck1
  obtain ⟨b2, r2, h⟩ := rb_inv h
  refine v_getR hz fl_X3_34 rfl dX3_kindOf_1 ka1 kb1 r2 ?_
  refine v_aload_n hz rfl rfl dX3_kindOf_4 ?_
  obtain ⟨b3, r3, h⟩ := rb_inv h
  refine v_getR hz fl_X3_15 rfl dX3_kindOf_5 ka1 kb1 r3 ?_
  refine v_iload_n hz rfl rfl dX3_kindOf_8 ?_
  obtain ⟨ck4, h⟩ := ck_inv h
  obtain ⟨ka4, kb4⟩ := isK_of ck4
  obtain ⟨g5, h⟩ := ck_inv h
  refine v_iaload hz dX3_kindOf_9 ka4 kb4 g5 ?_
  obtain ⟨ck6, h⟩ := ck_inv h
  obtain ⟨ka6, kb6⟩ := isK_of ck6
  obtain ⟨g7, h⟩ := ck_inv h
  obtain ⟨b8, r8, h⟩ := rb_inv h
  refine v_aaload hz dX3_kindOf_10 ka6 kb6 g7 r8 ?_
  obtain ⟨rfl, rfl⟩ := sp_inv h
  exact v_aret hz dX3_kindOf_11 (by decide) (by decide)
noncomputable def fX3_isBald (M : Mem) (a0 : Nat) (a1 : Int32) : Option (Int32 × Mem) :=
  ck (isK M a0 3) <| rb (mR M a0 3) fun b2 => ck (isK M b2 14) <| ck (inb a1 (mG M b2)) <| rb (mR M a0 1) fun b5 => ck (isK M b5 7) <| if (mI M b2 a1.toNatClampNeg) < (mI M b5 2) then (some ((0 : Int32), M)) else (some ((1 : Int32), M))
set_option maxRecDepth 100000 in
set_option maxHeartbeats 4000000 in
theorem tX3_isBald (r : Nat) {fx : Fx} {al : Bool} {M N : Mem} {a0 : Nat} {a1 : Int32} {xr : Int32}  (h : fX3_isBald M a0 a1 = some (xr, N)) : Ct fx yX3_isBald cX3_isBald 2 (some .boolean) (r + 0) 0 0 al [.ref a0, .int a1] M (some (.int xr)) N := by
  refine ct_of (lv := [some (.ref a0), some (.int a1)]) (by decide) (Nat.le_of_ble_eq_true rfl) rfl rfl (fun z hz => ?_)
  unfold fX3_isBald at h
  refine v_aload_n hz rfl rfl dX3_isBald_0 ?_
  obtain ⟨ck1, h⟩ := ck_inv h
  obtain ⟨ka1, kb1⟩ := isK_of ck1
  obtain ⟨b2, r2, h⟩ := rb_inv h
  refine v_getR hz fl_X3_9 rfl dX3_isBald_1 ka1 kb1 r2 ?_
  refine v_iload_n hz rfl rfl dX3_isBald_4 ?_
  obtain ⟨ck3, h⟩ := ck_inv h
  obtain ⟨ka3, kb3⟩ := isK_of ck3
  obtain ⟨g4, h⟩ := ck_inv h
  refine v_iaload hz dX3_isBald_5 ka3 kb3 g4 ?_
  refine v_aload_n hz rfl rfl dX3_isBald_6 ?_
  obtain ⟨b5, r5, h⟩ := rb_inv h
  refine v_getR hz fl_X3_38 rfl dX3_isBald_7 ka1 kb1 r5 ?_
  obtain ⟨ck6, h⟩ := ck_inv h
  obtain ⟨ka6, kb6⟩ := isK_of ck6
  refine v_getI hz fl_X3_55 rfl dX3_isBald_10 ka6 kb6 ?_
  refine v_icmp_lt (tgt := 20) hz dX3_isBald_13 (by decide) (fun hc => ?_) (fun hc => ?_)
  · replace h := (if_pos hc).symm.trans h
    refine v_iconst hz (v := (0 : Int32)) (by decide) dX3_isBald_20 ?_
    obtain ⟨rfl, rfl⟩ := sp_inv h
    exact v_zret hz (Or.inl rfl) dX3_isBald_21 (by decide) (by decide)
  · replace h := (if_neg hc).symm.trans h
    refine v_iconst hz (v := (1 : Int32)) (by decide) dX3_isBald_16 ?_
    refine v_goto (tgt := 21) hz dX3_isBald_17 (by decide) ?_
    obtain ⟨rfl, rfl⟩ := sp_inv h
    exact v_zret hz (Or.inr rfl) dX3_isBald_21 (by decide) (by decide)
noncomputable def gX3_countBald_21 (K4 : Mem → Nat → Int32 → Int32 → Option (Int32 × Mem)) (M : Mem) (l0 : Nat) (l1 : Int32) (l2 : Int32) : Option (Int32 × Mem) :=
  K4 M l0 l1 (l2 + (1 : Int32))
noncomputable def gX3_countBald_4  : Nat → Mem → Nat → Int32 → Int32 → Option (Int32 × Mem)
  | 0, _, _, _, _ => none
  | n + 1, M, l0, l1, l2 => if (25 : Int32) ≤ l2 then (some (l1, M)) else (ck (isK M l0 3) <| bd (fX3_isBald M l0 l2) fun x2 M2 => if x2 = 0 then (gX3_countBald_21 (gX3_countBald_4 n) M2 l0 l1 l2) else (gX3_countBald_21 (gX3_countBald_4 n) M2 l0 (l1 + (1 : Int32)) l2))
noncomputable def fX3_countBald (M : Mem) (a0 : Nat) : Option (Int32 × Mem) :=
  gX3_countBald_4 FU M a0 (0 : Int32) (0 : Int32)
set_option maxRecDepth 100000 in
set_option maxHeartbeats 4000000 in
theorem wX3_countBald_21 {z : Zx} {fx : Fx} {al : Bool} {r : Nat} {N : Mem} {xr : Int32} (hz : Zok z fx al yX3_countBald.cls yX3_countBald.name cX3_countBald (some .int) 3 (r + 1) 0 0 (some (.int xr)) N)  {K4 : Mem → Nat → Int32 → Int32 → Option (Int32 × Mem)} (hK4 : ∀ {M : Mem} {l0 : Nat} {l1 : Int32} {l2 : Int32}, K4 M l0 l1 l2 = some (xr, N) → V z 4 [some (.ref l0), some (.int l1), some (.int l2)] [] M 0 0) {M : Mem} {l0 : Nat} {l1 : Int32} {l2 : Int32} (h : gX3_countBald_21 K4 M l0 l1 l2 = some (xr, N)) : V z 21 [some (.ref l0), some (.int l1), some (.int l2)] [] M 0 0 := by
  unfold gX3_countBald_21 at h
  refine v_iinc hz (v := (l2 + (1 : Int32))) (lw := [some (.ref l0), some (.int l1), some (.int (l2 + (1 : Int32)))]) rfl (congrArg (fun q => l2 + q) (show Int32.ofInt (1) = (1 : Int32) by decide)) rfl rfl dX3_countBald_21 ?_
  refine v_goto (tgt := 4) hz dX3_countBald_24 (by decide) ?_
  exact v_weak (lvle_s (lvle_s (lvle_s lvle_0))) (hK4 h)
set_option maxRecDepth 100000 in
set_option maxHeartbeats 4000000 in
theorem gX3_countBald_4_s  (n : Nat) (M : Mem) (l0 : Nat) (l1 : Int32) (l2 : Int32) : gX3_countBald_4  (n + 1) M l0 l1 l2 = (if (25 : Int32) ≤ l2 then (some (l1, M)) else (ck (isK M l0 3) <| bd (fX3_isBald M l0 l2) fun x2 M2 => if x2 = 0 then (gX3_countBald_21 (gX3_countBald_4 n) M2 l0 l1 l2) else (gX3_countBald_21 (gX3_countBald_4 n) M2 l0 (l1 + (1 : Int32)) l2))) := rfl
set_option maxRecDepth 100000 in
set_option maxHeartbeats 4000000 in
theorem wX3_countBald_4 {z : Zx} {fx : Fx} {al : Bool} {r : Nat} {N : Mem} {xr : Int32} (hz : Zok z fx al yX3_countBald.cls yX3_countBald.name cX3_countBald (some .int) 3 (r + 1) 0 0 (some (.int xr)) N)    : ∀ {n : Nat} {M : Mem} {l0 : Nat} {l1 : Int32} {l2 : Int32}, gX3_countBald_4  n M l0 l1 l2 = some (xr, N) → V z 4 [some (.ref l0), some (.int l1), some (.int l2)] [] M 0 0 := by
  intro n
  induction n with
  | zero => intro M l0 l1 l2 h; cases h
  | succ n ih =>
    intro M l0 l1 l2 h
    replace h := (gX3_countBald_4_s  n M l0 l1 l2).symm.trans h
    refine v_iload_n hz rfl rfl dX3_countBald_4 ?_
    refine v_bipush hz (v := (25 : Int32)) (by decide) dX3_countBald_5 ?_
    refine v_icmp_ge (tgt := 27) hz dX3_countBald_7 (by decide) (fun hc => ?_) (fun hc => ?_)
    · replace h := (if_pos hc).symm.trans h
      refine v_iload_n hz rfl rfl dX3_countBald_27 ?_
      obtain ⟨rfl, rfl⟩ := sp_inv h
      exact v_iret hz dX3_countBald_28 (by decide) (by decide)
    · replace h := (if_neg hc).symm.trans h
      refine v_aload_n hz rfl rfl dX3_countBald_10 ?_
      refine v_iload_n hz rfl rfl dX3_countBald_11 ?_
      obtain ⟨ck1, h⟩ := ck_inv h
      obtain ⟨ka1, kb1⟩ := isK_of ck1
      obtain ⟨x2, M2, e2, h⟩ := bd_inv h
      refine v_callV hz (As := [.int l2]) vl_X3_60 (tX3_isBald (r + 0) e2) rfl (by decide) ka1 kb1 rfl rfl rfl (Nat.le_of_ble_eq_true rfl) ⟨by decide, by decide⟩ dX3_countBald_12 ?_
      show V z 15 [some (.ref l0), some (.int l1), some (.int l2)] [.int x2] M2 0 0
      refine v_if_eq (tgt := 21) hz dX3_countBald_15 (by decide) (fun hc => ?_) (fun hc => ?_)
      · replace h := (if_pos hc).symm.trans h
        exact v_weak (lvle_s (lvle_s (lvle_s lvle_0))) (wX3_countBald_21 hz  (fun h => ih h) h)
      · replace h := (if_neg hc).symm.trans h
        refine v_iinc hz (v := (l1 + (1 : Int32))) (lw := [some (.ref l0), some (.int (l1 + (1 : Int32))), some (.int l2)]) rfl (congrArg (fun q => l1 + q) (show Int32.ofInt (1) = (1 : Int32) by decide)) rfl rfl dX3_countBald_18 ?_
        exact v_weak (lvle_s (lvle_s (lvle_s lvle_0))) (wX3_countBald_21 hz  (fun h => ih h) h)
set_option maxRecDepth 100000 in
set_option maxHeartbeats 4000000 in
theorem tX3_countBald (r : Nat) {fx : Fx} {al : Bool} {M N : Mem} {a0 : Nat} {xr : Int32}  (h : fX3_countBald M a0 = some (xr, N)) : Ct fx yX3_countBald cX3_countBald 3 (some .int) (r + 1) 0 0 al [.ref a0] M (some (.int xr)) N := by
  refine ct_of (lv := [some (.ref a0), none, none]) (by decide) (Nat.le_of_ble_eq_true rfl) rfl rfl (fun z hz => ?_)
  unfold fX3_countBald at h
  refine v_iconst hz (v := (0 : Int32)) (by decide) dX3_countBald_0 ?_
  refine v_istore_n hz (lw := [some (.ref a0), some (.int (0 : Int32)), none]) rfl (Nat.le_of_ble_eq_true rfl) rfl rfl dX3_countBald_1 ?_
  refine v_iconst hz (v := (0 : Int32)) (by decide) dX3_countBald_2 ?_
  refine v_istore_n hz (lw := [some (.ref a0), some (.int (0 : Int32)), some (.int (0 : Int32))]) rfl (Nat.le_of_ble_eq_true rfl) rfl rfl dX3_countBald_3 ?_
  exact v_weak (lvle_s (lvle_s (lvle_s lvle_0))) (wX3_countBald_4 hz   h)
noncomputable def gX3_wearOfAll_4  : Nat → Mem → Nat → Int32 → Int32 → Option (Int32 × Mem)
  | 0, _, _, _, _ => none
  | n + 1, M, l0, l1, l2 => if (25 : Int32) ≤ l2 then (some (l1, M)) else (ck (isK M l0 3) <| rb (mR M l0 3) fun b2 => ck (isK M b2 14) <| ck (inb l2 (mG M b2)) <| (gX3_wearOfAll_4 n) M l0 (l1 + (mI M b2 l2.toNatClampNeg)) (l2 + (1 : Int32)))
noncomputable def fX3_wearOfAll (M : Mem) (a0 : Nat) : Option (Int32 × Mem) :=
  gX3_wearOfAll_4 FU M a0 (0 : Int32) (0 : Int32)
set_option maxRecDepth 100000 in
set_option maxHeartbeats 4000000 in
theorem gX3_wearOfAll_4_s  (n : Nat) (M : Mem) (l0 : Nat) (l1 : Int32) (l2 : Int32) : gX3_wearOfAll_4  (n + 1) M l0 l1 l2 = (if (25 : Int32) ≤ l2 then (some (l1, M)) else (ck (isK M l0 3) <| rb (mR M l0 3) fun b2 => ck (isK M b2 14) <| ck (inb l2 (mG M b2)) <| (gX3_wearOfAll_4 n) M l0 (l1 + (mI M b2 l2.toNatClampNeg)) (l2 + (1 : Int32)))) := rfl
set_option maxRecDepth 100000 in
set_option maxHeartbeats 4000000 in
theorem wX3_wearOfAll_4 {z : Zx} {fx : Fx} {al : Bool} {r : Nat} {N : Mem} {xr : Int32} (hz : Zok z fx al yX3_wearOfAll.cls yX3_wearOfAll.name cX3_wearOfAll (some .int) 3 (r + 0) 0 0 (some (.int xr)) N)    : ∀ {n : Nat} {M : Mem} {l0 : Nat} {l1 : Int32} {l2 : Int32}, gX3_wearOfAll_4  n M l0 l1 l2 = some (xr, N) → V z 4 [some (.ref l0), some (.int l1), some (.int l2)] [] M 0 0 := by
  intro n
  induction n with
  | zero => intro M l0 l1 l2 h; cases h
  | succ n ih =>
    intro M l0 l1 l2 h
    replace h := (gX3_wearOfAll_4_s  n M l0 l1 l2).symm.trans h
    refine v_iload_n hz rfl rfl dX3_wearOfAll_4 ?_
    refine v_bipush hz (v := (25 : Int32)) (by decide) dX3_wearOfAll_5 ?_
    refine v_icmp_ge (tgt := 25) hz dX3_wearOfAll_7 (by decide) (fun hc => ?_) (fun hc => ?_)
    · replace h := (if_pos hc).symm.trans h
      refine v_iload_n hz rfl rfl dX3_wearOfAll_25 ?_
      obtain ⟨rfl, rfl⟩ := sp_inv h
      exact v_iret hz dX3_wearOfAll_26 (by decide) (by decide)
    · replace h := (if_neg hc).symm.trans h
      refine v_iload_n hz rfl rfl dX3_wearOfAll_10 ?_
      refine v_aload_n hz rfl rfl dX3_wearOfAll_11 ?_
      obtain ⟨ck1, h⟩ := ck_inv h
      obtain ⟨ka1, kb1⟩ := isK_of ck1
      obtain ⟨b2, r2, h⟩ := rb_inv h
      refine v_getR hz fl_X3_9 rfl dX3_wearOfAll_12 ka1 kb1 r2 ?_
      refine v_iload_n hz rfl rfl dX3_wearOfAll_15 ?_
      obtain ⟨ck3, h⟩ := ck_inv h
      obtain ⟨ka3, kb3⟩ := isK_of ck3
      obtain ⟨g4, h⟩ := ck_inv h
      refine v_iaload hz dX3_wearOfAll_16 ka3 kb3 g4 ?_
      refine v_iadd hz dX3_wearOfAll_17 ?_
      refine v_istore_n hz (lw := [some (.ref l0), some (.int (l1 + (mI M b2 l2.toNatClampNeg))), some (.int l2)]) rfl (Nat.le_of_ble_eq_true rfl) rfl rfl dX3_wearOfAll_18 ?_
      refine v_iinc hz (v := (l2 + (1 : Int32))) (lw := [some (.ref l0), some (.int (l1 + (mI M b2 l2.toNatClampNeg))), some (.int (l2 + (1 : Int32)))]) rfl (congrArg (fun q => l2 + q) (show Int32.ofInt (1) = (1 : Int32) by decide)) rfl rfl dX3_wearOfAll_19 ?_
      refine v_goto (tgt := 4) hz dX3_wearOfAll_22 (by decide) ?_
      exact v_weak (lvle_s (lvle_s (lvle_s lvle_0))) (ih h)
set_option maxRecDepth 100000 in
set_option maxHeartbeats 4000000 in
theorem tX3_wearOfAll (r : Nat) {fx : Fx} {al : Bool} {M N : Mem} {a0 : Nat} {xr : Int32}  (h : fX3_wearOfAll M a0 = some (xr, N)) : Ct fx yX3_wearOfAll cX3_wearOfAll 3 (some .int) (r + 0) 0 0 al [.ref a0] M (some (.int xr)) N := by
  refine ct_of (lv := [some (.ref a0), none, none]) (by decide) (Nat.le_of_ble_eq_true rfl) rfl rfl (fun z hz => ?_)
  unfold fX3_wearOfAll at h
  refine v_iconst hz (v := (0 : Int32)) (by decide) dX3_wearOfAll_0 ?_
  refine v_istore_n hz (lw := [some (.ref a0), some (.int (0 : Int32)), none]) rfl (Nat.le_of_ble_eq_true rfl) rfl rfl dX3_wearOfAll_1 ?_
  refine v_iconst hz (v := (0 : Int32)) (by decide) dX3_wearOfAll_2 ?_
  refine v_istore_n hz (lw := [some (.ref a0), some (.int (0 : Int32)), some (.int (0 : Int32))]) rfl (Nat.le_of_ble_eq_true rfl) rfl rfl dX3_wearOfAll_3 ?_
  exact v_weak (lvle_s (lvle_s (lvle_s lvle_0))) (wX3_wearOfAll_4 hz   h)
noncomputable def gX3_beating_17  : Nat → Mem → Nat → Int32 → Int32 → Option (Int32 × Mem)
  | 0, _, _, _, _ => none
  | n + 1, M, l0, l1, l2 => if (25 : Int32) ≤ l2 then (ck (isK M l0 3) <| rb (mR M l0 1) fun b5 => ck (isK M b5 7) <| some ((if (0 : Int32) < ((l1 - (mI M b5 2)) + (1 : Int32)) then ((l1 - (mI M b5 2)) + (1 : Int32)) else (0 : Int32)), M)) else (ck (isK M l0 3) <| rb (mR M l0 3) fun b8 => ck (isK M b8 14) <| ck (inb l2 (mG M b8)) <| (gX3_beating_17 n) M l0 (if l1 < (mI M b8 l2.toNatClampNeg) then (mI M b8 l2.toNatClampNeg) else l1) (l2 + (1 : Int32)))
noncomputable def fX3_beating (M : Mem) (a0 : Nat) : Option (Int32 × Mem) :=
  ck (isK M a0 3) <| rb (mR M a0 1) fun b2 => ck (isK M b2 7) <| if (mI M b2 2) = 0 then (some ((-5 : Int32), M)) else (gX3_beating_17 FU M a0 (0 : Int32) (0 : Int32))
set_option maxRecDepth 100000 in
set_option maxHeartbeats 4000000 in
theorem gX3_beating_17_s  (n : Nat) (M : Mem) (l0 : Nat) (l1 : Int32) (l2 : Int32) : gX3_beating_17  (n + 1) M l0 l1 l2 = (if (25 : Int32) ≤ l2 then (ck (isK M l0 3) <| rb (mR M l0 1) fun b5 => ck (isK M b5 7) <| some ((if (0 : Int32) < ((l1 - (mI M b5 2)) + (1 : Int32)) then ((l1 - (mI M b5 2)) + (1 : Int32)) else (0 : Int32)), M)) else (ck (isK M l0 3) <| rb (mR M l0 3) fun b8 => ck (isK M b8 14) <| ck (inb l2 (mG M b8)) <| (gX3_beating_17 n) M l0 (if l1 < (mI M b8 l2.toNatClampNeg) then (mI M b8 l2.toNatClampNeg) else l1) (l2 + (1 : Int32)))) := rfl
set_option maxRecDepth 100000 in
set_option maxHeartbeats 4000000 in
theorem wX3_beating_17 {z : Zx} {fx : Fx} {al : Bool} {r : Nat} {N : Mem} {xr : Int32} (hz : Zok z fx al yX3_beating.cls yX3_beating.name cX3_beating (some .int) 3 (r + 1) 0 0 (some (.int xr)) N)    : ∀ {n : Nat} {M : Mem} {l0 : Nat} {l1 : Int32} {l2 : Int32}, gX3_beating_17  n M l0 l1 l2 = some (xr, N) → V z 17 [some (.ref l0), some (.int l1), some (.int l2)] [] M 0 0 := by
  intro n
  induction n with
  | zero => intro M l0 l1 l2 h; cases h
  | succ n ih =>
    intro M l0 l1 l2 h
    replace h := (gX3_beating_17_s  n M l0 l1 l2).symm.trans h
    refine v_iload_n hz rfl rfl dX3_beating_17 ?_
    refine v_bipush hz (v := (25 : Int32)) (by decide) dX3_beating_18 ?_
    refine v_icmp_ge (tgt := 40) hz dX3_beating_20 (by decide) (fun hc => ?_) (fun hc => ?_)
    · replace h := (if_pos hc).symm.trans h
      refine v_iconst hz (v := (0 : Int32)) (by decide) dX3_beating_40 ?_
      refine v_iload_n hz rfl rfl dX3_beating_41 ?_
      refine v_aload_n hz rfl rfl dX3_beating_42 ?_
      obtain ⟨ck4, h⟩ := ck_inv h
      obtain ⟨ka4, kb4⟩ := isK_of ck4
      obtain ⟨b5, r5, h⟩ := rb_inv h
      refine v_getR hz fl_X3_38 rfl dX3_beating_43 ka4 kb4 r5 ?_
      obtain ⟨ck6, h⟩ := ck_inv h
      obtain ⟨ka6, kb6⟩ := isK_of ck6
      refine v_getI hz fl_X3_55 rfl dX3_beating_46 ka6 kb6 ?_
      refine v_isub hz dX3_beating_49 ?_
      refine v_iconst hz (v := (1 : Int32)) (by decide) dX3_beating_50 ?_
      refine v_iadd hz dX3_beating_51 ?_
      refine v_mmax hz ml_X3_64 rfl (Nat.le_of_ble_eq_true rfl) (by decide) (by decide) dX3_beating_52 ?_
      obtain ⟨rfl, rfl⟩ := sp_inv h
      exact v_iret hz dX3_beating_55 (by decide) (by decide)
    · replace h := (if_neg hc).symm.trans h
      refine v_iload_n hz rfl rfl dX3_beating_23 ?_
      refine v_aload_n hz rfl rfl dX3_beating_24 ?_
      obtain ⟨ck7, h⟩ := ck_inv h
      obtain ⟨ka7, kb7⟩ := isK_of ck7
      obtain ⟨b8, r8, h⟩ := rb_inv h
      refine v_getR hz fl_X3_9 rfl dX3_beating_25 ka7 kb7 r8 ?_
      refine v_iload_n hz rfl rfl dX3_beating_28 ?_
      obtain ⟨ck9, h⟩ := ck_inv h
      obtain ⟨ka9, kb9⟩ := isK_of ck9
      obtain ⟨g10, h⟩ := ck_inv h
      refine v_iaload hz dX3_beating_29 ka9 kb9 g10 ?_
      refine v_mmax hz ml_X3_64 rfl (Nat.le_of_ble_eq_true rfl) (by decide) (by decide) dX3_beating_30 ?_
      refine v_istore_n hz (lw := [some (.ref l0), some (.int (if l1 < (mI M b8 l2.toNatClampNeg) then (mI M b8 l2.toNatClampNeg) else l1)), some (.int l2)]) rfl (Nat.le_of_ble_eq_true rfl) rfl rfl dX3_beating_33 ?_
      refine v_iinc hz (v := (l2 + (1 : Int32))) (lw := [some (.ref l0), some (.int (if l1 < (mI M b8 l2.toNatClampNeg) then (mI M b8 l2.toNatClampNeg) else l1)), some (.int (l2 + (1 : Int32)))]) rfl (congrArg (fun q => l2 + q) (show Int32.ofInt (1) = (1 : Int32) by decide)) rfl rfl dX3_beating_34 ?_
      refine v_goto (tgt := 17) hz dX3_beating_37 (by decide) ?_
      exact v_weak (lvle_s (lvle_s (lvle_s lvle_0))) (ih h)
set_option maxRecDepth 100000 in
set_option maxHeartbeats 4000000 in
theorem tX3_beating (r : Nat) {fx : Fx} {al : Bool} {M N : Mem} {a0 : Nat} {xr : Int32}  (h : fX3_beating M a0 = some (xr, N)) : Ct fx yX3_beating cX3_beating 3 (some .int) (r + 1) 0 0 al [.ref a0] M (some (.int xr)) N := by
  refine ct_of (lv := [some (.ref a0), none, none]) (by decide) (Nat.le_of_ble_eq_true rfl) rfl rfl (fun z hz => ?_)
  unfold fX3_beating at h
  refine v_aload_n hz rfl rfl dX3_beating_0 ?_
  obtain ⟨ck1, h⟩ := ck_inv h
  obtain ⟨ka1, kb1⟩ := isK_of ck1
  obtain ⟨b2, r2, h⟩ := rb_inv h
  refine v_getR hz fl_X3_38 rfl dX3_beating_1 ka1 kb1 r2 ?_
  obtain ⟨ck3, h⟩ := ck_inv h
  obtain ⟨ka3, kb3⟩ := isK_of ck3
  refine v_getI hz fl_X3_55 rfl dX3_beating_4 ka3 kb3 ?_
  refine v_if_ne (tgt := 13) hz dX3_beating_7 (by decide) (fun hc => ?_) (fun hc => ?_)
  · replace h := (if_neg hc).symm.trans h
    refine v_iconst hz (v := (0 : Int32)) (by decide) dX3_beating_13 ?_
    refine v_istore_n hz (lw := [some (.ref a0), some (.int (0 : Int32)), none]) rfl (Nat.le_of_ble_eq_true rfl) rfl rfl dX3_beating_14 ?_
    refine v_iconst hz (v := (0 : Int32)) (by decide) dX3_beating_15 ?_
    refine v_istore_n hz (lw := [some (.ref a0), some (.int (0 : Int32)), some (.int (0 : Int32))]) rfl (Nat.le_of_ble_eq_true rfl) rfl rfl dX3_beating_16 ?_
    exact v_weak (lvle_s (lvle_s (lvle_s lvle_0))) (wX3_beating_17 hz   h)
  · replace h := (if_pos hc).symm.trans h
    refine v_bipush hz (v := (-5 : Int32)) (by decide) dX3_beating_10 ?_
    obtain ⟨rfl, rfl⟩ := sp_inv h
    exact v_iret hz dX3_beating_12 (by decide) (by decide)
noncomputable def fX3_tread (M : Mem) (a0 : Nat) (a1 : Int32) (a2 : Int32) : Option (Unit × Mem) :=
  ck (isK M a0 3) <| rb (mR M a0 3) fun b2 => ck (isK M b2 14) <| ck (inb a1 (mG M b2)) <| ck (inb a1 (mG M b2)) <| some ((), (stI M b2 a1.toNatClampNeg (if ((mI M b2 a1.toNatClampNeg) + a2) < (99 : Int32) then ((mI M b2 a1.toNatClampNeg) + a2) else (99 : Int32))))
set_option maxRecDepth 100000 in
set_option maxHeartbeats 4000000 in
theorem tX3_tread (r : Nat) {fx : Fx} {al : Bool} {M N : Mem} {a0 : Nat} {a1 : Int32} {a2 : Int32}  (h : fX3_tread M a0 a1 a2 = some ((), N)) : Ct fx yX3_tread cX3_tread 3 none (r + 1) 0 0 al [.ref a0, .int a1, .int a2] M none N := by
  refine ct_of (lv := [some (.ref a0), some (.int a1), some (.int a2)]) (by decide) (Nat.le_of_ble_eq_true rfl) rfl rfl (fun z hz => ?_)
  unfold fX3_tread at h
  refine v_aload_n hz rfl rfl dX3_tread_0 ?_
  obtain ⟨ck1, h⟩ := ck_inv h
  obtain ⟨ka1, kb1⟩ := isK_of ck1
  obtain ⟨b2, r2, h⟩ := rb_inv h
  refine v_getR hz fl_X3_9 rfl dX3_tread_1 ka1 kb1 r2 ?_
  refine v_iload_n hz rfl rfl dX3_tread_4 ?_
  refine v_bipush hz (v := (99 : Int32)) (by decide) dX3_tread_5 ?_
  refine v_aload_n hz rfl rfl dX3_tread_7 ?_
  refine v_getR hz fl_X3_9 rfl dX3_tread_8 ka1 kb1 r2 ?_
  refine v_iload_n hz rfl rfl dX3_tread_11 ?_
  obtain ⟨ck3, h⟩ := ck_inv h
  obtain ⟨ka3, kb3⟩ := isK_of ck3
  obtain ⟨g4, h⟩ := ck_inv h
  refine v_iaload hz dX3_tread_12 ka3 kb3 g4 ?_
  refine v_iload_n hz rfl rfl dX3_tread_13 ?_
  refine v_iadd hz dX3_tread_14 ?_
  refine v_mmin hz ml_X3_70 rfl (Nat.le_of_ble_eq_true rfl) (by decide) (by decide) dX3_tread_15 ?_
  obtain ⟨g5, h⟩ := ck_inv h
  refine v_iastore hz dX3_tread_18 ka3 kb3 g5 ?_
  obtain ⟨-, rfl⟩ := sp_inv h
  exact v_vret hz dX3_tread_19 (by decide) (by decide)
noncomputable def gX7_holds_86  (M : Mem) (l4 : Int32) : Option (Int32 × Mem) :=
  if l4 = 0 then (some ((0 : Int32), M)) else (some ((1 : Int32), M))
noncomputable def gX7_holds_54  (M : Mem) (s0 : Int32) : Option (Int32 × Mem) :=
  gX7_holds_86 M s0
noncomputable def gX7_holds_69  (M : Mem) (s0 : Int32) : Option (Int32 × Mem) :=
  gX7_holds_86 M s0
noncomputable def gX7_holds_84  (M : Mem) (s0 : Int32) : Option (Int32 × Mem) :=
  gX7_holds_86 M s0
noncomputable def fX7_holds (M : Mem) (a0 : Int32) (a1 : Nat) : Option (Int32 × Mem) :=
  ck (isK M a1 14) <| ck (inb (a0 >>> ((9 : Int32) &&& 31)) (mG M a1)) <| if ((a0 >>> ((7 : Int32) &&& 31)) &&& (3 : Int32)) = (0 : Int32) then (if (a0 &&& (127 : Int32)) ≤ (mI M a1 (a0 >>> ((9 : Int32) &&& 31)).toNatClampNeg) then (gX7_holds_54 M (0 : Int32)) else (gX7_holds_54 M (1 : Int32))) else if ((a0 >>> ((7 : Int32) &&& 31)) &&& (3 : Int32)) = (1 : Int32) then (if (mI M a1 (a0 >>> ((9 : Int32) &&& 31)).toNatClampNeg) = (a0 &&& (127 : Int32)) then (gX7_holds_69 M (1 : Int32)) else (gX7_holds_69 M (0 : Int32))) else (if (mI M a1 (a0 >>> ((9 : Int32) &&& 31)).toNatClampNeg) ≤ (a0 &&& (127 : Int32)) then (gX7_holds_84 M (0 : Int32)) else (gX7_holds_84 M (1 : Int32)))
set_option maxRecDepth 100000 in
set_option maxHeartbeats 4000000 in
theorem wX7_holds_86 {z : Zx} {fx : Fx} {al : Bool} {r : Nat} {N : Mem} {xr : Int32} (hz : Zok z fx al yX7_holds.cls yX7_holds.name cX7_holds (some .int) 5 (r + 0) 0 0 (some (.int xr)) N)    {M : Mem} {l4 : Int32} (h : gX7_holds_86  M l4 = some (xr, N)) : V z 86 [none, none, none, none, some (.int l4)] [] M 0 0 := by
  unfold gX7_holds_86 at h
  refine v_iload hz rfl dX7_holds_86 ?_
  refine v_if_eq (tgt := 95) hz dX7_holds_88 (by decide) (fun hc => ?_) (fun hc => ?_)
  · replace h := (if_pos hc).symm.trans h
    refine v_iconst hz (v := (0 : Int32)) (by decide) dX7_holds_95 ?_
    obtain ⟨rfl, rfl⟩ := sp_inv h
    exact v_iret hz dX7_holds_96 (by decide) (by decide)
  · replace h := (if_neg hc).symm.trans h
    refine v_iconst hz (v := (1 : Int32)) (by decide) dX7_holds_91 ?_
    refine v_goto (tgt := 96) hz dX7_holds_92 (by decide) ?_
    obtain ⟨rfl, rfl⟩ := sp_inv h
    exact v_iret hz dX7_holds_96 (by decide) (by decide)
set_option maxRecDepth 100000 in
set_option maxHeartbeats 4000000 in
theorem wX7_holds_54 {z : Zx} {fx : Fx} {al : Bool} {r : Nat} {N : Mem} {xr : Int32} (hz : Zok z fx al yX7_holds.cls yX7_holds.name cX7_holds (some .int) 5 (r + 0) 0 0 (some (.int xr)) N)    {M : Mem} {s0 : Int32} (h : gX7_holds_54  M s0 = some (xr, N)) : V z 54 [none, none, none, none, none] [.int s0] M 0 0 := by
  unfold gX7_holds_54 at h
  refine v_istore hz (lw := [none, none, none, none, some (.int s0)]) (Nat.le_of_ble_eq_true rfl) rfl rfl dX7_holds_54 ?_
  refine v_goto (tgt := 86) hz dX7_holds_56 (by decide) ?_
  exact v_weak (lvle_n (lvle_n (lvle_n (lvle_n (lvle_s lvle_0))))) (wX7_holds_86 hz   h)
set_option maxRecDepth 100000 in
set_option maxHeartbeats 4000000 in
theorem wX7_holds_69 {z : Zx} {fx : Fx} {al : Bool} {r : Nat} {N : Mem} {xr : Int32} (hz : Zok z fx al yX7_holds.cls yX7_holds.name cX7_holds (some .int) 5 (r + 0) 0 0 (some (.int xr)) N)    {M : Mem} {s0 : Int32} (h : gX7_holds_69  M s0 = some (xr, N)) : V z 69 [none, none, none, none, none] [.int s0] M 0 0 := by
  unfold gX7_holds_69 at h
  refine v_istore hz (lw := [none, none, none, none, some (.int s0)]) (Nat.le_of_ble_eq_true rfl) rfl rfl dX7_holds_69 ?_
  refine v_goto (tgt := 86) hz dX7_holds_71 (by decide) ?_
  exact v_weak (lvle_n (lvle_n (lvle_n (lvle_n (lvle_s lvle_0))))) (wX7_holds_86 hz   h)
set_option maxRecDepth 100000 in
set_option maxHeartbeats 4000000 in
theorem wX7_holds_84 {z : Zx} {fx : Fx} {al : Bool} {r : Nat} {N : Mem} {xr : Int32} (hz : Zok z fx al yX7_holds.cls yX7_holds.name cX7_holds (some .int) 5 (r + 0) 0 0 (some (.int xr)) N)    {M : Mem} {s0 : Int32} (h : gX7_holds_84  M s0 = some (xr, N)) : V z 84 [none, none, none, none, none] [.int s0] M 0 0 := by
  unfold gX7_holds_84 at h
  refine v_istore hz (lw := [none, none, none, none, some (.int s0)]) (Nat.le_of_ble_eq_true rfl) rfl rfl dX7_holds_84 ?_
  exact v_weak (lvle_n (lvle_n (lvle_n (lvle_n (lvle_s lvle_0))))) (wX7_holds_86 hz   h)
set_option maxRecDepth 100000 in
set_option maxHeartbeats 4000000 in
theorem tX7_holds (r : Nat) {fx : Fx} {al : Bool} {M N : Mem} {a0 : Int32} {a1 : Nat} {xr : Int32}  (h : fX7_holds M a0 a1 = some (xr, N)) : Ct fx yX7_holds cX7_holds 5 (some .int) (r + 0) 0 0 al [.int a0, .ref a1] M (some (.int xr)) N := by
  refine ct_of (lv := [some (.int a0), some (.ref a1), none, none, none]) (by decide) (Nat.le_of_ble_eq_true rfl) rfl rfl (fun z hz => ?_)
  unfold fX7_holds at h
  refine v_aload_n hz rfl rfl dX7_holds_0 ?_
  refine v_iload_n hz rfl rfl dX7_holds_1 ?_
  refine v_bipush hz (v := (9 : Int32)) (by decide) dX7_holds_2 ?_
  refine v_ishr hz dX7_holds_4 ?_
  obtain ⟨ck1, h⟩ := ck_inv h
  obtain ⟨ka1, kb1⟩ := isK_of ck1
  obtain ⟨g2, h⟩ := ck_inv h
  refine v_iaload hz dX7_holds_5 ka1 kb1 g2 ?_
  refine v_istore_n hz (lw := [some (.int a0), some (.ref a1), some (.int (mI M a1 (a0 >>> ((9 : Int32) &&& 31)).toNatClampNeg)), none, none]) rfl (Nat.le_of_ble_eq_true rfl) rfl rfl dX7_holds_6 ?_
  refine v_iload_n hz rfl rfl dX7_holds_7 ?_
  refine v_bipush hz (v := (127 : Int32)) (by decide) dX7_holds_8 ?_
  refine v_iand hz dX7_holds_10 ?_
  refine v_istore_n hz (lw := [some (.int a0), some (.ref a1), some (.int (mI M a1 (a0 >>> ((9 : Int32) &&& 31)).toNatClampNeg)), some (.int (a0 &&& (127 : Int32))), none]) rfl (Nat.le_of_ble_eq_true rfl) rfl rfl dX7_holds_11 ?_
  refine v_iload_n hz rfl rfl dX7_holds_12 ?_
  refine v_bipush hz (v := (7 : Int32)) (by decide) dX7_holds_13 ?_
  refine v_ishr hz dX7_holds_15 ?_
  refine v_iconst hz (v := (3 : Int32)) (by decide) dX7_holds_16 ?_
  refine v_iand hz dX7_holds_17 ?_
  by_cases hs3_0 : ((a0 >>> ((7 : Int32) &&& 31)) &&& (3 : Int32)) = (0 : Int32)
  · replace h := (if_pos hs3_0).symm.trans h
    refine v_lookAt (tgt := 44) hz hs3_0 dX7_holds_18 (by decide) (by decide) (by decide) ?_
    refine v_iload_n hz rfl rfl dX7_holds_44 ?_
    refine v_iload_n hz rfl rfl dX7_holds_45 ?_
    refine v_icmp_ge (tgt := 53) hz dX7_holds_46 (by decide) (fun hc => ?_) (fun hc => ?_)
    · replace h := (if_pos hc).symm.trans h
      refine v_iconst hz (v := (0 : Int32)) (by decide) dX7_holds_53 ?_
      exact v_weak (lvle_n (lvle_n (lvle_n (lvle_n (lvle_n lvle_0))))) (wX7_holds_54 hz   h)
    · replace h := (if_neg hc).symm.trans h
      refine v_iconst hz (v := (1 : Int32)) (by decide) dX7_holds_49 ?_
      refine v_goto (tgt := 54) hz dX7_holds_50 (by decide) ?_
      exact v_weak (lvle_n (lvle_n (lvle_n (lvle_n (lvle_n lvle_0))))) (wX7_holds_54 hz   h)
  replace h := (if_neg hs3_0).symm.trans h
  by_cases hs3_1 : ((a0 >>> ((7 : Int32) &&& 31)) &&& (3 : Int32)) = (1 : Int32)
  · replace h := (if_pos hs3_1).symm.trans h
    refine v_lookAt (tgt := 59) hz hs3_1 dX7_holds_18 (by decide) (by decide) (by decide) ?_
    refine v_iload_n hz rfl rfl dX7_holds_59 ?_
    refine v_iload_n hz rfl rfl dX7_holds_60 ?_
    refine v_icmp_ne (tgt := 68) hz dX7_holds_61 (by decide) (fun hc => ?_) (fun hc => ?_)
    · replace h := (if_neg hc).symm.trans h
      refine v_iconst hz (v := (0 : Int32)) (by decide) dX7_holds_68 ?_
      exact v_weak (lvle_n (lvle_n (lvle_n (lvle_n (lvle_n lvle_0))))) (wX7_holds_69 hz   h)
    · replace h := (if_pos hc).symm.trans h
      refine v_iconst hz (v := (1 : Int32)) (by decide) dX7_holds_64 ?_
      refine v_goto (tgt := 69) hz dX7_holds_65 (by decide) ?_
      exact v_weak (lvle_n (lvle_n (lvle_n (lvle_n (lvle_n lvle_0))))) (wX7_holds_69 hz   h)
  replace h := (if_neg hs3_1).symm.trans h
  refine v_lookup (off := 56) (tgt := 74) hz dX7_holds_18 (by decide) ((lv_osw hs3_0 (show ((0 : Int32)).toInt = 0 by decide)).trans ((lv_osw hs3_1 (show ((1 : Int32)).toInt = 1 by decide)).trans rfl)) (by decide) ?_
  refine v_iload_n hz rfl rfl dX7_holds_74 ?_
  refine v_iload_n hz rfl rfl dX7_holds_75 ?_
  refine v_icmp_le (tgt := 83) hz dX7_holds_76 (by decide) (fun hc => ?_) (fun hc => ?_)
  · replace h := (if_pos hc).symm.trans h
    refine v_iconst hz (v := (0 : Int32)) (by decide) dX7_holds_83 ?_
    exact v_weak (lvle_n (lvle_n (lvle_n (lvle_n (lvle_n lvle_0))))) (wX7_holds_84 hz   h)
  · replace h := (if_neg hc).symm.trans h
    refine v_iconst hz (v := (1 : Int32)) (by decide) dX7_holds_79 ?_
    refine v_goto (tgt := 84) hz dX7_holds_80 (by decide) ?_
    exact v_weak (lvle_n (lvle_n (lvle_n (lvle_n (lvle_n lvle_0))))) (wX7_holds_84 hz   h)
noncomputable def gX7_drawsBy_147 (K7 : Mem → Nat → Nat → Int32 → Int32 → Int32 → Option (Int32 × Mem)) (M : Mem) (l0 : Nat) (l1 : Nat) (l2 : Int32) (l3 : Int32) (l4 : Int32) : Option (Int32 × Mem) :=
  K7 M l0 l1 l2 l3 (l4 + (1 : Int32))
noncomputable def gX7_drawsBy_7  : Nat → Mem → Nat → Nat → Int32 → Int32 → Int32 → Option (Int32 × Mem)
  | 0, _, _, _, _, _, _ => none
  | n + 1, M, l0, l1, l2, l3, l4 => ck (isK M l0 7) <| if (mI M l0 1) ≤ l4 then (some (l2, M)) else (rb (mR M l0 0) fun b2 => ck (isK M b2 14) <| ck (inb l4 (mG M b2)) <| ck (inb l4 (mG M b2)) <| if ((mI M b2 l4.toNatClampNeg) >>> ((12 : Int32) &&& 31)) = (0 : Int32) then (bd (fX7_holds M ((mI M b2 l4.toNatClampNeg) &&& (4095 : Int32)) l1) fun x7 M7 => gX7_drawsBy_147 (gX7_drawsBy_7 n) M7 l0 l1 l2 ((l3 <<< ((1 : Int32) &&& 31)) ||| x7) l4) else if ((mI M b2 l4.toNatClampNeg) >>> ((12 : Int32) &&& 31)) = (1 : Int32) then (gX7_drawsBy_147 (gX7_drawsBy_7 n) M l0 l1 l2 (l3 ^^^ (1 : Int32)) l4) else if ((mI M b2 l4.toNatClampNeg) >>> ((12 : Int32) &&& 31)) = (2 : Int32) then (gX7_drawsBy_147 (gX7_drawsBy_7 n) M l0 l1 l2 ((l3 >>> ((1 : Int32) &&& 31)) &&& ((-2 : Int32) ||| (l3 &&& (1 : Int32)))) l4) else if ((mI M b2 l4.toNatClampNeg) >>> ((12 : Int32) &&& 31)) = (3 : Int32) then (gX7_drawsBy_147 (gX7_drawsBy_7 n) M l0 l1 l2 ((l3 >>> ((1 : Int32) &&& 31)) ||| (l3 &&& (1 : Int32))) l4) else if ((mI M b2 l4.toNatClampNeg) >>> ((12 : Int32) &&& 31)) = (4 : Int32) then (gX7_drawsBy_147 (gX7_drawsBy_7 n) M l0 l1 (l2 + ((l3 &&& (1 : Int32)) * ((mI M b2 l4.toNatClampNeg) &&& (4095 : Int32)))) (0 : Int32) l4) else (gX7_drawsBy_147 (gX7_drawsBy_7 n) M l0 l1 (l2 - ((l3 &&& (1 : Int32)) * ((mI M b2 l4.toNatClampNeg) &&& (4095 : Int32)))) (0 : Int32) l4))
noncomputable def fX7_drawsBy (M : Mem) (a0 : Nat) (a1 : Nat) : Option (Int32 × Mem) :=
  gX7_drawsBy_7 FU M a0 a1 (0 : Int32) (0 : Int32) (0 : Int32)
set_option maxRecDepth 100000 in
set_option maxHeartbeats 4000000 in
theorem wX7_drawsBy_147 {z : Zx} {fx : Fx} {al : Bool} {r : Nat} {N : Mem} {xr : Int32} (hz : Zok z fx al yX7_drawsBy.cls yX7_drawsBy.name cX7_drawsBy (some .int) 7 (r + 1) 0 0 (some (.int xr)) N)  {K7 : Mem → Nat → Nat → Int32 → Int32 → Int32 → Option (Int32 × Mem)} (hK7 : ∀ {M : Mem} {l0 : Nat} {l1 : Nat} {l2 : Int32} {l3 : Int32} {l4 : Int32}, K7 M l0 l1 l2 l3 l4 = some (xr, N) → V z 7 [some (.ref l0), some (.ref l1), some (.int l2), some (.int l3), some (.int l4), none, none] [] M 0 0) {M : Mem} {l0 : Nat} {l1 : Nat} {l2 : Int32} {l3 : Int32} {l4 : Int32} (h : gX7_drawsBy_147 K7 M l0 l1 l2 l3 l4 = some (xr, N)) : V z 147 [some (.ref l0), some (.ref l1), some (.int l2), some (.int l3), some (.int l4), none, none] [] M 0 0 := by
  unfold gX7_drawsBy_147 at h
  refine v_iinc hz (v := (l4 + (1 : Int32))) (lw := [some (.ref l0), some (.ref l1), some (.int l2), some (.int l3), some (.int (l4 + (1 : Int32))), none, none]) rfl (congrArg (fun q => l4 + q) (show Int32.ofInt (1) = (1 : Int32) by decide)) rfl rfl dX7_drawsBy_147 ?_
  refine v_goto (tgt := 7) hz dX7_drawsBy_150 (by decide) ?_
  exact v_weak (lvle_s (lvle_s (lvle_s (lvle_s (lvle_s (lvle_n (lvle_n lvle_0))))))) (hK7 h)
set_option maxRecDepth 100000 in
set_option maxHeartbeats 4000000 in
theorem gX7_drawsBy_7_s  (n : Nat) (M : Mem) (l0 : Nat) (l1 : Nat) (l2 : Int32) (l3 : Int32) (l4 : Int32) : gX7_drawsBy_7  (n + 1) M l0 l1 l2 l3 l4 = (ck (isK M l0 7) <| if (mI M l0 1) ≤ l4 then (some (l2, M)) else (rb (mR M l0 0) fun b2 => ck (isK M b2 14) <| ck (inb l4 (mG M b2)) <| ck (inb l4 (mG M b2)) <| if ((mI M b2 l4.toNatClampNeg) >>> ((12 : Int32) &&& 31)) = (0 : Int32) then (bd (fX7_holds M ((mI M b2 l4.toNatClampNeg) &&& (4095 : Int32)) l1) fun x7 M7 => gX7_drawsBy_147 (gX7_drawsBy_7 n) M7 l0 l1 l2 ((l3 <<< ((1 : Int32) &&& 31)) ||| x7) l4) else if ((mI M b2 l4.toNatClampNeg) >>> ((12 : Int32) &&& 31)) = (1 : Int32) then (gX7_drawsBy_147 (gX7_drawsBy_7 n) M l0 l1 l2 (l3 ^^^ (1 : Int32)) l4) else if ((mI M b2 l4.toNatClampNeg) >>> ((12 : Int32) &&& 31)) = (2 : Int32) then (gX7_drawsBy_147 (gX7_drawsBy_7 n) M l0 l1 l2 ((l3 >>> ((1 : Int32) &&& 31)) &&& ((-2 : Int32) ||| (l3 &&& (1 : Int32)))) l4) else if ((mI M b2 l4.toNatClampNeg) >>> ((12 : Int32) &&& 31)) = (3 : Int32) then (gX7_drawsBy_147 (gX7_drawsBy_7 n) M l0 l1 l2 ((l3 >>> ((1 : Int32) &&& 31)) ||| (l3 &&& (1 : Int32))) l4) else if ((mI M b2 l4.toNatClampNeg) >>> ((12 : Int32) &&& 31)) = (4 : Int32) then (gX7_drawsBy_147 (gX7_drawsBy_7 n) M l0 l1 (l2 + ((l3 &&& (1 : Int32)) * ((mI M b2 l4.toNatClampNeg) &&& (4095 : Int32)))) (0 : Int32) l4) else (gX7_drawsBy_147 (gX7_drawsBy_7 n) M l0 l1 (l2 - ((l3 &&& (1 : Int32)) * ((mI M b2 l4.toNatClampNeg) &&& (4095 : Int32)))) (0 : Int32) l4))) := rfl
set_option maxRecDepth 100000 in
set_option maxHeartbeats 4000000 in
theorem wX7_drawsBy_7 {z : Zx} {fx : Fx} {al : Bool} {r : Nat} {N : Mem} {xr : Int32} (hz : Zok z fx al yX7_drawsBy.cls yX7_drawsBy.name cX7_drawsBy (some .int) 7 (r + 1) 0 0 (some (.int xr)) N)    : ∀ {n : Nat} {M : Mem} {l0 : Nat} {l1 : Nat} {l2 : Int32} {l3 : Int32} {l4 : Int32}, gX7_drawsBy_7  n M l0 l1 l2 l3 l4 = some (xr, N) → V z 7 [some (.ref l0), some (.ref l1), some (.int l2), some (.int l3), some (.int l4), none, none] [] M 0 0 := by
  intro n
  induction n with
  | zero => intro M l0 l1 l2 l3 l4 h; cases h
  | succ n ih =>
    intro M l0 l1 l2 l3 l4 h
    replace h := (gX7_drawsBy_7_s  n M l0 l1 l2 l3 l4).symm.trans h
    refine v_iload hz rfl dX7_drawsBy_7 ?_
    refine v_aload_n hz rfl rfl dX7_drawsBy_9 ?_
    obtain ⟨ck1, h⟩ := ck_inv h
    obtain ⟨ka1, kb1⟩ := isK_of ck1
    refine v_getI hz fl_X7_26 rfl dX7_drawsBy_10 ka1 kb1 ?_
    refine v_icmp_ge (tgt := 153) hz dX7_drawsBy_13 (by decide) (fun hc => ?_) (fun hc => ?_)
    · replace h := (if_pos hc).symm.trans h
      refine v_iload_n hz rfl rfl dX7_drawsBy_153 ?_
      obtain ⟨rfl, rfl⟩ := sp_inv h
      exact v_iret hz dX7_drawsBy_154 (by decide) (by decide)
    · replace h := (if_neg hc).symm.trans h
      refine v_iload_n hz rfl rfl dX7_drawsBy_16 ?_
      refine v_iconst hz (v := (1 : Int32)) (by decide) dX7_drawsBy_17 ?_
      refine v_iand hz dX7_drawsBy_18 ?_
      refine v_istore hz (lw := [some (.ref l0), some (.ref l1), some (.int l2), some (.int l3), some (.int l4), some (.int (l3 &&& (1 : Int32))), none]) (Nat.le_of_ble_eq_true rfl) rfl rfl dX7_drawsBy_19 ?_
      refine v_aload_n hz rfl rfl dX7_drawsBy_21 ?_
      obtain ⟨b2, r2, h⟩ := rb_inv h
      refine v_getR hz fl_X7_9 rfl dX7_drawsBy_22 ka1 kb1 r2 ?_
      refine v_iload hz rfl dX7_drawsBy_25 ?_
      obtain ⟨ck3, h⟩ := ck_inv h
      obtain ⟨ka3, kb3⟩ := isK_of ck3
      obtain ⟨g4, h⟩ := ck_inv h
      refine v_iaload hz dX7_drawsBy_27 ka3 kb3 g4 ?_
      refine v_sipush hz (v := (4095 : Int32)) (by decide) dX7_drawsBy_28 ?_
      refine v_iand hz dX7_drawsBy_31 ?_
      refine v_istore hz (lw := [some (.ref l0), some (.ref l1), some (.int l2), some (.int l3), some (.int l4), some (.int (l3 &&& (1 : Int32))), some (.int ((mI M b2 l4.toNatClampNeg) &&& (4095 : Int32)))]) (Nat.le_of_ble_eq_true rfl) rfl rfl dX7_drawsBy_32 ?_
      refine v_aload_n hz rfl rfl dX7_drawsBy_34 ?_
      refine v_getR hz fl_X7_9 rfl dX7_drawsBy_35 ka1 kb1 r2 ?_
      refine v_iload hz rfl dX7_drawsBy_38 ?_
      obtain ⟨g5, h⟩ := ck_inv h
      refine v_iaload hz dX7_drawsBy_40 ka3 kb3 g5 ?_
      refine v_bipush hz (v := (12 : Int32)) (by decide) dX7_drawsBy_41 ?_
      refine v_ishr hz dX7_drawsBy_43 ?_
      by_cases hs6_0 : ((mI M b2 l4.toNatClampNeg) >>> ((12 : Int32) &&& 31)) = (0 : Int32)
      · replace h := (if_pos hs6_0).symm.trans h
        refine v_tableAt (tgt := 80) hz hs6_0 dX7_drawsBy_44 (by decide) (by decide) (by decide) (by decide) ?_
        refine v_iload_n hz rfl rfl dX7_drawsBy_80 ?_
        refine v_iconst hz (v := (1 : Int32)) (by decide) dX7_drawsBy_81 ?_
        refine v_ishl hz dX7_drawsBy_82 ?_
        refine v_iload hz rfl dX7_drawsBy_83 ?_
        refine v_aload_n hz rfl rfl dX7_drawsBy_85 ?_
        obtain ⟨x7, M7, e7, h⟩ := bd_inv h
        refine v_callS hz (As := [.int ((mI M b2 l4.toNatClampNeg) &&& (4095 : Int32)), .ref l1]) sl_X7_96 (tX7_holds (r + 0) e7) rfl rfl rfl (Nat.le_of_ble_eq_true rfl) ⟨by decide, by decide⟩ dX7_drawsBy_86 ?_
        show V z 89 [some (.ref l0), some (.ref l1), some (.int l2), some (.int l3), some (.int l4), some (.int (l3 &&& (1 : Int32))), some (.int ((mI M b2 l4.toNatClampNeg) &&& (4095 : Int32)))] [.int x7, .int (l3 <<< ((1 : Int32) &&& 31))] M7 0 0
        refine v_ior hz dX7_drawsBy_89 ?_
        refine v_istore_n hz (lw := [some (.ref l0), some (.ref l1), some (.int l2), some (.int ((l3 <<< ((1 : Int32) &&& 31)) ||| x7)), some (.int l4), some (.int (l3 &&& (1 : Int32))), some (.int ((mI M b2 l4.toNatClampNeg) &&& (4095 : Int32)))]) rfl (Nat.le_of_ble_eq_true rfl) rfl rfl dX7_drawsBy_90 ?_
        refine v_goto (tgt := 147) hz dX7_drawsBy_91 (by decide) ?_
        exact v_weak (lvle_s (lvle_s (lvle_s (lvle_s (lvle_s (lvle_n (lvle_n lvle_0))))))) (wX7_drawsBy_147 hz  (fun h => ih h) h)
      replace h := (if_neg hs6_0).symm.trans h
      by_cases hs6_1 : ((mI M b2 l4.toNatClampNeg) >>> ((12 : Int32) &&& 31)) = (1 : Int32)
      · replace h := (if_pos hs6_1).symm.trans h
        refine v_tableAt (tgt := 94) hz hs6_1 dX7_drawsBy_44 (by decide) (by decide) (by decide) (by decide) ?_
        refine v_iload_n hz rfl rfl dX7_drawsBy_94 ?_
        refine v_iconst hz (v := (1 : Int32)) (by decide) dX7_drawsBy_95 ?_
        refine v_ixor hz dX7_drawsBy_96 ?_
        refine v_istore_n hz (lw := [some (.ref l0), some (.ref l1), some (.int l2), some (.int (l3 ^^^ (1 : Int32))), some (.int l4), some (.int (l3 &&& (1 : Int32))), some (.int ((mI M b2 l4.toNatClampNeg) &&& (4095 : Int32)))]) rfl (Nat.le_of_ble_eq_true rfl) rfl rfl dX7_drawsBy_97 ?_
        refine v_goto (tgt := 147) hz dX7_drawsBy_98 (by decide) ?_
        exact v_weak (lvle_s (lvle_s (lvle_s (lvle_s (lvle_s (lvle_n (lvle_n lvle_0))))))) (wX7_drawsBy_147 hz  (fun h => ih h) h)
      replace h := (if_neg hs6_1).symm.trans h
      by_cases hs6_2 : ((mI M b2 l4.toNatClampNeg) >>> ((12 : Int32) &&& 31)) = (2 : Int32)
      · replace h := (if_pos hs6_2).symm.trans h
        refine v_tableAt (tgt := 101) hz hs6_2 dX7_drawsBy_44 (by decide) (by decide) (by decide) (by decide) ?_
        refine v_iload_n hz rfl rfl dX7_drawsBy_101 ?_
        refine v_iconst hz (v := (1 : Int32)) (by decide) dX7_drawsBy_102 ?_
        refine v_ishr hz dX7_drawsBy_103 ?_
        refine v_bipush hz (v := (-2 : Int32)) (by decide) dX7_drawsBy_104 ?_
        refine v_iload hz rfl dX7_drawsBy_106 ?_
        refine v_ior hz dX7_drawsBy_108 ?_
        refine v_iand hz dX7_drawsBy_109 ?_
        refine v_istore_n hz (lw := [some (.ref l0), some (.ref l1), some (.int l2), some (.int ((l3 >>> ((1 : Int32) &&& 31)) &&& ((-2 : Int32) ||| (l3 &&& (1 : Int32))))), some (.int l4), some (.int (l3 &&& (1 : Int32))), some (.int ((mI M b2 l4.toNatClampNeg) &&& (4095 : Int32)))]) rfl (Nat.le_of_ble_eq_true rfl) rfl rfl dX7_drawsBy_110 ?_
        refine v_goto (tgt := 147) hz dX7_drawsBy_111 (by decide) ?_
        exact v_weak (lvle_s (lvle_s (lvle_s (lvle_s (lvle_s (lvle_n (lvle_n lvle_0))))))) (wX7_drawsBy_147 hz  (fun h => ih h) h)
      replace h := (if_neg hs6_2).symm.trans h
      by_cases hs6_3 : ((mI M b2 l4.toNatClampNeg) >>> ((12 : Int32) &&& 31)) = (3 : Int32)
      · replace h := (if_pos hs6_3).symm.trans h
        refine v_tableAt (tgt := 114) hz hs6_3 dX7_drawsBy_44 (by decide) (by decide) (by decide) (by decide) ?_
        refine v_iload_n hz rfl rfl dX7_drawsBy_114 ?_
        refine v_iconst hz (v := (1 : Int32)) (by decide) dX7_drawsBy_115 ?_
        refine v_ishr hz dX7_drawsBy_116 ?_
        refine v_iload hz rfl dX7_drawsBy_117 ?_
        refine v_ior hz dX7_drawsBy_119 ?_
        refine v_istore_n hz (lw := [some (.ref l0), some (.ref l1), some (.int l2), some (.int ((l3 >>> ((1 : Int32) &&& 31)) ||| (l3 &&& (1 : Int32)))), some (.int l4), some (.int (l3 &&& (1 : Int32))), some (.int ((mI M b2 l4.toNatClampNeg) &&& (4095 : Int32)))]) rfl (Nat.le_of_ble_eq_true rfl) rfl rfl dX7_drawsBy_120 ?_
        refine v_goto (tgt := 147) hz dX7_drawsBy_121 (by decide) ?_
        exact v_weak (lvle_s (lvle_s (lvle_s (lvle_s (lvle_s (lvle_n (lvle_n lvle_0))))))) (wX7_drawsBy_147 hz  (fun h => ih h) h)
      replace h := (if_neg hs6_3).symm.trans h
      by_cases hs6_4 : ((mI M b2 l4.toNatClampNeg) >>> ((12 : Int32) &&& 31)) = (4 : Int32)
      · replace h := (if_pos hs6_4).symm.trans h
        refine v_tableAt (tgt := 124) hz hs6_4 dX7_drawsBy_44 (by decide) (by decide) (by decide) (by decide) ?_
        refine v_iload_n hz rfl rfl dX7_drawsBy_124 ?_
        refine v_iload hz rfl dX7_drawsBy_125 ?_
        refine v_iload hz rfl dX7_drawsBy_127 ?_
        refine v_imul hz dX7_drawsBy_129 ?_
        refine v_iadd hz dX7_drawsBy_130 ?_
        refine v_istore_n hz (lw := [some (.ref l0), some (.ref l1), some (.int (l2 + ((l3 &&& (1 : Int32)) * ((mI M b2 l4.toNatClampNeg) &&& (4095 : Int32))))), some (.int l3), some (.int l4), some (.int (l3 &&& (1 : Int32))), some (.int ((mI M b2 l4.toNatClampNeg) &&& (4095 : Int32)))]) rfl (Nat.le_of_ble_eq_true rfl) rfl rfl dX7_drawsBy_131 ?_
        refine v_iconst hz (v := (0 : Int32)) (by decide) dX7_drawsBy_132 ?_
        refine v_istore_n hz (lw := [some (.ref l0), some (.ref l1), some (.int (l2 + ((l3 &&& (1 : Int32)) * ((mI M b2 l4.toNatClampNeg) &&& (4095 : Int32))))), some (.int (0 : Int32)), some (.int l4), some (.int (l3 &&& (1 : Int32))), some (.int ((mI M b2 l4.toNatClampNeg) &&& (4095 : Int32)))]) rfl (Nat.le_of_ble_eq_true rfl) rfl rfl dX7_drawsBy_133 ?_
        refine v_goto (tgt := 147) hz dX7_drawsBy_134 (by decide) ?_
        exact v_weak (lvle_s (lvle_s (lvle_s (lvle_s (lvle_s (lvle_n (lvle_n lvle_0))))))) (wX7_drawsBy_147 hz  (fun h => ih h) h)
      replace h := (if_neg hs6_4).symm.trans h
      refine v_tableOut (tgt := 137) hz dX7_drawsBy_44 (by have q0 := lv_neT hs6_0 (show ((0 : Int32)).toInt = 0 by decide); have q1 := lv_neT hs6_1 (show ((1 : Int32)).toInt = 1 by decide); have q2 := lv_neT hs6_2 (show ((2 : Int32)).toInt = 2 by decide); have q3 := lv_neT hs6_3 (show ((3 : Int32)).toInt = 3 by decide); have q4 := lv_neT hs6_4 (show ((4 : Int32)).toInt = 4 by decide); omega) (by decide) ?_
      refine v_iload_n hz rfl rfl dX7_drawsBy_137 ?_
      refine v_iload hz rfl dX7_drawsBy_138 ?_
      refine v_iload hz rfl dX7_drawsBy_140 ?_
      refine v_imul hz dX7_drawsBy_142 ?_
      refine v_isub hz dX7_drawsBy_143 ?_
      refine v_istore_n hz (lw := [some (.ref l0), some (.ref l1), some (.int (l2 - ((l3 &&& (1 : Int32)) * ((mI M b2 l4.toNatClampNeg) &&& (4095 : Int32))))), some (.int l3), some (.int l4), some (.int (l3 &&& (1 : Int32))), some (.int ((mI M b2 l4.toNatClampNeg) &&& (4095 : Int32)))]) rfl (Nat.le_of_ble_eq_true rfl) rfl rfl dX7_drawsBy_144 ?_
      refine v_iconst hz (v := (0 : Int32)) (by decide) dX7_drawsBy_145 ?_
      refine v_istore_n hz (lw := [some (.ref l0), some (.ref l1), some (.int (l2 - ((l3 &&& (1 : Int32)) * ((mI M b2 l4.toNatClampNeg) &&& (4095 : Int32))))), some (.int (0 : Int32)), some (.int l4), some (.int (l3 &&& (1 : Int32))), some (.int ((mI M b2 l4.toNatClampNeg) &&& (4095 : Int32)))]) rfl (Nat.le_of_ble_eq_true rfl) rfl rfl dX7_drawsBy_146 ?_
      exact v_weak (lvle_s (lvle_s (lvle_s (lvle_s (lvle_s (lvle_n (lvle_n lvle_0))))))) (wX7_drawsBy_147 hz  (fun h => ih h) h)
set_option maxRecDepth 100000 in
set_option maxHeartbeats 4000000 in
theorem tX7_drawsBy (r : Nat) {fx : Fx} {al : Bool} {M N : Mem} {a0 : Nat} {a1 : Nat} {xr : Int32}  (h : fX7_drawsBy M a0 a1 = some (xr, N)) : Ct fx yX7_drawsBy cX7_drawsBy 7 (some .int) (r + 1) 0 0 al [.ref a0, .ref a1] M (some (.int xr)) N := by
  refine ct_of (lv := [some (.ref a0), some (.ref a1), none, none, none, none, none]) (by decide) (Nat.le_of_ble_eq_true rfl) rfl rfl (fun z hz => ?_)
  unfold fX7_drawsBy at h
  refine v_iconst hz (v := (0 : Int32)) (by decide) dX7_drawsBy_0 ?_
  refine v_istore_n hz (lw := [some (.ref a0), some (.ref a1), some (.int (0 : Int32)), none, none, none, none]) rfl (Nat.le_of_ble_eq_true rfl) rfl rfl dX7_drawsBy_1 ?_
  refine v_iconst hz (v := (0 : Int32)) (by decide) dX7_drawsBy_2 ?_
  refine v_istore_n hz (lw := [some (.ref a0), some (.ref a1), some (.int (0 : Int32)), some (.int (0 : Int32)), none, none, none]) rfl (Nat.le_of_ble_eq_true rfl) rfl rfl dX7_drawsBy_3 ?_
  refine v_iconst hz (v := (0 : Int32)) (by decide) dX7_drawsBy_4 ?_
  refine v_istore hz (lw := [some (.ref a0), some (.ref a1), some (.int (0 : Int32)), some (.int (0 : Int32)), some (.int (0 : Int32)), none, none]) (Nat.le_of_ble_eq_true rfl) rfl rfl dX7_drawsBy_5 ?_
  exact v_weak (lvle_s (lvle_s (lvle_s (lvle_s (lvle_s (lvle_n (lvle_n lvle_0))))))) (wX7_drawsBy_7 hz   h)
