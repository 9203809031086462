def fX5_init (M : Mem) (a0 : Nat) (a1 : Int32) : Option (Unit × Mem) :=
  ck (isK M a0 5) <| ck (decide (¬ (a1 * (3 : Int32)) < 0)) <| ck (decide ((a1 * (3 : Int32)).toNatClampNeg ≤ 30)) <| nm (alc (stI M a0 0 a1) 14 (a1 * (3 : Int32)).toNatClampNeg) fun M4 => ck (isK M4 a0 5) <| some ((), (stR M4 a0 1 (some (mN (stI M a0 0 a1)))))
set_option maxRecDepth 100000 in
set_option maxHeartbeats 4000000 in
theorem tX5_init (r : Nat) {fx : Fx} {M N : Mem} {a0 : Nat} {a1 : Int32}  (h : fX5_init M a0 a1 = some ((), N)) : Ct fx yX5_init cX5_init 2 none (r + 1) 1 30 true [.ref a0, .int a1] M none N := by
  refine ct_of (lv := [some (.ref a0), some (.int a1)]) (by decide) (Nat.le_of_ble_eq_true rfl) rfl rfl (fun z hz => ?_)
  unfold fX5_init at h
  refine v_aload_n hz rfl rfl dX5_init_0 ?_
  refine v_objInit hz wq_84 wq_77 wq_78 rfl rfl dX5_init_1 ?_
  refine v_aload_n hz rfl rfl dX5_init_4 ?_
  refine v_iload_n hz rfl rfl dX5_init_5 ?_
  obtain ⟨ck1, h⟩ := ck_inv h
  obtain ⟨ka1, kb1⟩ := isK_of ck1
  refine v_putIF hz fl_X5_9 ft_5_0 rfl (by decide) rfl rfl rfl dX5_init_6 ka1 kb1 ?_
  refine v_aload_n hz rfl rfl dX5_init_9 ?_
  refine v_iload_n hz rfl rfl dX5_init_10 ?_
  refine v_iconst hz (v := (3 : Int32)) (by decide) dX5_init_11 ?_
  refine v_imul hz dX5_init_12 ?_
  obtain ⟨g2, h⟩ := ck_inv h
  obtain ⟨g3, h⟩ := ck_inv h
  refine v_newI hz (t0 := 0) (c := 14) (N' := (a1 * (3 : Int32)).toNatClampNeg) wq_96 (by decide) (of_decide_eq_true g2) rfl (Nat.le_trans (of_decide_eq_true g3) (by decide)) (by decide) (Nat.le_trans (Nat.add_le_add_left (of_decide_eq_true g3) _) (by decide)) dX5_init_13 ?_
  refine v_wide (nc2 := 1) (ns2 := 30) (Nat.le_refl _) (Nat.le_trans (Nat.add_le_add_left (of_decide_eq_true g3) _) (by decide)) ?_
  obtain ⟨M4, eM4, h⟩ := nm_inv h
  refine v_mem eM4.symm ?_
  obtain ⟨ck5, h⟩ := ck_inv h
  obtain ⟨ka5, kb5⟩ := isK_of ck5
  refine v_putRF hz fl_X5_15 ft_5_1 rfl (by decide) rfl (fun _ => rfl) (fun _ => rfl) dX5_init_15 ka5 kb5 ?_
  cases h
  exact v_vret hz dX5_init_18 (by decide) (by decide)
def fX5_clear (M : Mem) (a0 : Nat) : Option (Int32 × Mem) :=
  ck (isK M a0 5) <| some ((0 : Int32), (stI M a0 2 (0 : Int32)))
set_option maxRecDepth 100000 in
set_option maxHeartbeats 4000000 in
theorem tX5_clear (r : Nat) {fx : Fx} {al : Bool} {M N : Mem} {a0 : Nat} {xr : Int32}  (h : fX5_clear M a0 = some (xr, N)) : Ct fx yX5_clear cX5_clear 1 (some .int) (r + 0) 0 0 al [.ref a0] M (some (.int xr)) N := by
  refine ct_of (lv := [some (.ref a0)]) (by decide) (Nat.le_of_ble_eq_true rfl) rfl rfl (fun z hz => ?_)
  unfold fX5_clear at h
  refine v_aload_n hz rfl rfl dX5_clear_0 ?_
  refine v_iconst hz (v := (0 : Int32)) (by decide) dX5_clear_1 ?_
  obtain ⟨ck1, h⟩ := ck_inv h
  obtain ⟨ka1, kb1⟩ := isK_of ck1
  refine v_putI hz fl_X5_19 ft_5_2 (by decide) rfl rfl rfl dX5_clear_2 ka1 kb1 ?_
  refine v_iconst hz (v := (0 : Int32)) (by decide) dX5_clear_5 ?_
  cases h
  exact v_iret hz dX5_clear_6 (by decide) (by decide)
def fX5_add (M : Mem) (a0 : Nat) (a1 : Int32) (a2 : Int32) (a3 : Int32) : Option (Int32 × Mem) :=
  ck (isK M a0 5) <| if (mI M a0 2) < (mI M a0 0) then (rb (mR M a0 1) fun b2 => ck (isK M b2 14) <| ck (inb ((mI M a0 2) * (3 : Int32)) (mG M b2)) <| ck (inb (((mI (stI M b2 ((mI M a0 2) * (3 : Int32)).toNatClampNeg a1) a0 2) * (3 : Int32)) + (1 : Int32)) (mG M b2)) <| nm (stI (stI M b2 ((mI M a0 2) * (3 : Int32)).toNatClampNeg a1) b2 (((mI (stI M b2 ((mI M a0 2) * (3 : Int32)).toNatClampNeg a1) a0 2) * (3 : Int32)) + (1 : Int32)).toNatClampNeg a2) fun M6 => ck (isK M6 a0 5) <| rb (mR M6 a0 1) fun b8 => ck (isK M6 b8 14) <| ck (inb (((mI M6 a0 2) * (3 : Int32)) + (2 : Int32)) (mG M6 b8)) <| nm (stI (stI M6 b8 (((mI M6 a0 2) * (3 : Int32)) + (2 : Int32)).toNatClampNeg a3) a0 2 ((mI (stI M6 b8 (((mI M6 a0 2) * (3 : Int32)) + (2 : Int32)).toNatClampNeg a3) a0 2) + (1 : Int32))) fun M11 => ck (isK M11 a0 5) <| some ((mI M11 a0 2), M11)) else (some ((-4 : Int32), M))
set_option maxRecDepth 100000 in
set_option maxHeartbeats 4000000 in
theorem tX5_add (r : Nat) {fx : Fx} {al : Bool} {M N : Mem} {a0 : Nat} {a1 : Int32} {a2 : Int32} {a3 : Int32} {xr : Int32}  (h : fX5_add M a0 a1 a2 a3 = some (xr, N)) : Ct fx yX5_add cX5_add 4 (some .int) (r + 0) 0 0 al [.ref a0, .int a1, .int a2, .int a3] M (some (.int xr)) N := by
  refine ct_of (lv := [some (.ref a0), some (.int a1), some (.int a2), some (.int a3)]) (by decide) (Nat.le_of_ble_eq_true rfl) rfl rfl (fun z hz => ?_)
  unfold fX5_add at h
  refine v_aload_n hz rfl rfl dX5_add_0 ?_
  obtain ⟨ck1, h⟩ := ck_inv h
  obtain ⟨ka1, kb1⟩ := isK_of ck1
  refine v_getI hz fl_X5_19 rfl dX5_add_1 ka1 kb1 ?_
  refine v_aload_n hz rfl rfl dX5_add_4 ?_
  refine v_getI hz fl_X5_9 rfl dX5_add_5 ka1 kb1 ?_
  refine v_icmp_lt (tgt := 14) hz dX5_add_8 (by decide) (fun hc => ?_) (fun hc => ?_)
  · replace h := (if_pos hc).symm.trans h
    refine v_aload_n hz rfl rfl dX5_add_14 ?_
    obtain ⟨b2, r2, h⟩ := rb_inv h
    refine v_getR hz fl_X5_15 rfl dX5_add_15 ka1 kb1 r2 ?_
    refine v_aload_n hz rfl rfl dX5_add_18 ?_
    refine v_getI hz fl_X5_19 rfl dX5_add_19 ka1 kb1 ?_
    refine v_iconst hz (v := (3 : Int32)) (by decide) dX5_add_22 ?_
    refine v_imul hz dX5_add_23 ?_
    refine v_iload_n hz rfl rfl dX5_add_24 ?_
    obtain ⟨ck3, h⟩ := ck_inv h
    obtain ⟨ka3, kb3⟩ := isK_of ck3
    obtain ⟨g4, h⟩ := ck_inv h
    refine v_iastore hz dX5_add_25 ka3 kb3 g4 ?_
    refine v_aload_n hz rfl rfl dX5_add_26 ?_
    refine v_getR hz fl_X5_15 rfl dX5_add_27 ka1 kb1 r2 ?_
    refine v_aload_n hz rfl rfl dX5_add_30 ?_
    refine v_getI hz fl_X5_19 rfl dX5_add_31 ka1 kb1 ?_
    refine v_iconst hz (v := (3 : Int32)) (by decide) dX5_add_34 ?_
    refine v_imul hz dX5_add_35 ?_
    refine v_iconst hz (v := (1 : Int32)) (by decide) dX5_add_36 ?_
    refine v_iadd hz dX5_add_37 ?_
    refine v_iload_n hz rfl rfl dX5_add_38 ?_
    obtain ⟨g5, h⟩ := ck_inv h
    refine v_iastore hz dX5_add_39 ka3 kb3 g5 ?_
    obtain ⟨M6, eM6, h⟩ := nm_inv h
    refine v_mem eM6.symm ?_
    refine v_aload_n hz rfl rfl dX5_add_40 ?_
    obtain ⟨ck7, h⟩ := ck_inv h
    obtain ⟨ka7, kb7⟩ := isK_of ck7
    obtain ⟨b8, r8, h⟩ := rb_inv h
    refine v_getR hz fl_X5_15 rfl dX5_add_41 ka7 kb7 r8 ?_
    refine v_aload_n hz rfl rfl dX5_add_44 ?_
    refine v_getI hz fl_X5_19 rfl dX5_add_45 ka7 kb7 ?_
    refine v_iconst hz (v := (3 : Int32)) (by decide) dX5_add_48 ?_
    refine v_imul hz dX5_add_49 ?_
    refine v_iconst hz (v := (2 : Int32)) (by decide) dX5_add_50 ?_
    refine v_iadd hz dX5_add_51 ?_
    refine v_iload_n hz rfl rfl dX5_add_52 ?_
    obtain ⟨ck9, h⟩ := ck_inv h
    obtain ⟨ka9, kb9⟩ := isK_of ck9
    obtain ⟨g10, h⟩ := ck_inv h
    refine v_iastore hz dX5_add_53 ka9 kb9 g10 ?_
    refine v_aload_n hz rfl rfl dX5_add_54 ?_
    refine v_dup hz rfl dX5_add_55 ?_
    refine v_getI hz fl_X5_19 rfl dX5_add_56 ka7 kb7 ?_
    refine v_iconst hz (v := (1 : Int32)) (by decide) dX5_add_59 ?_
    refine v_iadd hz dX5_add_60 ?_
    refine v_putI hz fl_X5_19 ft_5_2 (by decide) rfl rfl rfl dX5_add_61 ka7 kb7 ?_
    obtain ⟨M11, eM11, h⟩ := nm_inv h
    refine v_mem eM11.symm ?_
    refine v_aload_n hz rfl rfl dX5_add_64 ?_
    obtain ⟨ck12, h⟩ := ck_inv h
    obtain ⟨ka12, kb12⟩ := isK_of ck12
    refine v_getI hz fl_X5_19 rfl dX5_add_65 ka12 kb12 ?_
    cases h
    exact v_iret hz dX5_add_68 (by decide) (by decide)
  · replace h := (if_neg hc).symm.trans h
    refine v_bipush hz (v := (-4 : Int32)) (by decide) dX5_add_11 ?_
    cases h
    exact v_iret hz dX5_add_13 (by decide) (by decide)
def fX5_part (M : Mem) (a0 : Nat) (a1 : Int32) (a2 : Int32) : Option (Int32 × Mem) :=
  ck (isK M a0 5) <| rb (mR M a0 1) fun b2 => ck (isK M b2 14) <| ck (inb ((a1 * (3 : Int32)) + a2) (mG M b2)) <| some ((mI M b2 ((a1 * (3 : Int32)) + a2).toNatClampNeg), M)
set_option maxRecDepth 100000 in
set_option maxHeartbeats 4000000 in
theorem tX5_part (r : Nat) {fx : Fx} {al : Bool} {M N : Mem} {a0 : Nat} {a1 : Int32} {a2 : Int32} {xr : Int32}  (h : fX5_part M a0 a1 a2 = some (xr, N)) : Ct fx yX5_part cX5_part 3 (some .int) (r + 0) 0 0 al [.ref a0, .int a1, .int a2] M (some (.int xr)) N := by
  refine ct_of (lv := [some (.ref a0), some (.int a1), some (.int a2)]) (by decide) (Nat.le_of_ble_eq_true rfl) rfl rfl (fun z hz => ?_)
  unfold fX5_part at h
  refine v_aload_n hz rfl rfl dX5_part_0 ?_
  obtain ⟨ck1, h⟩ := ck_inv h
  obtain ⟨ka1, kb1⟩ := isK_of ck1
  obtain ⟨b2, r2, h⟩ := rb_inv h
  refine v_getR hz fl_X5_15 rfl dX5_part_1 ka1 kb1 r2 ?_
  refine v_iload_n hz rfl rfl dX5_part_4 ?_
  refine v_iconst hz (v := (3 : Int32)) (by decide) dX5_part_5 ?_
  refine v_imul hz dX5_part_6 ?_
  refine v_iload_n hz rfl rfl dX5_part_7 ?_
  refine v_iadd hz dX5_part_8 ?_
  obtain ⟨ck3, h⟩ := ck_inv h
  obtain ⟨ka3, kb3⟩ := isK_of ck3
  obtain ⟨g4, h⟩ := ck_inv h
  refine v_iaload hz dX5_part_9 ka3 kb3 g4 ?_
  cases h
  exact v_iret hz dX5_part_10 (by decide) (by decide)
def fX5_take (M : Mem) (a0 : Nat) (a1 : Nat) : Option (Unit × Mem) :=
  ck (isK M a1 5) <| ck (isK M a0 5) <| rb (mR (stI M a0 2 (mI M a1 2)) a1 1) fun b3 => rb (mR (stI M a0 2 (mI M a1 2)) a0 1) fun b4 => ck (isK M b4 14) <| ck (isK M b3 14) <| ck (cpok (0 : Int32) (0 : Int32) (Int32.ofNat (mG M b4)) (mG M b3) (mG M b4)) <| some ((), (cpI (stI M a0 2 (mI M a1 2)) b3 b4 (0 : Int32).toNatClampNeg (0 : Int32).toNatClampNeg (Int32.ofNat (mG M b4)).toNatClampNeg))
set_option maxRecDepth 100000 in
set_option maxHeartbeats 4000000 in
theorem tX5_take (r : Nat) {fx : Fx} {M N : Mem} {a0 : Nat} {a1 : Nat}  (h : fX5_take M a0 a1 = some ((), N)) : Ct fx yX5_take cX5_take 2 none (r + 1) 0 0 false [.ref a0, .ref a1] M none N := by
  refine ct_of (lv := [some (.ref a0), some (.ref a1)]) (by decide) (Nat.le_of_ble_eq_true rfl) rfl rfl (fun z hz => ?_)
  unfold fX5_take at h
  refine v_aload_n hz rfl rfl dX5_take_0 ?_
  refine v_aload_n hz rfl rfl dX5_take_1 ?_
  obtain ⟨ck1, h⟩ := ck_inv h
  obtain ⟨ka1, kb1⟩ := isK_of ck1
  refine v_getI hz fl_X5_19 rfl dX5_take_2 ka1 kb1 ?_
  obtain ⟨ck2, h⟩ := ck_inv h
  obtain ⟨ka2, kb2⟩ := isK_of ck2
  refine v_putI hz fl_X5_19 ft_5_2 (by decide) rfl rfl rfl dX5_take_5 ka2 kb2 ?_
  refine v_aload_n hz rfl rfl dX5_take_8 ?_
  obtain ⟨b3, r3, h⟩ := rb_inv h
  refine v_getR hz fl_X5_15 rfl dX5_take_9 ka1 kb1 r3 ?_
  refine v_iconst hz (v := (0 : Int32)) (by decide) dX5_take_12 ?_
  refine v_aload_n hz rfl rfl dX5_take_13 ?_
  obtain ⟨b4, r4, h⟩ := rb_inv h
  refine v_getR hz fl_X5_15 rfl dX5_take_14 ka2 kb2 r4 ?_
  refine v_iconst hz (v := (0 : Int32)) (by decide) dX5_take_17 ?_
  refine v_aload_n hz rfl rfl dX5_take_18 ?_
  refine v_getR hz fl_X5_15 rfl dX5_take_19 ka2 kb2 r4 ?_
  obtain ⟨ck5, h⟩ := ck_inv h
  obtain ⟨ka5, kb5⟩ := isK_of ck5
  refine v_alen hz dX5_take_22 ka5 kb5 ?_
  obtain ⟨ck6, h⟩ := ck_inv h
  obtain ⟨ka6, kb6⟩ := isK_of ck6
  obtain ⟨g7, h⟩ := ck_inv h
  refine v_copyI hz cl_X5_22 (Or.inl rfl) rfl ka6 kb6 ka5 kb5 g7 (Nat.le_of_ble_eq_true rfl) dX5_take_23 ?_
  cases h
  exact v_vret hz dX5_take_26 (by decide) (by decide)
def gX1_begin_19  (M : Mem) (l0 : Nat) : Option (Unit × Mem) :=
  ck (isK M l0 1) <| some ((), (stI M l0 2 ((mI M l0 2) + (1 : Int32))))
def fX1_begin (M : Mem) (a0 : Nat) (a1 : Int32) : Option (Unit × Mem) :=
  ck (isK M a0 1) <| if (20 : Int32) ≤ (mI M a0 2) then (gX1_begin_19 M a0) else (rb (mR M a0 3) fun b3 => ck (isK M b3 14) <| ck (inb (mI M a0 2) (mG M b3)) <| gX1_begin_19 (stI M b3 (mI M a0 2).toNatClampNeg a1) a0)
set_option maxRecDepth 100000 in
set_option maxHeartbeats 4000000 in
theorem wX1_begin_19 {z : Zx} {fx : Fx} {al : Bool} {r : Nat} {N : Mem} (hz : Zok z fx al yX1_begin.cls yX1_begin.name cX1_begin none 2 (r + 0) 0 0 none N)    {M : Mem} {l0 : Nat} (h : gX1_begin_19  M l0 = some ((), N)) : V z 19 [some (.ref l0), none] [] M 0 0 := by
  unfold gX1_begin_19 at h
  refine v_aload_n hz rfl rfl dX1_begin_19 ?_
  refine v_dup hz rfl dX1_begin_20 ?_
  obtain ⟨ck2, h⟩ := ck_inv h
  obtain ⟨ka2, kb2⟩ := isK_of ck2
  refine v_getI hz fl_X1_15 rfl dX1_begin_21 ka2 kb2 ?_
  refine v_iconst hz (v := (1 : Int32)) (by decide) dX1_begin_24 ?_
  refine v_iadd hz dX1_begin_25 ?_
  refine v_putI hz fl_X1_15 ft_1_2 (by decide) rfl rfl rfl dX1_begin_26 ka2 kb2 ?_
  cases h
  exact v_vret hz dX1_begin_29 (by decide) (by decide)
set_option maxRecDepth 100000 in
set_option maxHeartbeats 4000000 in
theorem tX1_begin (r : Nat) {fx : Fx} {al : Bool} {M N : Mem} {a0 : Nat} {a1 : Int32}  (h : fX1_begin M a0 a1 = some ((), N)) : Ct fx yX1_begin cX1_begin 2 none (r + 0) 0 0 al [.ref a0, .int a1] M none N := by
  refine ct_of (lv := [some (.ref a0), some (.int a1)]) (by decide) (Nat.le_of_ble_eq_true rfl) rfl rfl (fun z hz => ?_)
  unfold fX1_begin at h
  refine v_aload_n hz rfl rfl dX1_begin_0 ?_
  obtain ⟨ck1, h⟩ := ck_inv h
  obtain ⟨ka1, kb1⟩ := isK_of ck1
  refine v_getI hz fl_X1_15 rfl dX1_begin_1 ka1 kb1 ?_
  refine v_bipush hz (v := (20 : Int32)) (by decide) dX1_begin_4 ?_
  refine v_icmp_ge (tgt := 19) hz dX1_begin_6 (by decide) (fun hc => ?_) (fun hc => ?_)
  · replace h := (if_pos hc).symm.trans h
    exact v_weak (lvle_s (lvle_n lvle_0)) (wX1_begin_19 hz   h)
  · replace h := (if_neg hc).symm.trans h
    refine v_aload_n hz rfl rfl dX1_begin_9 ?_
    obtain ⟨b3, r3, h⟩ := rb_inv h
    refine v_getR hz fl_X1_9 rfl dX1_begin_10 ka1 kb1 r3 ?_
    refine v_aload_n hz rfl rfl dX1_begin_13 ?_
    refine v_getI hz fl_X1_15 rfl dX1_begin_14 ka1 kb1 ?_
    refine v_iload_n hz rfl rfl dX1_begin_17 ?_
    obtain ⟨ck4, h⟩ := ck_inv h
    obtain ⟨ka4, kb4⟩ := isK_of ck4
    obtain ⟨g5, h⟩ := ck_inv h
    refine v_iastore hz dX1_begin_18 ka4 kb4 g5 ?_
    exact v_weak (lvle_s (lvle_n lvle_0)) (wX1_begin_19 hz   h)
def fX3_isBald (M : Mem) (a0 : Nat) (a1 : Int32) : Option (Int32 × Mem) :=
  ck (isK M a0 3) <| rb (mR M a0 3) fun b2 => ck (isK M b2 14) <| ck (inb a1 (mG M b2)) <| rb (mR M a0 1) fun b5 => ck (isK M b5 7) <| if (mI M b2 a1.toNatClampNeg) < (mI M b5 2) then (some ((0 : Int32), M)) else (some ((1 : Int32), M))
set_option maxRecDepth 100000 in
set_option maxHeartbeats 4000000 in
theorem tX3_isBald (r : Nat) {fx : Fx} {al : Bool} {M N : Mem} {a0 : Nat} {a1 : Int32} {xr : Int32}  (h : fX3_isBald M a0 a1 = some (xr, N)) : Ct fx yX3_isBald cX3_isBald 2 (some .boolean) (r + 0) 0 0 al [.ref a0, .int a1] M (some (.int xr)) N := by
  refine ct_of (lv := [some (.ref a0), some (.int a1)]) (by decide) (Nat.le_of_ble_eq_true rfl) rfl rfl (fun z hz => ?_)
  unfold fX3_isBald at h
  refine v_aload_n hz rfl rfl dX3_isBald_0 ?_
  obtain ⟨ck1, h⟩ := ck_inv h
  obtain ⟨ka1, kb1⟩ := isK_of ck1
  obtain ⟨b2, r2, h⟩ := rb_inv h
  refine v_getR hz fl_X3_9 rfl dX3_isBald_1 ka1 kb1 r2 ?_
  refine v_iload_n hz rfl rfl dX3_isBald_4 ?_
  obtain ⟨ck3, h⟩ := ck_inv h
  obtain ⟨ka3, kb3⟩ := isK_of ck3
  obtain ⟨g4, h⟩ := ck_inv h
  refine v_iaload hz dX3_isBald_5 ka3 kb3 g4 ?_
  refine v_aload_n hz rfl rfl dX3_isBald_6 ?_
  obtain ⟨b5, r5, h⟩ := rb_inv h
  refine v_getR hz fl_X3_38 rfl dX3_isBald_7 ka1 kb1 r5 ?_
  obtain ⟨ck6, h⟩ := ck_inv h
  obtain ⟨ka6, kb6⟩ := isK_of ck6
  refine v_getI hz fl_X3_55 rfl dX3_isBald_10 ka6 kb6 ?_
  refine v_icmp_lt (tgt := 20) hz dX3_isBald_13 (by decide) (fun hc => ?_) (fun hc => ?_)
  · replace h := (if_pos hc).symm.trans h
    refine v_iconst hz (v := (0 : Int32)) (by decide) dX3_isBald_20 ?_
    cases h
    exact v_zret hz (Or.inl rfl) dX3_isBald_21 (by decide) (by decide)
  · replace h := (if_neg hc).symm.trans h
    refine v_iconst hz (v := (1 : Int32)) (by decide) dX3_isBald_16 ?_
    refine v_goto (tgt := 21) hz dX3_isBald_17 (by decide) ?_
    cases h
    exact v_zret hz (Or.inr rfl) dX3_isBald_21 (by decide) (by decide)
def gX3_countBald_21 (K4 : Mem → Nat → Int32 → Int32 → Option (Int32 × Mem)) (M : Mem) (l0 : Nat) (l1 : Int32) (l2 : Int32) : Option (Int32 × Mem) :=
  K4 M l0 l1 (l2 + (1 : Int32))
def gX3_countBald_4  : Nat → Mem → Nat → Int32 → Int32 → Option (Int32 × Mem)
  | 0, _, _, _, _ => none
  | n + 1, M, l0, l1, l2 => if (25 : Int32) ≤ l2 then (some (l1, M)) else (ck (isK M l0 3) <| bd (fX3_isBald M l0 l2) fun x2 M2 => if x2 = 0 then (gX3_countBald_21 (gX3_countBald_4 n) M2 l0 l1 l2) else (gX3_countBald_21 (gX3_countBald_4 n) M2 l0 (l1 + (1 : Int32)) l2))
def fX3_countBald (M : Mem) (a0 : Nat) : Option (Int32 × Mem) :=
  gX3_countBald_4 FU M a0 (0 : Int32) (0 : Int32)
set_option maxRecDepth 100000 in
set_option maxHeartbeats 4000000 in
theorem wX3_countBald_21 {z : Zx} {fx : Fx} {al : Bool} {r : Nat} {N : Mem} {xr : Int32} (hz : Zok z fx al yX3_countBald.cls yX3_countBald.name cX3_countBald (some .int) 3 (r + 1) 0 0 (some (.int xr)) N)  {K4 : Mem → Nat → Int32 → Int32 → Option (Int32 × Mem)} (hK4 : ∀ {M : Mem} {l0 : Nat} {l1 : Int32} {l2 : Int32}, K4 M l0 l1 l2 = some (xr, N) → V z 4 [some (.ref l0), some (.int l1), some (.int l2)] [] M 0 0) {M : Mem} {l0 : Nat} {l1 : Int32} {l2 : Int32} (h : gX3_countBald_21 K4 M l0 l1 l2 = some (xr, N)) : V z 21 [some (.ref l0), some (.int l1), some (.int l2)] [] M 0 0 := by
  unfold gX3_countBald_21 at h
  refine v_iinc hz (v := (l2 + (1 : Int32))) (lw := [some (.ref l0), some (.int l1), some (.int (l2 + (1 : Int32)))]) rfl rfl rfl rfl dX3_countBald_21 ?_
  refine v_goto (tgt := 4) hz dX3_countBald_24 (by decide) ?_
  exact v_weak (lvle_s (lvle_s (lvle_s lvle_0))) (hK4 h)
set_option maxRecDepth 100000 in
set_option maxHeartbeats 4000000 in
theorem gX3_countBald_4_s  (n : Nat) (M : Mem) (l0 : Nat) (l1 : Int32) (l2 : Int32) : gX3_countBald_4  (n + 1) M l0 l1 l2 = (if (25 : Int32) ≤ l2 then (some (l1, M)) else (ck (isK M l0 3) <| bd (fX3_isBald M l0 l2) fun x2 M2 => if x2 = 0 then (gX3_countBald_21 (gX3_countBald_4 n) M2 l0 l1 l2) else (gX3_countBald_21 (gX3_countBald_4 n) M2 l0 (l1 + (1 : Int32)) l2))) := rfl
set_option maxRecDepth 100000 in
set_option maxHeartbeats 4000000 in
theorem wX3_countBald_4 {z : Zx} {fx : Fx} {al : Bool} {r : Nat} {N : Mem} {xr : Int32} (hz : Zok z fx al yX3_countBald.cls yX3_countBald.name cX3_countBald (some .int) 3 (r + 1) 0 0 (some (.int xr)) N)    : ∀ {n : Nat} {M : Mem} {l0 : Nat} {l1 : Int32} {l2 : Int32}, gX3_countBald_4  n M l0 l1 l2 = some (xr, N) → V z 4 [some (.ref l0), some (.int l1), some (.int l2)] [] M 0 0 := by
  intro n
  induction n with
  | zero => intro M l0 l1 l2 h; cases h
  | succ n ih =>
    intro M l0 l1 l2 h
    replace h := (gX3_countBald_4_s  n M l0 l1 l2).symm.trans h
    refine v_iload_n hz rfl rfl dX3_countBald_4 ?_
    refine v_bipush hz (v := (25 : Int32)) (by decide) dX3_countBald_5 ?_
    refine v_icmp_ge (tgt := 27) hz dX3_countBald_7 (by decide) (fun hc => ?_) (fun hc => ?_)
    · replace h := (if_pos hc).symm.trans h
      refine v_iload_n hz rfl rfl dX3_countBald_27 ?_
      cases h
      exact v_iret hz dX3_countBald_28 (by decide) (by decide)
    · replace h := (if_neg hc).symm.trans h
      refine v_aload_n hz rfl rfl dX3_countBald_10 ?_
      refine v_iload_n hz rfl rfl dX3_countBald_11 ?_
      obtain ⟨ck1, h⟩ := ck_inv h
      obtain ⟨ka1, kb1⟩ := isK_of ck1
      obtain ⟨x2, M2, e2, h⟩ := bd_inv h
      refine v_callV hz (As := [.int l2]) vl_X3_60 (tX3_isBald (r + 0) e2) rfl (by decide) ka1 kb1 rfl rfl rfl (Nat.le_of_ble_eq_true rfl) ⟨by decide, by decide⟩ dX3_countBald_12 ?_
      show V z 15 [some (.ref l0), some (.int l1), some (.int l2)] [.int x2] M2 0 0
      refine v_if_eq (tgt := 21) hz dX3_countBald_15 (by decide) (fun hc => ?_) (fun hc => ?_)
      · replace h := (if_pos hc).symm.trans h
        exact v_weak (lvle_s (lvle_s (lvle_s lvle_0))) (wX3_countBald_21 hz  (fun h => ih h) h)
      · replace h := (if_neg hc).symm.trans h
        refine v_iinc hz (v := (l1 + (1 : Int32))) (lw := [some (.ref l0), some (.int (l1 + (1 : Int32))), some (.int l2)]) rfl rfl rfl rfl dX3_countBald_18 ?_
        exact v_weak (lvle_s (lvle_s (lvle_s lvle_0))) (wX3_countBald_21 hz  (fun h => ih h) h)
set_option maxRecDepth 100000 in
set_option maxHeartbeats 4000000 in
theorem tX3_countBald (r : Nat) {fx : Fx} {al : Bool} {M N : Mem} {a0 : Nat} {xr : Int32}  (h : fX3_countBald M a0 = some (xr, N)) : Ct fx yX3_countBald cX3_countBald 3 (some .int) (r + 1) 0 0 al [.ref a0] M (some (.int xr)) N := by
  refine ct_of (lv := [some (.ref a0), none, none]) (by decide) (Nat.le_of_ble_eq_true rfl) rfl rfl (fun z hz => ?_)
  unfold fX3_countBald at h
  refine v_iconst hz (v := (0 : Int32)) (by decide) dX3_countBald_0 ?_
  refine v_istore_n hz (lw := [some (.ref a0), some (.int (0 : Int32)), none]) rfl (Nat.le_of_ble_eq_true rfl) rfl rfl dX3_countBald_1 ?_
  refine v_iconst hz (v := (0 : Int32)) (by decide) dX3_countBald_2 ?_
  refine v_istore_n hz (lw := [some (.ref a0), some (.int (0 : Int32)), some (.int (0 : Int32))]) rfl (Nat.le_of_ble_eq_true rfl) rfl rfl dX3_countBald_3 ?_
  exact v_weak (lvle_s (lvle_s (lvle_s lvle_0))) (wX3_countBald_4 hz   h)
def gX3_wearOfAll_4  : Nat → Mem → Nat → Int32 → Int32 → Option (Int32 × Mem)
  | 0, _, _, _, _ => none
  | n + 1, M, l0, l1, l2 => if (25 : Int32) ≤ l2 then (some (l1, M)) else (ck (isK M l0 3) <| rb (mR M l0 3) fun b2 => ck (isK M b2 14) <| ck (inb l2 (mG M b2)) <| (gX3_wearOfAll_4 n) M l0 (l1 + (mI M b2 l2.toNatClampNeg)) (l2 + (1 : Int32)))
def fX3_wearOfAll (M : Mem) (a0 : Nat) : Option (Int32 × Mem) :=
  gX3_wearOfAll_4 FU M a0 (0 : Int32) (0 : Int32)
set_option maxRecDepth 100000 in
set_option maxHeartbeats 4000000 in
theorem gX3_wearOfAll_4_s  (n : Nat) (M : Mem) (l0 : Nat) (l1 : Int32) (l2 : Int32) : gX3_wearOfAll_4  (n + 1) M l0 l1 l2 = (if (25 : Int32) ≤ l2 then (some (l1, M)) else (ck (isK M l0 3) <| rb (mR M l0 3) fun b2 => ck (isK M b2 14) <| ck (inb l2 (mG M b2)) <| (gX3_wearOfAll_4 n) M l0 (l1 + (mI M b2 l2.toNatClampNeg)) (l2 + (1 : Int32)))) := rfl
set_option maxRecDepth 100000 in
set_option maxHeartbeats 4000000 in
theorem wX3_wearOfAll_4 {z : Zx} {fx : Fx} {al : Bool} {r : Nat} {N : Mem} {xr : Int32} (hz : Zok z fx al yX3_wearOfAll.cls yX3_wearOfAll.name cX3_wearOfAll (some .int) 3 (r + 0) 0 0 (some (.int xr)) N)    : ∀ {n : Nat} {M : Mem} {l0 : Nat} {l1 : Int32} {l2 : Int32}, gX3_wearOfAll_4  n M l0 l1 l2 = some (xr, N) → V z 4 [some (.ref l0), some (.int l1), some (.int l2)] [] M 0 0 := by
  intro n
  induction n with
  | zero => intro M l0 l1 l2 h; cases h
  | succ n ih =>
    intro M l0 l1 l2 h
    replace h := (gX3_wearOfAll_4_s  n M l0 l1 l2).symm.trans h
    refine v_iload_n hz rfl rfl dX3_wearOfAll_4 ?_
    refine v_bipush hz (v := (25 : Int32)) (by decide) dX3_wearOfAll_5 ?_
    refine v_icmp_ge (tgt := 25) hz dX3_wearOfAll_7 (by decide) (fun hc => ?_) (fun hc => ?_)
    · replace h := (if_pos hc).symm.trans h
      refine v_iload_n hz rfl rfl dX3_wearOfAll_25 ?_
      cases h
      exact v_iret hz dX3_wearOfAll_26 (by decide) (by decide)
    · replace h := (if_neg hc).symm.trans h
      refine v_iload_n hz rfl rfl dX3_wearOfAll_10 ?_
      refine v_aload_n hz rfl rfl dX3_wearOfAll_11 ?_
      obtain ⟨ck1, h⟩ := ck_inv h
      obtain ⟨ka1, kb1⟩ := isK_of ck1
      obtain ⟨b2, r2, h⟩ := rb_inv h
      refine v_getR hz fl_X3_9 rfl dX3_wearOfAll_12 ka1 kb1 r2 ?_
      refine v_iload_n hz rfl rfl dX3_wearOfAll_15 ?_
      obtain ⟨ck3, h⟩ := ck_inv h
      obtain ⟨ka3, kb3⟩ := isK_of ck3
      obtain ⟨g4, h⟩ := ck_inv h
      refine v_iaload hz dX3_wearOfAll_16 ka3 kb3 g4 ?_
      refine v_iadd hz dX3_wearOfAll_17 ?_
      refine v_istore_n hz (lw := [some (.ref l0), some (.int (l1 + (mI M b2 l2.toNatClampNeg))), some (.int l2)]) rfl (Nat.le_of_ble_eq_true rfl) rfl rfl dX3_wearOfAll_18 ?_
      refine v_iinc hz (v := (l2 + (1 : Int32))) (lw := [some (.ref l0), some (.int (l1 + (mI M b2 l2.toNatClampNeg))), some (.int (l2 + (1 : Int32)))]) rfl rfl rfl rfl dX3_wearOfAll_19 ?_
      refine v_goto (tgt := 4) hz dX3_wearOfAll_22 (by decide) ?_
      exact v_weak (lvle_s (lvle_s (lvle_s lvle_0))) (ih h)
set_option maxRecDepth 100000 in
set_option maxHeartbeats 4000000 in
theorem tX3_wearOfAll (r : Nat) {fx : Fx} {al : Bool} {M N : Mem} {a0 : Nat} {xr : Int32}  (h : fX3_wearOfAll M a0 = some (xr, N)) : Ct fx yX3_wearOfAll cX3_wearOfAll 3 (some .int) (r + 0) 0 0 al [.ref a0] M (some (.int xr)) N := by
  refine ct_of (lv := [some (.ref a0), none, none]) (by decide) (Nat.le_of_ble_eq_true rfl) rfl rfl (fun z hz => ?_)
  unfold fX3_wearOfAll at h
  refine v_iconst hz (v := (0 : Int32)) (by decide) dX3_wearOfAll_0 ?_
  refine v_istore_n hz (lw := [some (.ref a0), some (.int (0 : Int32)), none]) rfl (Nat.le_of_ble_eq_true rfl) rfl rfl dX3_wearOfAll_1 ?_
  refine v_iconst hz (v := (0 : Int32)) (by decide) dX3_wearOfAll_2 ?_
  refine v_istore_n hz (lw := [some (.ref a0), some (.int (0 : Int32)), some (.int (0 : Int32))]) rfl (Nat.le_of_ble_eq_true rfl) rfl rfl dX3_wearOfAll_3 ?_
  exact v_weak (lvle_s (lvle_s (lvle_s lvle_0))) (wX3_wearOfAll_4 hz   h)
def fX11_nextTo (M : Mem) (a0 : Int32) (a1 : Int32) : Option (Int32 × Mem) :=
  if a1 = (0 : Int32) then (if a0 < (5 : Int32) then (some ((-1 : Int32), M)) else (some ((a0 - (5 : Int32)), M))) else if a1 = (1 : Int32) then (if (4 : Int32) ≤ (a0 - a0 / (5 : Int32) * (5 : Int32)) then (some ((-1 : Int32), M)) else (some ((a0 + (1 : Int32)), M))) else if a1 = (2 : Int32) then (if (20 : Int32) ≤ a0 then (some ((-1 : Int32), M)) else (some ((a0 + (5 : Int32)), M))) else (if (a0 - a0 / (5 : Int32) * (5 : Int32)) ≤ 0 then (some ((-1 : Int32), M)) else (some ((a0 - (1 : Int32)), M)))
set_option maxRecDepth 100000 in
set_option maxHeartbeats 4000000 in
theorem tX11_nextTo (r : Nat) {fx : Fx} {al : Bool} {M N : Mem} {a0 : Int32} {a1 : Int32} {xr : Int32}  (h : fX11_nextTo M a0 a1 = some (xr, N)) : Ct fx yX11_nextTo cX11_nextTo 2 (some .int) (r + 0) 0 0 al [.int a0, .int a1] M (some (.int xr)) N := by
  refine ct_of (lv := [some (.int a0), some (.int a1)]) (by decide) (Nat.le_of_ble_eq_true rfl) rfl rfl (fun z hz => ?_)
  unfold fX11_nextTo at h
  refine v_iload_n hz rfl rfl dX11_nextTo_0 ?_
  by_cases hs1_0 : a1 = (0 : Int32)
  · replace h := (if_pos hs1_0).symm.trans h
    refine v_tableAt (tgt := 28) hz hs1_0 dX11_nextTo_1 (by decide) (by decide) (by decide) (by decide) ?_
    refine v_iload_n hz rfl rfl dX11_nextTo_28 ?_
    refine v_iconst hz (v := (5 : Int32)) (by decide) dX11_nextTo_29 ?_
    refine v_icmp_lt (tgt := 39) hz dX11_nextTo_30 (by decide) (fun hc => ?_) (fun hc => ?_)
    · replace h := (if_pos hc).symm.trans h
      refine v_iconst hz (v := (-1 : Int32)) (by decide) dX11_nextTo_39 ?_
      cases h
      exact v_iret hz dX11_nextTo_40 (by decide) (by decide)
    · replace h := (if_neg hc).symm.trans h
      refine v_iload_n hz rfl rfl dX11_nextTo_33 ?_
      refine v_iconst hz (v := (5 : Int32)) (by decide) dX11_nextTo_34 ?_
      refine v_isub hz dX11_nextTo_35 ?_
      refine v_goto (tgt := 40) hz dX11_nextTo_36 (by decide) ?_
      cases h
      exact v_iret hz dX11_nextTo_40 (by decide) (by decide)
  replace h := (if_neg hs1_0).symm.trans h
  by_cases hs1_1 : a1 = (1 : Int32)
  · replace h := (if_pos hs1_1).symm.trans h
    refine v_tableAt (tgt := 41) hz hs1_1 dX11_nextTo_1 (by decide) (by decide) (by decide) (by decide) ?_
    refine v_iload_n hz rfl rfl dX11_nextTo_41 ?_
    refine v_iconst hz (v := (5 : Int32)) (by decide) dX11_nextTo_42 ?_
    refine v_irem hz (by decide) dX11_nextTo_43 ?_
    refine v_iconst hz (v := (4 : Int32)) (by decide) dX11_nextTo_44 ?_
    refine v_icmp_ge (tgt := 54) hz dX11_nextTo_45 (by decide) (fun hc => ?_) (fun hc => ?_)
    · replace h := (if_pos hc).symm.trans h
      refine v_iconst hz (v := (-1 : Int32)) (by decide) dX11_nextTo_54 ?_
      cases h
      exact v_iret hz dX11_nextTo_55 (by decide) (by decide)
    · replace h := (if_neg hc).symm.trans h
      refine v_iload_n hz rfl rfl dX11_nextTo_48 ?_
      refine v_iconst hz (v := (1 : Int32)) (by decide) dX11_nextTo_49 ?_
      refine v_iadd hz dX11_nextTo_50 ?_
      refine v_goto (tgt := 55) hz dX11_nextTo_51 (by decide) ?_
      cases h
      exact v_iret hz dX11_nextTo_55 (by decide) (by decide)
  replace h := (if_neg hs1_1).symm.trans h
  by_cases hs1_2 : a1 = (2 : Int32)
  · replace h := (if_pos hs1_2).symm.trans h
    refine v_tableAt (tgt := 56) hz hs1_2 dX11_nextTo_1 (by decide) (by decide) (by decide) (by decide) ?_
    refine v_iload_n hz rfl rfl dX11_nextTo_56 ?_
    refine v_bipush hz (v := (20 : Int32)) (by decide) dX11_nextTo_57 ?_
    refine v_icmp_ge (tgt := 68) hz dX11_nextTo_59 (by decide) (fun hc => ?_) (fun hc => ?_)
    · replace h := (if_pos hc).symm.trans h
      refine v_iconst hz (v := (-1 : Int32)) (by decide) dX11_nextTo_68 ?_
      cases h
      exact v_iret hz dX11_nextTo_69 (by decide) (by decide)
    · replace h := (if_neg hc).symm.trans h
      refine v_iload_n hz rfl rfl dX11_nextTo_62 ?_
      refine v_iconst hz (v := (5 : Int32)) (by decide) dX11_nextTo_63 ?_
      refine v_iadd hz dX11_nextTo_64 ?_
      refine v_goto (tgt := 69) hz dX11_nextTo_65 (by decide) ?_
      cases h
      exact v_iret hz dX11_nextTo_69 (by decide) (by decide)
  replace h := (if_neg hs1_2).symm.trans h
  refine v_tableOut (tgt := 70) hz dX11_nextTo_1 (by have q0 := lv_neT hs1_0 (show ((0 : Int32)).toInt = 0 by decide); have q1 := lv_neT hs1_1 (show ((1 : Int32)).toInt = 1 by decide); have q2 := lv_neT hs1_2 (show ((2 : Int32)).toInt = 2 by decide); omega) (by decide) ?_
  refine v_iload_n hz rfl rfl dX11_nextTo_70 ?_
  refine v_iconst hz (v := (5 : Int32)) (by decide) dX11_nextTo_71 ?_
  refine v_irem hz (by decide) dX11_nextTo_72 ?_
  refine v_if_le (tgt := 82) hz dX11_nextTo_73 (by decide) (fun hc => ?_) (fun hc => ?_)
  · replace h := (if_pos hc).symm.trans h
    refine v_iconst hz (v := (-1 : Int32)) (by decide) dX11_nextTo_82 ?_
    cases h
    exact v_iret hz dX11_nextTo_83 (by decide) (by decide)
  · replace h := (if_neg hc).symm.trans h
    refine v_iload_n hz rfl rfl dX11_nextTo_76 ?_
    refine v_iconst hz (v := (1 : Int32)) (by decide) dX11_nextTo_77 ?_
    refine v_isub hz dX11_nextTo_78 ?_
    refine v_goto (tgt := 83) hz dX11_nextTo_79 (by decide) ?_
    cases h
    exact v_iret hz dX11_nextTo_83 (by decide) (by decide)
def fX3_kindOf (M : Mem) (a0 : Nat) (a1 : Int32) : Option (Nat × Mem) :=
  ck (isK M a0 3) <| rb (mR M a0 0) fun b2 => rb (mR M a0 5) fun b3 => ck (isK M b3 14) <| ck (inb a1 (mG M b3)) <| ck (isK M b2 17) <| ck (inb (mI M b3 a1.toNatClampNeg) (mG M b2)) <| rb (mR M b2 (mI M b3 a1.toNatClampNeg).toNatClampNeg) fun b8 => some (b8, M)
set_option maxRecDepth 100000 in
set_option maxHeartbeats 4000000 in
theorem tX3_kindOf (r : Nat) {fx : Fx} {al : Bool} {M N : Mem} {a0 : Nat} {a1 : Int32} {xr : Nat}  (h : fX3_kindOf M a0 a1 = some (xr, N)) : Ct fx yX3_kindOf cX3_kindOf 2 (some (.object "CarpetsLaw$Walker")) (r + 0) 0 0 al [.ref a0, .int a1] M (some (.ref xr)) N := by
  refine ct_of (lv := [some (.ref a0), some (.int a1)]) (by decide) (Nat.le_of_ble_eq_true rfl) rfl rfl (fun z hz => ?_)
  unfold fX3_kindOf at h
  refine v_aload_n hz rfl rfl dX3_kindOf_0 ?_
  obtain ⟨ck1, h⟩ := ck_inv h
  obtain ⟨ka1, kb1⟩ := isK_of ck1
  obtain ⟨b2, r2, h⟩ := rb_inv h
  refine v_getR hz fl_X3_34 rfl dX3_kindOf_1 ka1 kb1 r2 ?_
  refine v_aload_n hz rfl rfl dX3_kindOf_4 ?_
  obtain ⟨b3, r3, h⟩ := rb_inv h
  refine v_getR hz fl_X3_15 rfl dX3_kindOf_5 ka1 kb1 r3 ?_
  refine v_iload_n hz rfl rfl dX3_kindOf_8 ?_
  obtain ⟨ck4, h⟩ := ck_inv h
  obtain ⟨ka4, kb4⟩ := isK_of ck4
  obtain ⟨g5, h⟩ := ck_inv h
  refine v_iaload hz dX3_kindOf_9 ka4 kb4 g5 ?_
  obtain ⟨ck6, h⟩ := ck_inv h
  obtain ⟨ka6, kb6⟩ := isK_of ck6
  obtain ⟨g7, h⟩ := ck_inv h
  obtain ⟨b8, r8, h⟩ := rb_inv h
  refine v_aaload hz dX3_kindOf_10 ka6 kb6 g7 r8 ?_
  cases h
  exact v_aret hz dX3_kindOf_11 (by decide) (by decide)
def gX7_holds_86  (M : Mem) (l4 : Int32) : Option (Int32 × Mem) :=
  if l4 = 0 then (some ((0 : Int32), M)) else (some ((1 : Int32), M))
def gX7_holds_54  (M : Mem) (s0 : Int32) : Option (Int32 × Mem) :=
  gX7_holds_86 M s0
def gX7_holds_69  (M : Mem) (s0 : Int32) : Option (Int32 × Mem) :=
  gX7_holds_86 M s0
def gX7_holds_84  (M : Mem) (s0 : Int32) : Option (Int32 × Mem) :=
  gX7_holds_86 M s0
def fX7_holds (M : Mem) (a0 : Int32) (a1 : Nat) : Option (Int32 × Mem) :=
  ck (isK M a1 14) <| ck (inb (a0 >>> ((9 : Int32) &&& 31)) (mG M a1)) <| if ((a0 >>> ((7 : Int32) &&& 31)) &&& (3 : Int32)) = (0 : Int32) then (if (a0 &&& (127 : Int32)) ≤ (mI M a1 (a0 >>> ((9 : Int32) &&& 31)).toNatClampNeg) then (gX7_holds_54 M (0 : Int32)) else (gX7_holds_54 M (1 : Int32))) else if ((a0 >>> ((7 : Int32) &&& 31)) &&& (3 : Int32)) = (1 : Int32) then (if (mI M a1 (a0 >>> ((9 : Int32) &&& 31)).toNatClampNeg) = (a0 &&& (127 : Int32)) then (gX7_holds_69 M (1 : Int32)) else (gX7_holds_69 M (0 : Int32))) else (if (mI M a1 (a0 >>> ((9 : Int32) &&& 31)).toNatClampNeg) ≤ (a0 &&& (127 : Int32)) then (gX7_holds_84 M (0 : Int32)) else (gX7_holds_84 M (1 : Int32)))
set_option maxRecDepth 100000 in
set_option maxHeartbeats 4000000 in
theorem wX7_holds_86 {z : Zx} {fx : Fx} {al : Bool} {r : Nat} {N : Mem} {xr : Int32} (hz : Zok z fx al yX7_holds.cls yX7_holds.name cX7_holds (some .int) 5 (r + 0) 0 0 (some (.int xr)) N)    {M : Mem} {l4 : Int32} (h : gX7_holds_86  M l4 = some (xr, N)) : V z 86 [none, none, none, none, some (.int l4)] [] M 0 0 := by
  unfold gX7_holds_86 at h
  refine v_iload hz rfl dX7_holds_86 ?_
  refine v_if_eq (tgt := 95) hz dX7_holds_88 (by decide) (fun hc => ?_) (fun hc => ?_)
  · replace h := (if_pos hc).symm.trans h
    refine v_iconst hz (v := (0 : Int32)) (by decide) dX7_holds_95 ?_
    cases h
    exact v_iret hz dX7_holds_96 (by decide) (by decide)
  · replace h := (if_neg hc).symm.trans h
    refine v_iconst hz (v := (1 : Int32)) (by decide) dX7_holds_91 ?_
    refine v_goto (tgt := 96) hz dX7_holds_92 (by decide) ?_
    cases h
    exact v_iret hz dX7_holds_96 (by decide) (by decide)
set_option maxRecDepth 100000 in
set_option maxHeartbeats 4000000 in
theorem wX7_holds_54 {z : Zx} {fx : Fx} {al : Bool} {r : Nat} {N : Mem} {xr : Int32} (hz : Zok z fx al yX7_holds.cls yX7_holds.name cX7_holds (some .int) 5 (r + 0) 0 0 (some (.int xr)) N)    {M : Mem} {s0 : Int32} (h : gX7_holds_54  M s0 = some (xr, N)) : V z 54 [none, none, none, none, none] [.int s0] M 0 0 := by
  unfold gX7_holds_54 at h
  refine v_istore hz (lw := [none, none, none, none, some (.int s0)]) (Nat.le_of_ble_eq_true rfl) rfl rfl dX7_holds_54 ?_
  refine v_goto (tgt := 86) hz dX7_holds_56 (by decide) ?_
  exact v_weak (lvle_n (lvle_n (lvle_n (lvle_n (lvle_s lvle_0))))) (wX7_holds_86 hz   h)
set_option maxRecDepth 100000 in
set_option maxHeartbeats 4000000 in
theorem wX7_holds_69 {z : Zx} {fx : Fx} {al : Bool} {r : Nat} {N : Mem} {xr : Int32} (hz : Zok z fx al yX7_holds.cls yX7_holds.name cX7_holds (some .int) 5 (r + 0) 0 0 (some (.int xr)) N)    {M : Mem} {s0 : Int32} (h : gX7_holds_69  M s0 = some (xr, N)) : V z 69 [none, none, none, none, none] [.int s0] M 0 0 := by
  unfold gX7_holds_69 at h
  refine v_istore hz (lw := [none, none, none, none, some (.int s0)]) (Nat.le_of_ble_eq_true rfl) rfl rfl dX7_holds_69 ?_
  refine v_goto (tgt := 86) hz dX7_holds_71 (by decide) ?_
  exact v_weak (lvle_n (lvle_n (lvle_n (lvle_n (lvle_s lvle_0))))) (wX7_holds_86 hz   h)
set_option maxRecDepth 100000 in
set_option maxHeartbeats 4000000 in
theorem wX7_holds_84 {z : Zx} {fx : Fx} {al : Bool} {r : Nat} {N : Mem} {xr : Int32} (hz : Zok z fx al yX7_holds.cls yX7_holds.name cX7_holds (some .int) 5 (r + 0) 0 0 (some (.int xr)) N)    {M : Mem} {s0 : Int32} (h : gX7_holds_84  M s0 = some (xr, N)) : V z 84 [none, none, none, none, none] [.int s0] M 0 0 := by
  unfold gX7_holds_84 at h
  refine v_istore hz (lw := [none, none, none, none, some (.int s0)]) (Nat.le_of_ble_eq_true rfl) rfl rfl dX7_holds_84 ?_
  exact v_weak (lvle_n (lvle_n (lvle_n (lvle_n (lvle_s lvle_0))))) (wX7_holds_86 hz   h)
set_option maxRecDepth 100000 in
set_option maxHeartbeats 4000000 in
theorem tX7_holds (r : Nat) {fx : Fx} {al : Bool} {M N : Mem} {a0 : Int32} {a1 : Nat} {xr : Int32}  (h : fX7_holds M a0 a1 = some (xr, N)) : Ct fx yX7_holds cX7_holds 5 (some .int) (r + 0) 0 0 al [.int a0, .ref a1] M (some (.int xr)) N := by
  refine ct_of (lv := [some (.int a0), some (.ref a1), none, none, none]) (by decide) (Nat.le_of_ble_eq_true rfl) rfl rfl (fun z hz => ?_)
  unfold fX7_holds at h
  refine v_aload_n hz rfl rfl dX7_holds_0 ?_
  refine v_iload_n hz rfl rfl dX7_holds_1 ?_
  refine v_bipush hz (v := (9 : Int32)) (by decide) dX7_holds_2 ?_
  refine v_ishr hz dX7_holds_4 ?_
  obtain ⟨ck1, h⟩ := ck_inv h
  obtain ⟨ka1, kb1⟩ := isK_of ck1
  obtain ⟨g2, h⟩ := ck_inv h
  refine v_iaload hz dX7_holds_5 ka1 kb1 g2 ?_
  refine v_istore_n hz (lw := [some (.int a0), some (.ref a1), some (.int (mI M a1 (a0 >>> ((9 : Int32) &&& 31)).toNatClampNeg)), none, none]) rfl (Nat.le_of_ble_eq_true rfl) rfl rfl dX7_holds_6 ?_
  refine v_iload_n hz rfl rfl dX7_holds_7 ?_
  refine v_bipush hz (v := (127 : Int32)) (by decide) dX7_holds_8 ?_
  refine v_iand hz dX7_holds_10 ?_
  refine v_istore_n hz (lw := [some (.int a0), some (.ref a1), some (.int (mI M a1 (a0 >>> ((9 : Int32) &&& 31)).toNatClampNeg)), some (.int (a0 &&& (127 : Int32))), none]) rfl (Nat.le_of_ble_eq_true rfl) rfl rfl dX7_holds_11 ?_
  refine v_iload_n hz rfl rfl dX7_holds_12 ?_
  refine v_bipush hz (v := (7 : Int32)) (by decide) dX7_holds_13 ?_
  refine v_ishr hz dX7_holds_15 ?_
  refine v_iconst hz (v := (3 : Int32)) (by decide) dX7_holds_16 ?_
  refine v_iand hz dX7_holds_17 ?_
  by_cases hs3_0 : ((a0 >>> ((7 : Int32) &&& 31)) &&& (3 : Int32)) = (0 : Int32)
  · replace h := (if_pos hs3_0).symm.trans h
    refine v_lookAt (tgt := 44) hz hs3_0 dX7_holds_18 (by decide) (by decide) (by decide) ?_
    refine v_iload_n hz rfl rfl dX7_holds_44 ?_
    refine v_iload_n hz rfl rfl dX7_holds_45 ?_
    refine v_icmp_ge (tgt := 53) hz dX7_holds_46 (by decide) (fun hc => ?_) (fun hc => ?_)
    · replace h := (if_pos hc).symm.trans h
      refine v_iconst hz (v := (0 : Int32)) (by decide) dX7_holds_53 ?_
      exact v_weak (lvle_n (lvle_n (lvle_n (lvle_n (lvle_n lvle_0))))) (wX7_holds_54 hz   h)
    · replace h := (if_neg hc).symm.trans h
      refine v_iconst hz (v := (1 : Int32)) (by decide) dX7_holds_49 ?_
      refine v_goto (tgt := 54) hz dX7_holds_50 (by decide) ?_
      exact v_weak (lvle_n (lvle_n (lvle_n (lvle_n (lvle_n lvle_0))))) (wX7_holds_54 hz   h)
  replace h := (if_neg hs3_0).symm.trans h
  by_cases hs3_1 : ((a0 >>> ((7 : Int32) &&& 31)) &&& (3 : Int32)) = (1 : Int32)
  · replace h := (if_pos hs3_1).symm.trans h
    refine v_lookAt (tgt := 59) hz hs3_1 dX7_holds_18 (by decide) (by decide) (by decide) ?_
    refine v_iload_n hz rfl rfl dX7_holds_59 ?_
    refine v_iload_n hz rfl rfl dX7_holds_60 ?_
    refine v_icmp_ne (tgt := 68) hz dX7_holds_61 (by decide) (fun hc => ?_) (fun hc => ?_)
    · replace h := (if_neg hc).symm.trans h
      refine v_iconst hz (v := (0 : Int32)) (by decide) dX7_holds_68 ?_
      exact v_weak (lvle_n (lvle_n (lvle_n (lvle_n (lvle_n lvle_0))))) (wX7_holds_69 hz   h)
    · replace h := (if_pos hc).symm.trans h
      refine v_iconst hz (v := (1 : Int32)) (by decide) dX7_holds_64 ?_
      refine v_goto (tgt := 69) hz dX7_holds_65 (by decide) ?_
      exact v_weak (lvle_n (lvle_n (lvle_n (lvle_n (lvle_n lvle_0))))) (wX7_holds_69 hz   h)
  replace h := (if_neg hs3_1).symm.trans h
  refine v_lookup (off := 56) (tgt := 74) hz dX7_holds_18 (by decide) ((lv_osw hs3_0 (show ((0 : Int32)).toInt = 0 by decide)).trans ((lv_osw hs3_1 (show ((1 : Int32)).toInt = 1 by decide)).trans rfl)) (by decide) ?_
  refine v_iload_n hz rfl rfl dX7_holds_74 ?_
  refine v_iload_n hz rfl rfl dX7_holds_75 ?_
  refine v_icmp_le (tgt := 83) hz dX7_holds_76 (by decide) (fun hc => ?_) (fun hc => ?_)
  · replace h := (if_pos hc).symm.trans h
    refine v_iconst hz (v := (0 : Int32)) (by decide) dX7_holds_83 ?_
    exact v_weak (lvle_n (lvle_n (lvle_n (lvle_n (lvle_n lvle_0))))) (wX7_holds_84 hz   h)
  · replace h := (if_neg hc).symm.trans h
    refine v_iconst hz (v := (1 : Int32)) (by decide) dX7_holds_79 ?_
    refine v_goto (tgt := 84) hz dX7_holds_80 (by decide) ?_
    exact v_weak (lvle_n (lvle_n (lvle_n (lvle_n (lvle_n lvle_0))))) (wX7_holds_84 hz   h)
def gX7_drawsBy_147 (K7 : Mem → Nat → Nat → Int32 → Int32 → Int32 → Option (Int32 × Mem)) (M : Mem) (l0 : Nat) (l1 : Nat) (l2 : Int32) (l3 : Int32) (l4 : Int32) : Option (Int32 × Mem) :=
  K7 M l0 l1 l2 l3 (l4 + (1 : Int32))
def gX7_drawsBy_7  : Nat → Mem → Nat → Nat → Int32 → Int32 → Int32 → Option (Int32 × Mem)
  | 0, _, _, _, _, _, _ => none
  | n + 1, M, l0, l1, l2, l3, l4 => ck (isK M l0 7) <| if (mI M l0 1) ≤ l4 then (some (l2, M)) else (rb (mR M l0 0) fun b2 => ck (isK M b2 14) <| ck (inb l4 (mG M b2)) <| ck (inb l4 (mG M b2)) <| if ((mI M b2 l4.toNatClampNeg) >>> ((12 : Int32) &&& 31)) = (0 : Int32) then (bd (fX7_holds M ((mI M b2 l4.toNatClampNeg) &&& (4095 : Int32)) l1) fun x7 M7 => gX7_drawsBy_147 (gX7_drawsBy_7 n) M7 l0 l1 l2 ((l3 <<< ((1 : Int32) &&& 31)) ||| x7) l4) else if ((mI M b2 l4.toNatClampNeg) >>> ((12 : Int32) &&& 31)) = (1 : Int32) then (gX7_drawsBy_147 (gX7_drawsBy_7 n) M l0 l1 l2 (l3 ^^^ (1 : Int32)) l4) else if ((mI M b2 l4.toNatClampNeg) >>> ((12 : Int32) &&& 31)) = (2 : Int32) then (gX7_drawsBy_147 (gX7_drawsBy_7 n) M l0 l1 l2 ((l3 >>> ((1 : Int32) &&& 31)) &&& ((-2 : Int32) ||| (l3 &&& (1 : Int32)))) l4) else if ((mI M b2 l4.toNatClampNeg) >>> ((12 : Int32) &&& 31)) = (3 : Int32) then (gX7_drawsBy_147 (gX7_drawsBy_7 n) M l0 l1 l2 ((l3 >>> ((1 : Int32) &&& 31)) ||| (l3 &&& (1 : Int32))) l4) else if ((mI M b2 l4.toNatClampNeg) >>> ((12 : Int32) &&& 31)) = (4 : Int32) then (gX7_drawsBy_147 (gX7_drawsBy_7 n) M l0 l1 (l2 + ((l3 &&& (1 : Int32)) * ((mI M b2 l4.toNatClampNeg) &&& (4095 : Int32)))) (0 : Int32) l4) else (gX7_drawsBy_147 (gX7_drawsBy_7 n) M l0 l1 (l2 - ((l3 &&& (1 : Int32)) * ((mI M b2 l4.toNatClampNeg) &&& (4095 : Int32)))) (0 : Int32) l4))
def fX7_drawsBy (M : Mem) (a0 : Nat) (a1 : Nat) : Option (Int32 × Mem) :=
  gX7_drawsBy_7 FU M a0 a1 (0 : Int32) (0 : Int32) (0 : Int32)
set_option maxRecDepth 100000 in
set_option maxHeartbeats 4000000 in
theorem wX7_drawsBy_147 {z : Zx} {fx : Fx} {al : Bool} {r : Nat} {N : Mem} {xr : Int32} (hz : Zok z fx al yX7_drawsBy.cls yX7_drawsBy.name cX7_drawsBy (some .int) 7 (r + 1) 0 0 (some (.int xr)) N)  {K7 : Mem → Nat → Nat → Int32 → Int32 → Int32 → Option (Int32 × Mem)} (hK7 : ∀ {M : Mem} {l0 : Nat} {l1 : Nat} {l2 : Int32} {l3 : Int32} {l4 : Int32}, K7 M l0 l1 l2 l3 l4 = some (xr, N) → V z 7 [some (.ref l0), some (.ref l1), some (.int l2), some (.int l3), some (.int l4), none, none] [] M 0 0) {M : Mem} {l0 : Nat} {l1 : Nat} {l2 : Int32} {l3 : Int32} {l4 : Int32} (h : gX7_drawsBy_147 K7 M l0 l1 l2 l3 l4 = some (xr, N)) : V z 147 [some (.ref l0), some (.ref l1), some (.int l2), some (.int l3), some (.int l4), none, none] [] M 0 0 := by
  unfold gX7_drawsBy_147 at h
  refine v_iinc hz (v := (l4 + (1 : Int32))) (lw := [some (.ref l0), some (.ref l1), some (.int l2), some (.int l3), some (.int (l4 + (1 : Int32))), none, none]) rfl rfl rfl rfl dX7_drawsBy_147 ?_
  refine v_goto (tgt := 7) hz dX7_drawsBy_150 (by decide) ?_
  exact v_weak (lvle_s (lvle_s (lvle_s (lvle_s (lvle_s (lvle_n (lvle_n lvle_0))))))) (hK7 h)
set_option maxRecDepth 100000 in
set_option maxHeartbeats 4000000 in
theorem gX7_drawsBy_7_s  (n : Nat) (M : Mem) (l0 : Nat) (l1 : Nat) (l2 : Int32) (l3 : Int32) (l4 : Int32) : gX7_drawsBy_7  (n + 1) M l0 l1 l2 l3 l4 = (ck (isK M l0 7) <| if (mI M l0 1) ≤ l4 then (some (l2, M)) else (rb (mR M l0 0) fun b2 => ck (isK M b2 14) <| ck (inb l4 (mG M b2)) <| ck (inb l4 (mG M b2)) <| if ((mI M b2 l4.toNatClampNeg) >>> ((12 : Int32) &&& 31)) = (0 : Int32) then (bd (fX7_holds M ((mI M b2 l4.toNatClampNeg) &&& (4095 : Int32)) l1) fun x7 M7 => gX7_drawsBy_147 (gX7_drawsBy_7 n) M7 l0 l1 l2 ((l3 <<< ((1 : Int32) &&& 31)) ||| x7) l4) else if ((mI M b2 l4.toNatClampNeg) >>> ((12 : Int32) &&& 31)) = (1 : Int32) then (gX7_drawsBy_147 (gX7_drawsBy_7 n) M l0 l1 l2 (l3 ^^^ (1 : Int32)) l4) else if ((mI M b2 l4.toNatClampNeg) >>> ((12 : Int32) &&& 31)) = (2 : Int32) then (gX7_drawsBy_147 (gX7_drawsBy_7 n) M l0 l1 l2 ((l3 >>> ((1 : Int32) &&& 31)) &&& ((-2 : Int32) ||| (l3 &&& (1 : Int32)))) l4) else if ((mI M b2 l4.toNatClampNeg) >>> ((12 : Int32) &&& 31)) = (3 : Int32) then (gX7_drawsBy_147 (gX7_drawsBy_7 n) M l0 l1 l2 ((l3 >>> ((1 : Int32) &&& 31)) ||| (l3 &&& (1 : Int32))) l4) else if ((mI M b2 l4.toNatClampNeg) >>> ((12 : Int32) &&& 31)) = (4 : Int32) then (gX7_drawsBy_147 (gX7_drawsBy_7 n) M l0 l1 (l2 + ((l3 &&& (1 : Int32)) * ((mI M b2 l4.toNatClampNeg) &&& (4095 : Int32)))) (0 : Int32) l4) else (gX7_drawsBy_147 (gX7_drawsBy_7 n) M l0 l1 (l2 - ((l3 &&& (1 : Int32)) * ((mI M b2 l4.toNatClampNeg) &&& (4095 : Int32)))) (0 : Int32) l4))) := rfl
set_option maxRecDepth 100000 in
set_option maxHeartbeats 4000000 in
theorem wX7_drawsBy_7 {z : Zx} {fx : Fx} {al : Bool} {r : Nat} {N : Mem} {xr : Int32} (hz : Zok z fx al yX7_drawsBy.cls yX7_drawsBy.name cX7_drawsBy (some .int) 7 (r + 1) 0 0 (some (.int xr)) N)    : ∀ {n : Nat} {M : Mem} {l0 : Nat} {l1 : Nat} {l2 : Int32} {l3 : Int32} {l4 : Int32}, gX7_drawsBy_7  n M l0 l1 l2 l3 l4 = some (xr, N) → V z 7 [some (.ref l0), some (.ref l1), some (.int l2), some (.int l3), some (.int l4), none, none] [] M 0 0 := by
  intro n
  induction n with
  | zero => intro M l0 l1 l2 l3 l4 h; cases h
  | succ n ih =>
    intro M l0 l1 l2 l3 l4 h
    replace h := (gX7_drawsBy_7_s  n M l0 l1 l2 l3 l4).symm.trans h
    refine v_iload hz rfl dX7_drawsBy_7 ?_
    refine v_aload_n hz rfl rfl dX7_drawsBy_9 ?_
    obtain ⟨ck1, h⟩ := ck_inv h
    obtain ⟨ka1, kb1⟩ := isK_of ck1
    refine v_getI hz fl_X7_26 rfl dX7_drawsBy_10 ka1 kb1 ?_
    refine v_icmp_ge (tgt := 153) hz dX7_drawsBy_13 (by decide) (fun hc => ?_) (fun hc => ?_)
    · replace h := (if_pos hc).symm.trans h
      refine v_iload_n hz rfl rfl dX7_drawsBy_153 ?_
      cases h
      exact v_iret hz dX7_drawsBy_154 (by decide) (by decide)
    · replace h := (if_neg hc).symm.trans h
      refine v_iload_n hz rfl rfl dX7_drawsBy_16 ?_
      refine v_iconst hz (v := (1 : Int32)) (by decide) dX7_drawsBy_17 ?_
      refine v_iand hz dX7_drawsBy_18 ?_
      refine v_istore hz (lw := [some (.ref l0), some (.ref l1), some (.int l2), some (.int l3), some (.int l4), some (.int (l3 &&& (1 : Int32))), none]) (Nat.le_of_ble_eq_true rfl) rfl rfl dX7_drawsBy_19 ?_
      refine v_aload_n hz rfl rfl dX7_drawsBy_21 ?_
      obtain ⟨b2, r2, h⟩ := rb_inv h
      refine v_getR hz fl_X7_9 rfl dX7_drawsBy_22 ka1 kb1 r2 ?_
      refine v_iload hz rfl dX7_drawsBy_25 ?_
      obtain ⟨ck3, h⟩ := ck_inv h
      obtain ⟨ka3, kb3⟩ := isK_of ck3
      obtain ⟨g4, h⟩ := ck_inv h
      refine v_iaload hz dX7_drawsBy_27 ka3 kb3 g4 ?_
      refine v_sipush hz (v := (4095 : Int32)) (by decide) dX7_drawsBy_28 ?_
      refine v_iand hz dX7_drawsBy_31 ?_
      refine v_istore hz (lw := [some (.ref l0), some (.ref l1), some (.int l2), some (.int l3), some (.int l4), some (.int (l3 &&& (1 : Int32))), some (.int ((mI M b2 l4.toNatClampNeg) &&& (4095 : Int32)))]) (Nat.le_of_ble_eq_true rfl) rfl rfl dX7_drawsBy_32 ?_
      refine v_aload_n hz rfl rfl dX7_drawsBy_34 ?_
      refine v_getR hz fl_X7_9 rfl dX7_drawsBy_35 ka1 kb1 r2 ?_
      refine v_iload hz rfl dX7_drawsBy_38 ?_
      obtain ⟨g5, h⟩ := ck_inv h
      refine v_iaload hz dX7_drawsBy_40 ka3 kb3 g5 ?_
      refine v_bipush hz (v := (12 : Int32)) (by decide) dX7_drawsBy_41 ?_
      refine v_ishr hz dX7_drawsBy_43 ?_
      by_cases hs6_0 : ((mI M b2 l4.toNatClampNeg) >>> ((12 : Int32) &&& 31)) = (0 : Int32)
      · replace h := (if_pos hs6_0).symm.trans h
        refine v_tableAt (tgt := 80) hz hs6_0 dX7_drawsBy_44 (by decide) (by decide) (by decide) (by decide) ?_
        refine v_iload_n hz rfl rfl dX7_drawsBy_80 ?_
        refine v_iconst hz (v := (1 : Int32)) (by decide) dX7_drawsBy_81 ?_
        refine v_ishl hz dX7_drawsBy_82 ?_
        refine v_iload hz rfl dX7_drawsBy_83 ?_
        refine v_aload_n hz rfl rfl dX7_drawsBy_85 ?_
        obtain ⟨x7, M7, e7, h⟩ := bd_inv h
        refine v_callS hz (As := [.int ((mI M b2 l4.toNatClampNeg) &&& (4095 : Int32)), .ref l1]) sl_X7_96 (tX7_holds (r + 0) e7) rfl rfl rfl (Nat.le_of_ble_eq_true rfl) ⟨by decide, by decide⟩ dX7_drawsBy_86 ?_
        show V z 89 [some (.ref l0), some (.ref l1), some (.int l2), some (.int l3), some (.int l4), some (.int (l3 &&& (1 : Int32))), some (.int ((mI M b2 l4.toNatClampNeg) &&& (4095 : Int32)))] [.int x7, .int (l3 <<< ((1 : Int32) &&& 31))] M7 0 0
        refine v_ior hz dX7_drawsBy_89 ?_
        refine v_istore_n hz (lw := [some (.ref l0), some (.ref l1), some (.int l2), some (.int ((l3 <<< ((1 : Int32) &&& 31)) ||| x7)), some (.int l4), some (.int (l3 &&& (1 : Int32))), some (.int ((mI M b2 l4.toNatClampNeg) &&& (4095 : Int32)))]) rfl (Nat.le_of_ble_eq_true rfl) rfl rfl dX7_drawsBy_90 ?_
        refine v_goto (tgt := 147) hz dX7_drawsBy_91 (by decide) ?_
        exact v_weak (lvle_s (lvle_s (lvle_s (lvle_s (lvle_s (lvle_n (lvle_n lvle_0))))))) (wX7_drawsBy_147 hz  (fun h => ih h) h)
      replace h := (if_neg hs6_0).symm.trans h
      by_cases hs6_1 : ((mI M b2 l4.toNatClampNeg) >>> ((12 : Int32) &&& 31)) = (1 : Int32)
      · replace h := (if_pos hs6_1).symm.trans h
        refine v_tableAt (tgt := 94) hz hs6_1 dX7_drawsBy_44 (by decide) (by decide) (by decide) (by decide) ?_
        refine v_iload_n hz rfl rfl dX7_drawsBy_94 ?_
        refine v_iconst hz (v := (1 : Int32)) (by decide) dX7_drawsBy_95 ?_
        refine v_ixor hz dX7_drawsBy_96 ?_
        refine v_istore_n hz (lw := [some (.ref l0), some (.ref l1), some (.int l2), some (.int (l3 ^^^ (1 : Int32))), some (.int l4), some (.int (l3 &&& (1 : Int32))), some (.int ((mI M b2 l4.toNatClampNeg) &&& (4095 : Int32)))]) rfl (Nat.le_of_ble_eq_true rfl) rfl rfl dX7_drawsBy_97 ?_
        refine v_goto (tgt := 147) hz dX7_drawsBy_98 (by decide) ?_
        exact v_weak (lvle_s (lvle_s (lvle_s (lvle_s (lvle_s (lvle_n (lvle_n lvle_0))))))) (wX7_drawsBy_147 hz  (fun h => ih h) h)
      replace h := (if_neg hs6_1).symm.trans h
      by_cases hs6_2 : ((mI M b2 l4.toNatClampNeg) >>> ((12 : Int32) &&& 31)) = (2 : Int32)
      · replace h := (if_pos hs6_2).symm.trans h
        refine v_tableAt (tgt := 101) hz hs6_2 dX7_drawsBy_44 (by decide) (by decide) (by decide) (by decide) ?_
        refine v_iload_n hz rfl rfl dX7_drawsBy_101 ?_
        refine v_iconst hz (v := (1 : Int32)) (by decide) dX7_drawsBy_102 ?_
        refine v_ishr hz dX7_drawsBy_103 ?_
        refine v_bipush hz (v := (-2 : Int32)) (by decide) dX7_drawsBy_104 ?_
        refine v_iload hz rfl dX7_drawsBy_106 ?_
        refine v_ior hz dX7_drawsBy_108 ?_
        refine v_iand hz dX7_drawsBy_109 ?_
        refine v_istore_n hz (lw := [some (.ref l0), some (.ref l1), some (.int l2), some (.int ((l3 >>> ((1 : Int32) &&& 31)) &&& ((-2 : Int32) ||| (l3 &&& (1 : Int32))))), some (.int l4), some (.int (l3 &&& (1 : Int32))), some (.int ((mI M b2 l4.toNatClampNeg) &&& (4095 : Int32)))]) rfl (Nat.le_of_ble_eq_true rfl) rfl rfl dX7_drawsBy_110 ?_
        refine v_goto (tgt := 147) hz dX7_drawsBy_111 (by decide) ?_
        exact v_weak (lvle_s (lvle_s (lvle_s (lvle_s (lvle_s (lvle_n (lvle_n lvle_0))))))) (wX7_drawsBy_147 hz  (fun h => ih h) h)
      replace h := (if_neg hs6_2).symm.trans h
      by_cases hs6_3 : ((mI M b2 l4.toNatClampNeg) >>> ((12 : Int32) &&& 31)) = (3 : Int32)
      · replace h := (if_pos hs6_3).symm.trans h
        refine v_tableAt (tgt := 114) hz hs6_3 dX7_drawsBy_44 (by decide) (by decide) (by decide) (by decide) ?_
        refine v_iload_n hz rfl rfl dX7_drawsBy_114 ?_
        refine v_iconst hz (v := (1 : Int32)) (by decide) dX7_drawsBy_115 ?_
        refine v_ishr hz dX7_drawsBy_116 ?_
        refine v_iload hz rfl dX7_drawsBy_117 ?_
        refine v_ior hz dX7_drawsBy_119 ?_
        refine v_istore_n hz (lw := [some (.ref l0), some (.ref l1), some (.int l2), some (.int ((l3 >>> ((1 : Int32) &&& 31)) ||| (l3 &&& (1 : Int32)))), some (.int l4), some (.int (l3 &&& (1 : Int32))), some (.int ((mI M b2 l4.toNatClampNeg) &&& (4095 : Int32)))]) rfl (Nat.le_of_ble_eq_true rfl) rfl rfl dX7_drawsBy_120 ?_
        refine v_goto (tgt := 147) hz dX7_drawsBy_121 (by decide) ?_
        exact v_weak (lvle_s (lvle_s (lvle_s (lvle_s (lvle_s (lvle_n (lvle_n lvle_0))))))) (wX7_drawsBy_147 hz  (fun h => ih h) h)
      replace h := (if_neg hs6_3).symm.trans h
      by_cases hs6_4 : ((mI M b2 l4.toNatClampNeg) >>> ((12 : Int32) &&& 31)) = (4 : Int32)
      · replace h := (if_pos hs6_4).symm.trans h
        refine v_tableAt (tgt := 124) hz hs6_4 dX7_drawsBy_44 (by decide) (by decide) (by decide) (by decide) ?_
        refine v_iload_n hz rfl rfl dX7_drawsBy_124 ?_
        refine v_iload hz rfl dX7_drawsBy_125 ?_
        refine v_iload hz rfl dX7_drawsBy_127 ?_
        refine v_imul hz dX7_drawsBy_129 ?_
        refine v_iadd hz dX7_drawsBy_130 ?_
        refine v_istore_n hz (lw := [some (.ref l0), some (.ref l1), some (.int (l2 + ((l3 &&& (1 : Int32)) * ((mI M b2 l4.toNatClampNeg) &&& (4095 : Int32))))), some (.int l3), some (.int l4), some (.int (l3 &&& (1 : Int32))), some (.int ((mI M b2 l4.toNatClampNeg) &&& (4095 : Int32)))]) rfl (Nat.le_of_ble_eq_true rfl) rfl rfl dX7_drawsBy_131 ?_
        refine v_iconst hz (v := (0 : Int32)) (by decide) dX7_drawsBy_132 ?_
        refine v_istore_n hz (lw := [some (.ref l0), some (.ref l1), some (.int (l2 + ((l3 &&& (1 : Int32)) * ((mI M b2 l4.toNatClampNeg) &&& (4095 : Int32))))), some (.int (0 : Int32)), some (.int l4), some (.int (l3 &&& (1 : Int32))), some (.int ((mI M b2 l4.toNatClampNeg) &&& (4095 : Int32)))]) rfl (Nat.le_of_ble_eq_true rfl) rfl rfl dX7_drawsBy_133 ?_
        refine v_goto (tgt := 147) hz dX7_drawsBy_134 (by decide) ?_
        exact v_weak (lvle_s (lvle_s (lvle_s (lvle_s (lvle_s (lvle_n (lvle_n lvle_0))))))) (wX7_drawsBy_147 hz  (fun h => ih h) h)
      replace h := (if_neg hs6_4).symm.trans h
      refine v_tableOut (tgt := 137) hz dX7_drawsBy_44 (by have q0 := lv_neT hs6_0 (show ((0 : Int32)).toInt = 0 by decide); have q1 := lv_neT hs6_1 (show ((1 : Int32)).toInt = 1 by decide); have q2 := lv_neT hs6_2 (show ((2 : Int32)).toInt = 2 by decide); have q3 := lv_neT hs6_3 (show ((3 : Int32)).toInt = 3 by decide); have q4 := lv_neT hs6_4 (show ((4 : Int32)).toInt = 4 by decide); omega) (by decide) ?_
      refine v_iload_n hz rfl rfl dX7_drawsBy_137 ?_
      refine v_iload hz rfl dX7_drawsBy_138 ?_
      refine v_iload hz rfl dX7_drawsBy_140 ?_
      refine v_imul hz dX7_drawsBy_142 ?_
      refine v_isub hz dX7_drawsBy_143 ?_
      refine v_istore_n hz (lw := [some (.ref l0), some (.ref l1), some (.int (l2 - ((l3 &&& (1 : Int32)) * ((mI M b2 l4.toNatClampNeg) &&& (4095 : Int32))))), some (.int l3), some (.int l4), some (.int (l3 &&& (1 : Int32))), some (.int ((mI M b2 l4.toNatClampNeg) &&& (4095 : Int32)))]) rfl (Nat.le_of_ble_eq_true rfl) rfl rfl dX7_drawsBy_144 ?_
      refine v_iconst hz (v := (0 : Int32)) (by decide) dX7_drawsBy_145 ?_
      refine v_istore_n hz (lw := [some (.ref l0), some (.ref l1), some (.int (l2 - ((l3 &&& (1 : Int32)) * ((mI M b2 l4.toNatClampNeg) &&& (4095 : Int32))))), some (.int (0 : Int32)), some (.int l4), some (.int (l3 &&& (1 : Int32))), some (.int ((mI M b2 l4.toNatClampNeg) &&& (4095 : Int32)))]) rfl (Nat.le_of_ble_eq_true rfl) rfl rfl dX7_drawsBy_146 ?_
      exact v_weak (lvle_s (lvle_s (lvle_s (lvle_s (lvle_s (lvle_n (lvle_n lvle_0))))))) (wX7_drawsBy_147 hz  (fun h => ih h) h)
set_option maxRecDepth 100000 in
set_option maxHeartbeats 4000000 in
theorem tX7_drawsBy (r : Nat) {fx : Fx} {al : Bool} {M N : Mem} {a0 : Nat} {a1 : Nat} {xr : Int32}  (h : fX7_drawsBy M a0 a1 = some (xr, N)) : Ct fx yX7_drawsBy cX7_drawsBy 7 (some .int) (r + 1) 0 0 al [.ref a0, .ref a1] M (some (.int xr)) N := by
  refine ct_of (lv := [some (.ref a0), some (.ref a1), none, none, none, none, none]) (by decide) (Nat.le_of_ble_eq_true rfl) rfl rfl (fun z hz => ?_)
  unfold fX7_drawsBy at h
  refine v_iconst hz (v := (0 : Int32)) (by decide) dX7_drawsBy_0 ?_
  refine v_istore_n hz (lw := [some (.ref a0), some (.ref a1), some (.int (0 : Int32)), none, none, none, none]) rfl (Nat.le_of_ble_eq_true rfl) rfl rfl dX7_drawsBy_1 ?_
  refine v_iconst hz (v := (0 : Int32)) (by decide) dX7_drawsBy_2 ?_
  refine v_istore_n hz (lw := [some (.ref a0), some (.ref a1), some (.int (0 : Int32)), some (.int (0 : Int32)), none, none, none]) rfl (Nat.le_of_ble_eq_true rfl) rfl rfl dX7_drawsBy_3 ?_
  refine v_iconst hz (v := (0 : Int32)) (by decide) dX7_drawsBy_4 ?_
  refine v_istore hz (lw := [some (.ref a0), some (.ref a1), some (.int (0 : Int32)), some (.int (0 : Int32)), some (.int (0 : Int32)), none, none]) (Nat.le_of_ble_eq_true rfl) rfl rfl dX7_drawsBy_5 ?_
  exact v_weak (lvle_s (lvle_s (lvle_s (lvle_s (lvle_s (lvle_n (lvle_n lvle_0))))))) (wX7_drawsBy_7 hz   h)
def fX6_pullBy (M : Mem) (a0 : Nat) (a1 : Int32) (a2 : Nat) (a3 : Int32) (a4 : Int32) : Option (Int32 × Mem) :=
  some ((-a1), M)
set_option maxRecDepth 100000 in
set_option maxHeartbeats 4000000 in
theorem tX6_pullBy (r : Nat) {fx : Fx} {al : Bool} {M N : Mem} {a0 : Nat} {a1 : Int32} {a2 : Nat} {a3 : Int32} {a4 : Int32} {xr : Int32}  (h : fX6_pullBy M a0 a1 a2 a3 a4 = some (xr, N)) : Ct fx yX6_pullBy cX6_pullBy 5 (some .int) (r + 0) 0 0 al [.ref a0, .int a1, .ref a2, .int a3, .int a4] M (some (.int xr)) N := by
  refine ct_of (lv := [some (.ref a0), some (.int a1), some (.ref a2), some (.int a3), some (.int a4)]) (by decide) (Nat.le_of_ble_eq_true rfl) rfl rfl (fun z hz => ?_)
  unfold fX6_pullBy at h
  refine v_iload_n hz rfl rfl dX6_pullBy_0 ?_
  refine v_ineg hz dX6_pullBy_1 ?_
  cases h
  exact v_iret hz dX6_pullBy_2 (by decide) (by decide)
