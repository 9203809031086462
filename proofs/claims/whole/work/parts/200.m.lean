noncomputable def fX10_init (M : Mem) (a0 : Nat) : Option (Unit × Mem) :=
  some ((), M)
set_option maxRecDepth 100000 in
set_option maxHeartbeats 4000000 in
theorem tX10_init (r : Nat) {fx : Fx} {al : Bool} {M N : Mem} {a0 : Nat}  (h : fX10_init M a0 = some ((), N)) : Ct fx yX10_init cX10_init 1 none (r + 1) 0 0 al [.ref a0] M none N := by
  refine ct_of (lv := [some (.ref a0)]) (by decide) (Nat.le_of_ble_eq_true rfl) rfl rfl (fun z hz => ?_)
  unfold fX10_init at h
  refine v_aload_n hz rfl rfl dX10_init_0 ?_
  refine v_objInit hz wq_160 wq_77 wq_78 rfl rfl dX10_init_1 ?_
  obtain ⟨-, rfl⟩ := sp_inv h
  exact v_vret hz dX10_init_4 (by decide) (by decide)
noncomputable def fX6_init (M : Mem) (a0 : Nat) : Option (Unit × Mem) :=
  bd (fX10_init M a0) fun x1 M1 => some ((), M1)
set_option maxRecDepth 100000 in
set_option maxHeartbeats 4000000 in
theorem tX6_init (r : Nat) {fx : Fx} {al : Bool} {M N : Mem} {a0 : Nat}  (h : fX6_init M a0 = some ((), N)) : Ct fx yX6_init cX6_init 1 none (r + 2) 0 0 al [.ref a0] M none N := by
  refine ct_of (lv := [some (.ref a0)]) (by decide) (Nat.le_of_ble_eq_true rfl) rfl rfl (fun z hz => ?_)
  unfold fX6_init at h
  refine v_aload_n hz rfl rfl dX6_init_0 ?_
  obtain ⟨x1, M1, e1, h⟩ := bd_inv h
  refine v_callIN hz (As := []) nl_X6_1 rfl (tX10_init (r + 0) e1) rfl rfl rfl (Nat.le_of_ble_eq_true rfl) ⟨by decide, by decide⟩ dX6_init_1 ?_
  show V z 4 [some (.ref a0)] [] M1 0 0
  obtain ⟨-, rfl⟩ := sp_inv h
  exact v_vret hz dX6_init_4 (by decide) (by decide)
noncomputable def fX0_init (M : Mem) (a0 : Nat) : Option (Unit × Mem) :=
  bd (fX6_init M a0) fun x1 M1 => some ((), M1)
set_option maxRecDepth 100000 in
set_option maxHeartbeats 4000000 in
theorem tX0_init (r : Nat) {fx : Fx} {al : Bool} {M N : Mem} {a0 : Nat}  (h : fX0_init M a0 = some ((), N)) : Ct fx yX0_init cX0_init 1 none (r + 3) 0 0 al [.ref a0] M none N := by
  refine ct_of (lv := [some (.ref a0)]) (by decide) (Nat.le_of_ble_eq_true rfl) rfl rfl (fun z hz => ?_)
  unfold fX0_init at h
  refine v_aload_n hz rfl rfl dX0_init_0 ?_
  obtain ⟨x1, M1, e1, h⟩ := bd_inv h
  refine v_callIN hz (As := []) nl_X0_1 rfl (tX6_init (r + 0) e1) rfl rfl rfl (Nat.le_of_ble_eq_true rfl) ⟨by decide, by decide⟩ dX0_init_1 ?_
  show V z 4 [some (.ref a0)] [] M1 0 0
  obtain ⟨-, rfl⟩ := sp_inv h
  exact v_vret hz dX0_init_4 (by decide) (by decide)
noncomputable def fX0_tread (M : Mem) (a0 : Nat) : Option (Int32 × Mem) :=
  some ((2 : Int32), M)
set_option maxRecDepth 100000 in
set_option maxHeartbeats 4000000 in
theorem tX0_tread (r : Nat) {fx : Fx} {al : Bool} {M N : Mem} {a0 : Nat} {xr : Int32}  (h : fX0_tread M a0 = some (xr, N)) : Ct fx yX0_tread cX0_tread 1 (some .int) (r + 0) 0 0 al [.ref a0] M (some (.int xr)) N := by
  refine ct_of (lv := [some (.ref a0)]) (by decide) (Nat.le_of_ble_eq_true rfl) rfl rfl (fun z hz => ?_)
  unfold fX0_tread at h
  refine v_iconst hz (v := (2 : Int32)) (by decide) dX0_tread_0 ?_
  obtain ⟨rfl, rfl⟩ := sp_inv h
  exact v_iret hz dX0_tread_1 (by decide) (by decide)
noncomputable def fX6_pullBy (M : Mem) (a0 : Nat) (a1 : Int32) (a2 : Nat) (a3 : Int32) (a4 : Int32) : Option (Int32 × Mem) :=
  some ((-a1), M)
set_option maxRecDepth 100000 in
set_option maxHeartbeats 4000000 in
theorem tX6_pullBy (r : Nat) {fx : Fx} {al : Bool} {M N : Mem} {a0 : Nat} {a1 : Int32} {a2 : Nat} {a3 : Int32} {a4 : Int32} {xr : Int32}  (h : fX6_pullBy M a0 a1 a2 a3 a4 = some (xr, N)) : Ct fx yX6_pullBy cX6_pullBy 5 (some .int) (r + 0) 0 0 al [.ref a0, .int a1, .ref a2, .int a3, .int a4] M (some (.int xr)) N := by
  refine ct_of (lv := [some (.ref a0), some (.int a1), some (.ref a2), some (.int a3), some (.int a4)]) (by decide) (Nat.le_of_ble_eq_true rfl) rfl rfl (fun z hz => ?_)
  unfold fX6_pullBy at h
  refine v_iload_n hz rfl rfl dX6_pullBy_0 ?_
  refine v_ineg hz dX6_pullBy_1 ?_
  obtain ⟨rfl, rfl⟩ := sp_inv h
  exact v_iret hz dX6_pullBy_2 (by decide) (by decide)
noncomputable def fX11_nextTo (M : Mem) (a0 : Int32) (a1 : Int32) : Option (Int32 × Mem) :=
  if a1 = (0 : Int32) then (if a0 < (5 : Int32) then (some ((-1 : Int32), M)) else (some ((a0 - (5 : Int32)), M))) else if a1 = (1 : Int32) then (if (4 : Int32) ≤ (a0 - a0 / (5 : Int32) * (5 : Int32)) then (some ((-1 : Int32), M)) else (some ((a0 + (1 : Int32)), M))) else if a1 = (2 : Int32) then (if (20 : Int32) ≤ a0 then (some ((-1 : Int32), M)) else (some ((a0 + (5 : Int32)), M))) else (if (a0 - a0 / (5 : Int32) * (5 : Int32)) ≤ 0 then (some ((-1 : Int32), M)) else (some ((a0 - (1 : Int32)), M)))
set_option maxRecDepth 100000 in
set_option maxHeartbeats 4000000 in
theorem tX11_nextTo (r : Nat) {fx : Fx} {al : Bool} {M N : Mem} {a0 : Int32} {a1 : Int32} {xr : Int32}  (h : fX11_nextTo M a0 a1 = some (xr, N)) : Ct fx yX11_nextTo cX11_nextTo 2 (some .int) (r + 0) 0 0 al [.int a0, .int a1] M (some (.int xr)) N := by
  refine ct_of (lv := [some (.int a0), some (.int a1)]) (by decide) (Nat.le_of_ble_eq_true rfl) rfl rfl (fun z hz => ?_)
  unfold fX11_nextTo at h
  refine v_iload_n hz rfl rfl dX11_nextTo_0 ?_
  by_cases hs1_0 : a1 = (0 : Int32)
  · replace h := (if_pos hs1_0).symm.trans h
    refine v_tableAt (tgt := 28) hz hs1_0 dX11_nextTo_1 (by decide) (by decide) (by decide) (by decide) ?_
    refine v_iload_n hz rfl rfl dX11_nextTo_28 ?_
    refine v_iconst hz (v := (5 : Int32)) (by decide) dX11_nextTo_29 ?_
    refine v_icmp_lt (tgt := 39) hz dX11_nextTo_30 (by decide) (fun hc => ?_) (fun hc => ?_)
    · replace h := (if_pos hc).symm.trans h
      refine v_iconst hz (v := (-1 : Int32)) (by decide) dX11_nextTo_39 ?_
      obtain ⟨rfl, rfl⟩ := sp_inv h
      exact v_iret hz dX11_nextTo_40 (by decide) (by decide)
    · replace h := (if_neg hc).symm.trans h
      refine v_iload_n hz rfl rfl dX11_nextTo_33 ?_
      refine v_iconst hz (v := (5 : Int32)) (by decide) dX11_nextTo_34 ?_
      refine v_isub hz dX11_nextTo_35 ?_
      refine v_goto (tgt := 40) hz dX11_nextTo_36 (by decide) ?_
      obtain ⟨rfl, rfl⟩ := sp_inv h
      exact v_iret hz dX11_nextTo_40 (by decide) (by decide)
  replace h := (if_neg hs1_0).symm.trans h
  by_cases hs1_1 : a1 = (1 : Int32)
  · replace h := (if_pos hs1_1).symm.trans h
    refine v_tableAt (tgt := 41) hz hs1_1 dX11_nextTo_1 (by decide) (by decide) (by decide) (by decide) ?_
    refine v_iload_n hz rfl rfl dX11_nextTo_41 ?_
    refine v_iconst hz (v := (5 : Int32)) (by decide) dX11_nextTo_42 ?_
    refine v_irem hz (by decide) dX11_nextTo_43 ?_
    refine v_iconst hz (v := (4 : Int32)) (by decide) dX11_nextTo_44 ?_
    refine v_icmp_ge (tgt := 54) hz dX11_nextTo_45 (by decide) (fun hc => ?_) (fun hc => ?_)
    · replace h := (if_pos hc).symm.trans h
      refine v_iconst hz (v := (-1 : Int32)) (by decide) dX11_nextTo_54 ?_
      obtain ⟨rfl, rfl⟩ := sp_inv h
      exact v_iret hz dX11_nextTo_55 (by decide) (by decide)
    · replace h := (if_neg hc).symm.trans h
      refine v_iload_n hz rfl rfl dX11_nextTo_48 ?_
      refine v_iconst hz (v := (1 : Int32)) (by decide) dX11_nextTo_49 ?_
      refine v_iadd hz dX11_nextTo_50 ?_
      refine v_goto (tgt := 55) hz dX11_nextTo_51 (by decide) ?_
      obtain ⟨rfl, rfl⟩ := sp_inv h
      exact v_iret hz dX11_nextTo_55 (by decide) (by decide)
  replace h := (if_neg hs1_1).symm.trans h
  by_cases hs1_2 : a1 = (2 : Int32)
  · replace h := (if_pos hs1_2).symm.trans h
    refine v_tableAt (tgt := 56) hz hs1_2 dX11_nextTo_1 (by decide) (by decide) (by decide) (by decide) ?_
    refine v_iload_n hz rfl rfl dX11_nextTo_56 ?_
    refine v_bipush hz (v := (20 : Int32)) (by decide) dX11_nextTo_57 ?_
    refine v_icmp_ge (tgt := 68) hz dX11_nextTo_59 (by decide) (fun hc => ?_) (fun hc => ?_)
    · replace h := (if_pos hc).symm.trans h
      refine v_iconst hz (v := (-1 : Int32)) (by decide) dX11_nextTo_68 ?_
      obtain ⟨rfl, rfl⟩ := sp_inv h
      exact v_iret hz dX11_nextTo_69 (by decide) (by decide)
    · replace h := (if_neg hc).symm.trans h
      refine v_iload_n hz rfl rfl dX11_nextTo_62 ?_
      refine v_iconst hz (v := (5 : Int32)) (by decide) dX11_nextTo_63 ?_
      refine v_iadd hz dX11_nextTo_64 ?_
      refine v_goto (tgt := 69) hz dX11_nextTo_65 (by decide) ?_
      obtain ⟨rfl, rfl⟩ := sp_inv h
      exact v_iret hz dX11_nextTo_69 (by decide) (by decide)
  replace h := (if_neg hs1_2).symm.trans h
  refine v_tableOut (tgt := 70) hz dX11_nextTo_1 (by have q0 := lv_neT hs1_0 (show ((0 : Int32)).toInt = 0 by decide); have q1 := lv_neT hs1_1 (show ((1 : Int32)).toInt = 1 by decide); have q2 := lv_neT hs1_2 (show ((2 : Int32)).toInt = 2 by decide); omega) (by decide) ?_
  refine v_iload_n hz rfl rfl dX11_nextTo_70 ?_
  refine v_iconst hz (v := (5 : Int32)) (by decide) dX11_nextTo_71 ?_
  refine v_irem hz (by decide) dX11_nextTo_72 ?_
  refine v_if_le (tgt := 82) hz dX11_nextTo_73 (by decide) (fun hc => ?_) (fun hc => ?_)
  · replace h := (if_pos hc).symm.trans h
    refine v_iconst hz (v := (-1 : Int32)) (by decide) dX11_nextTo_82 ?_
    obtain ⟨rfl, rfl⟩ := sp_inv h
    exact v_iret hz dX11_nextTo_83 (by decide) (by decide)
  · replace h := (if_neg hc).symm.trans h
    refine v_iload_n hz rfl rfl dX11_nextTo_76 ?_
    refine v_iconst hz (v := (1 : Int32)) (by decide) dX11_nextTo_77 ?_
    refine v_isub hz dX11_nextTo_78 ?_
    refine v_goto (tgt := 83) hz dX11_nextTo_79 (by decide) ?_
    obtain ⟨rfl, rfl⟩ := sp_inv h
    exact v_iret hz dX11_nextTo_83 (by decide) (by decide)
noncomputable def fX0_pullBy (M : Mem) (a0 : Nat) (a1 : Int32) (a2 : Nat) (a3 : Int32) (a4 : Int32) : Option (Int32 × Mem) :=
  bd (fX6_pullBy M a0 a1 a2 a3 a4) fun x1 M1 => ck (isW M a0) <| ck (isK M1 a2 3) <| rb (mR M1 a2 7) fun b4 => ck (isK M1 b4 14) <| ck (inb a3 (mG M1 b4)) <| bd (fX11_nextTo M1 (mI M1 b4 a3.toNatClampNeg) (1 : Int32)) fun x7 M7 => if a4 = x7 then (some ((x1 + (20 : Int32)), M7)) else (some (x1, M7))
set_option maxRecDepth 100000 in
set_option maxHeartbeats 4000000 in
theorem tX0_pullBy (r : Nat) {fx : Fx} {al : Bool} {M N : Mem} {a0 : Nat} {a1 : Int32} {a2 : Nat} {a3 : Int32} {a4 : Int32} {xr : Int32}  (h : fX0_pullBy M a0 a1 a2 a3 a4 = some (xr, N)) : Ct fx yX0_pullBy cX0_pullBy 6 (some .int) (r + 1) 0 0 al [.ref a0, .int a1, .ref a2, .int a3, .int a4] M (some (.int xr)) N := by
  refine ct_of (lv := [some (.ref a0), some (.int a1), some (.ref a2), some (.int a3), some (.int a4), none]) (by decide) (Nat.le_of_ble_eq_true rfl) rfl rfl (fun z hz => ?_)
  unfold fX0_pullBy at h
  refine v_aload_n hz rfl rfl dX0_pullBy_0 ?_
  refine v_iload_n hz rfl rfl dX0_pullBy_1 ?_
  refine v_aload_n hz rfl rfl dX0_pullBy_2 ?_
  refine v_iload_n hz rfl rfl dX0_pullBy_3 ?_
  refine v_iload hz rfl dX0_pullBy_4 ?_
  obtain ⟨x1, M1, e1, h⟩ := bd_inv h
  obtain ⟨g2, h⟩ := ck_inv h
  refine v_callSUw hz (As := [.int a1, .ref a2, .int a3, .int a4]) upl_X0_7 (tX6_pullBy (r + 0) e1) g2 rfl rfl rfl (Nat.le_of_ble_eq_true rfl) ⟨by decide, by decide⟩ dX0_pullBy_6 ?_
  show V z 9 [some (.ref a0), some (.int a1), some (.ref a2), some (.int a3), some (.int a4), none] [.int x1] M1 0 0
  refine v_istore hz (lw := [some (.ref a0), some (.int a1), some (.ref a2), some (.int a3), some (.int a4), some (.int x1)]) (Nat.le_of_ble_eq_true rfl) rfl rfl dX0_pullBy_9 ?_
  refine v_iload hz rfl dX0_pullBy_11 ?_
  refine v_aload_n hz rfl rfl dX0_pullBy_13 ?_
  obtain ⟨ck3, h⟩ := ck_inv h
  obtain ⟨ka3, kb3⟩ := isK_of ck3
  obtain ⟨b4, r4, h⟩ := rb_inv h
  refine v_getR hz fl_X0_11 rfl dX0_pullBy_14 ka3 kb3 r4 ?_
  refine v_iload_n hz rfl rfl dX0_pullBy_17 ?_
  obtain ⟨ck5, h⟩ := ck_inv h
  obtain ⟨ka5, kb5⟩ := isK_of ck5
  obtain ⟨g6, h⟩ := ck_inv h
  refine v_iaload hz dX0_pullBy_18 ka5 kb5 g6 ?_
  refine v_iconst hz (v := (1 : Int32)) (by decide) dX0_pullBy_19 ?_
  obtain ⟨x7, M7, e7, h⟩ := bd_inv h
  refine v_callSN hz (As := [.int (mI M1 b4 a3.toNatClampNeg), .int (1 : Int32)]) nl_X0_17 (tX11_nextTo (r + 0) e7) rfl rfl rfl (Nat.le_of_ble_eq_true rfl) ⟨by decide, by decide⟩ dX0_pullBy_20 ?_
  show V z 23 [some (.ref a0), some (.int a1), some (.ref a2), some (.int a3), some (.int a4), some (.int x1)] [.int x7, .int a4] M7 0 0
  refine v_icmp_ne (tgt := 34) hz dX0_pullBy_23 (by decide) (fun hc => ?_) (fun hc => ?_)
  · replace h := (if_neg hc).symm.trans h
    refine v_iload hz rfl dX0_pullBy_34 ?_
    obtain ⟨rfl, rfl⟩ := sp_inv h
    exact v_iret hz dX0_pullBy_36 (by decide) (by decide)
  · replace h := (if_pos hc).symm.trans h
    refine v_iload hz rfl dX0_pullBy_26 ?_
    refine v_bipush hz (v := (20 : Int32)) (by decide) dX0_pullBy_28 ?_
    refine v_iadd hz dX0_pullBy_30 ?_
    refine v_goto (tgt := 36) hz dX0_pullBy_31 (by decide) ?_
    obtain ⟨rfl, rfl⟩ := sp_inv h
    exact v_iret hz dX0_pullBy_36 (by decide) (by decide)
noncomputable def gX1_begin_19  (M : Mem) (l0 : Nat) : Option (Unit × Mem) :=
  ck (isK M l0 1) <| some ((), (stI M l0 2 ((mI M l0 2) + (1 : Int32))))
noncomputable def fX1_begin (M : Mem) (a0 : Nat) (a1 : Int32) : Option (Unit × Mem) :=
  ck (isK M a0 1) <| if (20 : Int32) ≤ (mI M a0 2) then (gX1_begin_19 M a0) else (rb (mR M a0 3) fun b3 => ck (isK M b3 14) <| ck (inb (mI M a0 2) (mG M b3)) <| gX1_begin_19 (stI M b3 (mI M a0 2).toNatClampNeg a1) a0)
set_option maxRecDepth 100000 in
set_option maxHeartbeats 4000000 in
theorem wX1_begin_19 {z : Zx} {fx : Fx} {al : Bool} {r : Nat} {N : Mem} (hz : Zok z fx al yX1_begin.cls yX1_begin.name cX1_begin none 2 (r + 0) 0 0 none N)    {M : Mem} {l0 : Nat} (h : gX1_begin_19  M l0 = some ((), N)) : V z 19 [some (.ref l0), none] [] M 0 0 := by
  unfold gX1_begin_19 at h
  refine v_aload_n hz rfl rfl dX1_begin_19 ?_
  refine v_dup hz rfl dX1_begin_20 ?_
  obtain ⟨ck2, h⟩ := ck_inv h
  obtain ⟨ka2, kb2⟩ := isK_of ck2
  refine v_getI hz fl_X1_15 rfl dX1_begin_21 ka2 kb2 ?_
  refine v_iconst hz (v := (1 : Int32)) (by decide) dX1_begin_24 ?_
  refine v_iadd hz dX1_begin_25 ?_
  refine v_putI hz fl_X1_15 ft_1_2 (by decide) rfl rfl rfl dX1_begin_26 ka2 kb2 ?_
  obtain ⟨-, rfl⟩ := sp_inv h
  exact v_vret hz dX1_begin_29 (by decide) (by decide)
set_option maxRecDepth 100000 in
set_option maxHeartbeats 4000000 in
theorem tX1_begin (r : Nat) {fx : Fx} {al : Bool} {M N : Mem} {a0 : Nat} {a1 : Int32}  (h : fX1_begin M a0 a1 = some ((), N)) : Ct fx yX1_begin cX1_begin 2 none (r + 0) 0 0 al [.ref a0, .int a1] M none N := by
  refine ct_of (lv := [some (.ref a0), some (.int a1)]) (by decide) (Nat.le_of_ble_eq_true rfl) rfl rfl (fun z hz => ?_)
  unfold fX1_begin at h
  refine v_aload_n hz rfl rfl dX1_begin_0 ?_
  obtain ⟨ck1, h⟩ := ck_inv h
  obtain ⟨ka1, kb1⟩ := isK_of ck1
  refine v_getI hz fl_X1_15 rfl dX1_begin_1 ka1 kb1 ?_
  refine v_bipush hz (v := (20 : Int32)) (by decide) dX1_begin_4 ?_
  refine v_icmp_ge (tgt := 19) hz dX1_begin_6 (by decide) (fun hc => ?_) (fun hc => ?_)
  · replace h := (if_pos hc).symm.trans h
    exact v_weak (lvle_s (lvle_n lvle_0)) (wX1_begin_19 hz   h)
  · replace h := (if_neg hc).symm.trans h
    refine v_aload_n hz rfl rfl dX1_begin_9 ?_
    obtain ⟨b3, r3, h⟩ := rb_inv h
    refine v_getR hz fl_X1_9 rfl dX1_begin_10 ka1 kb1 r3 ?_
    refine v_aload_n hz rfl rfl dX1_begin_13 ?_
    refine v_getI hz fl_X1_15 rfl dX1_begin_14 ka1 kb1 ?_
    refine v_iload_n hz rfl rfl dX1_begin_17 ?_
    obtain ⟨ck4, h⟩ := ck_inv h
    obtain ⟨ka4, kb4⟩ := isK_of ck4
    obtain ⟨g5, h⟩ := ck_inv h
    refine v_iastore hz dX1_begin_18 ka4 kb4 g5 ?_
    exact v_weak (lvle_s (lvle_n lvle_0)) (wX1_begin_19 hz   h)
noncomputable def fX10_bows (M : Mem) (a0 : Nat) (a1 : Nat) (a2 : Int32) : Option (Int32 × Mem) :=
  ck (isK M a1 1) <| bd (fX1_begin M a1 (10 : Int32)) fun x2 M2 => ck (isK M2 a1 1) <| some ((a2 + (mI M2 a1 0)), M2)
set_option maxRecDepth 100000 in
set_option maxHeartbeats 4000000 in
theorem tX10_bows (r : Nat) {fx : Fx} {al : Bool} {M N : Mem} {a0 : Nat} {a1 : Nat} {a2 : Int32} {xr : Int32}  (h : fX10_bows M a0 a1 a2 = some (xr, N)) : Ct fx yX10_bows cX10_bows 3 (some .int) (r + 1) 0 0 al [.ref a0, .ref a1, .int a2] M (some (.int xr)) N := by
  refine ct_of (lv := [some (.ref a0), some (.ref a1), some (.int a2)]) (by decide) (Nat.le_of_ble_eq_true rfl) rfl rfl (fun z hz => ?_)
  unfold fX10_bows at h
  refine v_aload_n hz rfl rfl dX10_bows_0 ?_
  refine v_bipush hz (v := (10 : Int32)) (by decide) dX10_bows_1 ?_
  obtain ⟨ck1, h⟩ := ck_inv h
  obtain ⟨ka1, kb1⟩ := isK_of ck1
  obtain ⟨x2, M2, e2, h⟩ := bd_inv h
  refine v_callV hz (As := [.int (10 : Int32)]) vl_X10_7 (tX1_begin (r + 0) e2) rfl (by decide) ka1 kb1 rfl rfl rfl (Nat.le_of_ble_eq_true rfl) ⟨by decide, by decide⟩ dX10_bows_3 ?_
  show V z 6 [some (.ref a0), some (.ref a1), some (.int a2)] [] M2 0 0
  refine v_iload_n hz rfl rfl dX10_bows_6 ?_
  refine v_aload_n hz rfl rfl dX10_bows_7 ?_
  obtain ⟨ck3, h⟩ := ck_inv h
  obtain ⟨ka3, kb3⟩ := isK_of ck3
  refine v_getI hz fl_X10_13 rfl dX10_bows_8 ka3 kb3 ?_
  refine v_iadd hz dX10_bows_11 ?_
  obtain ⟨rfl, rfl⟩ := sp_inv h
  exact v_iret hz dX10_bows_12 (by decide) (by decide)
noncomputable def fX6_bows (M : Mem) (a0 : Nat) (a1 : Nat) (a2 : Int32) : Option (Int32 × Mem) :=
  ck (isK M a1 1) <| bd (fX1_begin M a1 (30 : Int32)) fun x2 M2 => bd (fX10_bows M2 a0 a1 (a2 * (3 : Int32))) fun x3 M3 => ck (isW M2 a0) <| some (x3, M3)
set_option maxRecDepth 100000 in
set_option maxHeartbeats 4000000 in
theorem tX6_bows (r : Nat) {fx : Fx} {al : Bool} {M N : Mem} {a0 : Nat} {a1 : Nat} {a2 : Int32} {xr : Int32}  (h : fX6_bows M a0 a1 a2 = some (xr, N)) : Ct fx yX6_bows cX6_bows 3 (some .int) (r + 2) 0 0 al [.ref a0, .ref a1, .int a2] M (some (.int xr)) N := by
  refine ct_of (lv := [some (.ref a0), some (.ref a1), some (.int a2)]) (by decide) (Nat.le_of_ble_eq_true rfl) rfl rfl (fun z hz => ?_)
  unfold fX6_bows at h
  refine v_aload_n hz rfl rfl dX6_bows_0 ?_
  refine v_bipush hz (v := (30 : Int32)) (by decide) dX6_bows_1 ?_
  obtain ⟨ck1, h⟩ := ck_inv h
  obtain ⟨ka1, kb1⟩ := isK_of ck1
  obtain ⟨x2, M2, e2, h⟩ := bd_inv h
  refine v_callV hz (As := [.int (30 : Int32)]) vl_X6_7 (tX1_begin (r + 1) e2) rfl (by decide) ka1 kb1 rfl rfl rfl (Nat.le_of_ble_eq_true rfl) ⟨by decide, by decide⟩ dX6_bows_3 ?_
  show V z 6 [some (.ref a0), some (.ref a1), some (.int a2)] [] M2 0 0
  refine v_aload_n hz rfl rfl dX6_bows_6 ?_
  refine v_aload_n hz rfl rfl dX6_bows_7 ?_
  refine v_iload_n hz rfl rfl dX6_bows_8 ?_
  refine v_iconst hz (v := (3 : Int32)) (by decide) dX6_bows_9 ?_
  refine v_imul hz dX6_bows_10 ?_
  obtain ⟨x3, M3, e3, h⟩ := bd_inv h
  obtain ⟨g4, h⟩ := ck_inv h
  refine v_callSUw hz (As := [.ref a1, .int (a2 * (3 : Int32))]) upl_X6_13 (tX10_bows (r + 0) e3) g4 rfl rfl rfl (Nat.le_of_ble_eq_true rfl) ⟨by decide, by decide⟩ dX6_bows_11 ?_
  show V z 14 [some (.ref a0), some (.ref a1), some (.int a2)] [.int x3] M3 0 0
  obtain ⟨rfl, rfl⟩ := sp_inv h
  exact v_iret hz dX6_bows_14 (by decide) (by decide)
noncomputable def fX2_bows (M : Mem) (a0 : Nat) (a1 : Nat) (a2 : Int32) : Option (Int32 × Mem) :=
  ck (isK M a1 1) <| bd (fX1_begin M a1 (50 : Int32)) fun x2 M2 => bd (fX10_bows M2 a0 a1 a2) fun x3 M3 => ck (isW M2 a0) <| some ((-x3), M3)
set_option maxRecDepth 100000 in
set_option maxHeartbeats 4000000 in
theorem tX2_bows (r : Nat) {fx : Fx} {al : Bool} {M N : Mem} {a0 : Nat} {a1 : Nat} {a2 : Int32} {xr : Int32}  (h : fX2_bows M a0 a1 a2 = some (xr, N)) : Ct fx yX2_bows cX2_bows 3 (some .int) (r + 2) 0 0 al [.ref a0, .ref a1, .int a2] M (some (.int xr)) N := by
  refine ct_of (lv := [some (.ref a0), some (.ref a1), some (.int a2)]) (by decide) (Nat.le_of_ble_eq_true rfl) rfl rfl (fun z hz => ?_)
  unfold fX2_bows at h
  refine v_aload_n hz rfl rfl dX2_bows_0 ?_
  refine v_bipush hz (v := (50 : Int32)) (by decide) dX2_bows_1 ?_
  obtain ⟨ck1, h⟩ := ck_inv h
  obtain ⟨ka1, kb1⟩ := isK_of ck1
  obtain ⟨x2, M2, e2, h⟩ := bd_inv h
  refine v_callV hz (As := [.int (50 : Int32)]) vl_X2_13 (tX1_begin (r + 1) e2) rfl (by decide) ka1 kb1 rfl rfl rfl (Nat.le_of_ble_eq_true rfl) ⟨by decide, by decide⟩ dX2_bows_3 ?_
  show V z 6 [some (.ref a0), some (.ref a1), some (.int a2)] [] M2 0 0
  refine v_aload_n hz rfl rfl dX2_bows_6 ?_
  refine v_aload_n hz rfl rfl dX2_bows_7 ?_
  refine v_iload_n hz rfl rfl dX2_bows_8 ?_
  obtain ⟨x3, M3, e3, h⟩ := bd_inv h
  obtain ⟨g4, h⟩ := ck_inv h
  refine v_callSUw hz (As := [.ref a1, .int a2]) upl_X2_19 (tX10_bows (r + 0) e3) g4 rfl rfl rfl (Nat.le_of_ble_eq_true rfl) ⟨by decide, by decide⟩ dX2_bows_9 ?_
  show V z 12 [some (.ref a0), some (.ref a1), some (.int a2)] [.int x3] M3 0 0
  refine v_ineg hz dX2_bows_12 ?_
  obtain ⟨rfl, rfl⟩ := sp_inv h
  exact v_iret hz dX2_bows_13 (by decide) (by decide)
noncomputable def fX8_bows (M : Mem) (a0 : Nat) (a1 : Nat) (a2 : Int32) : Option (Int32 × Mem) :=
  ck (isK M a1 1) <| bd (fX1_begin M a1 (71 : Int32)) fun x2 M2 => bd (fX10_bows M2 a0 a1 a2) fun x3 M3 => ck (isW M2 a0) <| ck (isK M3 a1 1) <| some ((x3 ^^^ (mI M3 a1 1)), M3)
set_option maxRecDepth 100000 in
set_option maxHeartbeats 4000000 in
theorem tX8_bows (r : Nat) {fx : Fx} {al : Bool} {M N : Mem} {a0 : Nat} {a1 : Nat} {a2 : Int32} {xr : Int32}  (h : fX8_bows M a0 a1 a2 = some (xr, N)) : Ct fx yX8_bows cX8_bows 3 (some .int) (r + 2) 0 0 al [.ref a0, .ref a1, .int a2] M (some (.int xr)) N := by
  refine ct_of (lv := [some (.ref a0), some (.ref a1), some (.int a2)]) (by decide) (Nat.le_of_ble_eq_true rfl) rfl rfl (fun z hz => ?_)
  unfold fX8_bows at h
  refine v_aload_n hz rfl rfl dX8_bows_0 ?_
  refine v_bipush hz (v := (71 : Int32)) (by decide) dX8_bows_1 ?_
  obtain ⟨ck1, h⟩ := ck_inv h
  obtain ⟨ka1, kb1⟩ := isK_of ck1
  obtain ⟨x2, M2, e2, h⟩ := bd_inv h
  refine v_callV hz (As := [.int (71 : Int32)]) vl_X8_23 (tX1_begin (r + 1) e2) rfl (by decide) ka1 kb1 rfl rfl rfl (Nat.le_of_ble_eq_true rfl) ⟨by decide, by decide⟩ dX8_bows_3 ?_
  show V z 6 [some (.ref a0), some (.ref a1), some (.int a2)] [] M2 0 0
  refine v_aload_n hz rfl rfl dX8_bows_6 ?_
  refine v_aload_n hz rfl rfl dX8_bows_7 ?_
  refine v_iload_n hz rfl rfl dX8_bows_8 ?_
  obtain ⟨x3, M3, e3, h⟩ := bd_inv h
  obtain ⟨g4, h⟩ := ck_inv h
  refine v_callSUw hz (As := [.ref a1, .int a2]) upl_X8_33 (tX10_bows (r + 0) e3) g4 rfl rfl rfl (Nat.le_of_ble_eq_true rfl) ⟨by decide, by decide⟩ dX8_bows_9 ?_
  show V z 12 [some (.ref a0), some (.ref a1), some (.int a2)] [.int x3] M3 0 0
  refine v_aload_n hz rfl rfl dX8_bows_12 ?_
  obtain ⟨ck5, h⟩ := ck_inv h
  obtain ⟨ka5, kb5⟩ := isK_of ck5
  refine v_getI hz fl_X8_36 rfl dX8_bows_13 ka5 kb5 ?_
  refine v_ixor hz dX8_bows_16 ?_
  obtain ⟨rfl, rfl⟩ := sp_inv h
  exact v_iret hz dX8_bows_17 (by decide) (by decide)
noncomputable def vt10_bows (M : Mem) (a0 : Nat) (a1 : Nat) (a2 : Int32) : Option (Int32 × Mem) := ck (decide (a0 < mN M)) <| if mK M a0 = 0 then fX6_bows M a0 a1 a2 else if mK M a0 = 2 then fX2_bows M a0 a1 a2 else if mK M a0 = 4 then fX10_bows M a0 a1 a2 else if mK M a0 = 6 then fX6_bows M a0 a1 a2 else if mK M a0 = 8 then fX8_bows M a0 a1 a2 else if mK M a0 = 9 then fX10_bows M a0 a1 a2 else if mK M a0 = 10 then fX10_bows M a0 a1 a2 else none
noncomputable def fX10_walks (M : Mem) (a0 : Nat) (a1 : Nat) (a2 : Int32) : Option (Int32 × Mem) :=
  ck (isK M a1 1) <| bd (fX1_begin M a1 (11 : Int32)) fun x2 M2 => bd (vt10_bows M2 a0 a1 a2) fun x3 M3 => ck (isK M3 a1 1) <| some ((x3 - (mI M3 a1 1)), M3)
set_option maxRecDepth 100000 in
set_option maxHeartbeats 4000000 in
theorem tX10_walks (r : Nat) {fx : Fx} {al : Bool} {M N : Mem} {a0 : Nat} {a1 : Nat} {a2 : Int32} {xr : Int32}  (h : fX10_walks M a0 a1 a2 = some (xr, N)) : Ct fx yX10_walks cX10_walks 3 (some .int) (r + 3) 0 0 al [.ref a0, .ref a1, .int a2] M (some (.int xr)) N := by
  refine ct_of (lv := [some (.ref a0), some (.ref a1), some (.int a2)]) (by decide) (Nat.le_of_ble_eq_true rfl) rfl rfl (fun z hz => ?_)
  unfold fX10_walks at h
  refine v_aload_n hz rfl rfl dX10_walks_0 ?_
  refine v_bipush hz (v := (11 : Int32)) (by decide) dX10_walks_1 ?_
  obtain ⟨ck1, h⟩ := ck_inv h
  obtain ⟨ka1, kb1⟩ := isK_of ck1
  obtain ⟨x2, M2, e2, h⟩ := bd_inv h
  refine v_callV hz (As := [.int (11 : Int32)]) vl_X10_7 (tX1_begin (r + 2) e2) rfl (by decide) ka1 kb1 rfl rfl rfl (Nat.le_of_ble_eq_true rfl) ⟨by decide, by decide⟩ dX10_walks_3 ?_
  show V z 6 [some (.ref a0), some (.ref a1), some (.int a2)] [] M2 0 0
  refine v_aload_n hz rfl rfl dX10_walks_6 ?_
  refine v_aload_n hz rfl rfl dX10_walks_7 ?_
  refine v_iload_n hz rfl rfl dX10_walks_8 ?_
  obtain ⟨x3, M3, e3, h⟩ := bd_inv h
  have kk3 : V z 12 [some (.ref a0), some (.ref a1), some (.int a2)] [.int x3] M3 0 0 := by
    refine v_aload_n hz rfl rfl dX10_walks_12 ?_
    obtain ⟨ck4, h⟩ := ck_inv h
    obtain ⟨ka4, kb4⟩ := isK_of ck4
    refine v_getI hz fl_X10_23 rfl dX10_walks_13 ka4 kb4 ?_
    refine v_isub hz dX10_walks_16 ?_
    obtain ⟨rfl, rfl⟩ := sp_inv h
    exact v_iret hz dX10_walks_17 (by decide) (by decide)
  obtain ⟨gq3, e3⟩ := ck_inv e3
  replace gq3 := of_decide_eq_true gq3
  by_cases hq3 : mK M2 a0 = 0
  · replace e3 := (if_pos hq3).symm.trans e3
    exact v_callU hz (As := [.ref a1, .int a2]) ul_X10_17_X0 (tX6_bows (r + 0) e3) rfl (by decide) gq3 hq3 rfl rfl rfl (Nat.le_of_ble_eq_true rfl) ⟨by decide, by decide⟩ dX10_walks_9 kk3
  replace e3 := (if_neg hq3).symm.trans e3
  by_cases hq3 : mK M2 a0 = 2
  · replace e3 := (if_pos hq3).symm.trans e3
    exact v_callU hz (As := [.ref a1, .int a2]) ul_X10_17_X2 (tX2_bows (r + 0) e3) rfl (by decide) gq3 hq3 rfl rfl rfl (Nat.le_of_ble_eq_true rfl) ⟨by decide, by decide⟩ dX10_walks_9 kk3
  replace e3 := (if_neg hq3).symm.trans e3
  by_cases hq3 : mK M2 a0 = 4
  · replace e3 := (if_pos hq3).symm.trans e3
    exact v_callU hz (As := [.ref a1, .int a2]) ul_X10_17_X4 (tX10_bows (r + 1) e3) rfl (by decide) gq3 hq3 rfl rfl rfl (Nat.le_of_ble_eq_true rfl) ⟨by decide, by decide⟩ dX10_walks_9 kk3
  replace e3 := (if_neg hq3).symm.trans e3
  by_cases hq3 : mK M2 a0 = 6
  · replace e3 := (if_pos hq3).symm.trans e3
    exact v_callU hz (As := [.ref a1, .int a2]) ul_X10_17_X6 (tX6_bows (r + 0) e3) rfl (by decide) gq3 hq3 rfl rfl rfl (Nat.le_of_ble_eq_true rfl) ⟨by decide, by decide⟩ dX10_walks_9 kk3
  replace e3 := (if_neg hq3).symm.trans e3
  by_cases hq3 : mK M2 a0 = 8
  · replace e3 := (if_pos hq3).symm.trans e3
    exact v_callU hz (As := [.ref a1, .int a2]) ul_X10_17_X8 (tX8_bows (r + 0) e3) rfl (by decide) gq3 hq3 rfl rfl rfl (Nat.le_of_ble_eq_true rfl) ⟨by decide, by decide⟩ dX10_walks_9 kk3
  replace e3 := (if_neg hq3).symm.trans e3
  by_cases hq3 : mK M2 a0 = 9
  · replace e3 := (if_pos hq3).symm.trans e3
    exact v_callU hz (As := [.ref a1, .int a2]) ul_X10_17_X9 (tX10_bows (r + 1) e3) rfl (by decide) gq3 hq3 rfl rfl rfl (Nat.le_of_ble_eq_true rfl) ⟨by decide, by decide⟩ dX10_walks_9 kk3
  replace e3 := (if_neg hq3).symm.trans e3
  by_cases hq3 : mK M2 a0 = 10
  · replace e3 := (if_pos hq3).symm.trans e3
    exact v_callU hz (As := [.ref a1, .int a2]) ul_X10_17_X10 (tX10_bows (r + 1) e3) rfl (by decide) gq3 hq3 rfl rfl rfl (Nat.le_of_ble_eq_true rfl) ⟨by decide, by decide⟩ dX10_walks_9 kk3
  replace e3 := (if_neg hq3).symm.trans e3
  cases e3
noncomputable def fX9_walks (M : Mem) (a0 : Nat) (a1 : Nat) (a2 : Int32) : Option (Int32 × Mem) :=
  ck (isK M a1 1) <| bd (fX1_begin M a1 (20 : Int32)) fun x2 M2 => bd (fX10_walks M2 a0 a1 a2) fun x3 M3 => ck (isW M2 a0) <| some ((x3 ^^^ (6 : Int32)), M3)
set_option maxRecDepth 100000 in
set_option maxHeartbeats 4000000 in
theorem tX9_walks (r : Nat) {fx : Fx} {al : Bool} {M N : Mem} {a0 : Nat} {a1 : Nat} {a2 : Int32} {xr : Int32}  (h : fX9_walks M a0 a1 a2 = some (xr, N)) : Ct fx yX9_walks cX9_walks 3 (some .int) (r + 4) 0 0 al [.ref a0, .ref a1, .int a2] M (some (.int xr)) N := by
  refine ct_of (lv := [some (.ref a0), some (.ref a1), some (.int a2)]) (by decide) (Nat.le_of_ble_eq_true rfl) rfl rfl (fun z hz => ?_)
  unfold fX9_walks at h
  refine v_aload_n hz rfl rfl dX9_walks_0 ?_
  refine v_bipush hz (v := (20 : Int32)) (by decide) dX9_walks_1 ?_
  obtain ⟨ck1, h⟩ := ck_inv h
  obtain ⟨ka1, kb1⟩ := isK_of ck1
  obtain ⟨x2, M2, e2, h⟩ := bd_inv h
  refine v_callV hz (As := [.int (20 : Int32)]) vl_X9_7 (tX1_begin (r + 3) e2) rfl (by decide) ka1 kb1 rfl rfl rfl (Nat.le_of_ble_eq_true rfl) ⟨by decide, by decide⟩ dX9_walks_3 ?_
  show V z 6 [some (.ref a0), some (.ref a1), some (.int a2)] [] M2 0 0
  refine v_aload_n hz rfl rfl dX9_walks_6 ?_
  refine v_aload_n hz rfl rfl dX9_walks_7 ?_
  refine v_iload_n hz rfl rfl dX9_walks_8 ?_
  obtain ⟨x3, M3, e3, h⟩ := bd_inv h
  obtain ⟨g4, h⟩ := ck_inv h
  refine v_callSUw hz (As := [.ref a1, .int a2]) upl_X9_13 (tX10_walks (r + 0) e3) g4 rfl rfl rfl (Nat.le_of_ble_eq_true rfl) ⟨by decide, by decide⟩ dX9_walks_9 ?_
  show V z 12 [some (.ref a0), some (.ref a1), some (.int a2)] [.int x3] M3 0 0
  refine v_bipush hz (v := (6 : Int32)) (by decide) dX9_walks_12 ?_
  refine v_ixor hz dX9_walks_14 ?_
  obtain ⟨rfl, rfl⟩ := sp_inv h
  exact v_iret hz dX9_walks_15 (by decide) (by decide)
noncomputable def fX2_walks (M : Mem) (a0 : Nat) (a1 : Nat) (a2 : Int32) : Option (Int32 × Mem) :=
  ck (isK M a1 1) <| bd (fX1_begin M a1 (51 : Int32)) fun x2 M2 => bd (fX9_walks M2 a0 a1 (a2 + (1 : Int32))) fun x3 M3 => ck (isW M2 a0) <| some (x3, M3)
set_option maxRecDepth 100000 in
set_option maxHeartbeats 4000000 in
theorem tX2_walks (r : Nat) {fx : Fx} {al : Bool} {M N : Mem} {a0 : Nat} {a1 : Nat} {a2 : Int32} {xr : Int32}  (h : fX2_walks M a0 a1 a2 = some (xr, N)) : Ct fx yX2_walks cX2_walks 3 (some .int) (r + 5) 0 0 al [.ref a0, .ref a1, .int a2] M (some (.int xr)) N := by
  refine ct_of (lv := [some (.ref a0), some (.ref a1), some (.int a2)]) (by decide) (Nat.le_of_ble_eq_true rfl) rfl rfl (fun z hz => ?_)
  unfold fX2_walks at h
  refine v_aload_n hz rfl rfl dX2_walks_0 ?_
  refine v_bipush hz (v := (51 : Int32)) (by decide) dX2_walks_1 ?_
  obtain ⟨ck1, h⟩ := ck_inv h
  obtain ⟨ka1, kb1⟩ := isK_of ck1
  obtain ⟨x2, M2, e2, h⟩ := bd_inv h
  refine v_callV hz (As := [.int (51 : Int32)]) vl_X2_13 (tX1_begin (r + 4) e2) rfl (by decide) ka1 kb1 rfl rfl rfl (Nat.le_of_ble_eq_true rfl) ⟨by decide, by decide⟩ dX2_walks_3 ?_
  show V z 6 [some (.ref a0), some (.ref a1), some (.int a2)] [] M2 0 0
  refine v_aload_n hz rfl rfl dX2_walks_6 ?_
  refine v_aload_n hz rfl rfl dX2_walks_7 ?_
  refine v_iload_n hz rfl rfl dX2_walks_8 ?_
  refine v_iconst hz (v := (1 : Int32)) (by decide) dX2_walks_9 ?_
  refine v_iadd hz dX2_walks_10 ?_
  obtain ⟨x3, M3, e3, h⟩ := bd_inv h
  obtain ⟨g4, h⟩ := ck_inv h
  refine v_callSUw hz (As := [.ref a1, .int (a2 + (1 : Int32))]) upl_X2_23 (tX9_walks (r + 0) e3) g4 rfl rfl rfl (Nat.le_of_ble_eq_true rfl) ⟨by decide, by decide⟩ dX2_walks_11 ?_
  show V z 14 [some (.ref a0), some (.ref a1), some (.int a2)] [.int x3] M3 0 0
  obtain ⟨rfl, rfl⟩ := sp_inv h
  exact v_iret hz dX2_walks_14 (by decide) (by decide)
noncomputable def fX8_walks (M : Mem) (a0 : Nat) (a1 : Nat) (a2 : Int32) : Option (Int32 × Mem) :=
  ck (isK M a1 1) <| bd (fX1_begin M a1 (70 : Int32)) fun x2 M2 => bd (fX10_walks M2 a0 a1 a2) fun x3 M3 => ck (isW M2 a0) <| bd (fX10_bows M3 a0 a1 (2 : Int32)) fun x5 M5 => ck (isW M3 a0) <| some ((x3 + x5), M5)
set_option maxRecDepth 100000 in
set_option maxHeartbeats 4000000 in
theorem tX8_walks (r : Nat) {fx : Fx} {al : Bool} {M N : Mem} {a0 : Nat} {a1 : Nat} {a2 : Int32} {xr : Int32}  (h : fX8_walks M a0 a1 a2 = some (xr, N)) : Ct fx yX8_walks cX8_walks 3 (some .int) (r + 4) 0 0 al [.ref a0, .ref a1, .int a2] M (some (.int xr)) N := by
  refine ct_of (lv := [some (.ref a0), some (.ref a1), some (.int a2)]) (by decide) (Nat.le_of_ble_eq_true rfl) rfl rfl (fun z hz => ?_)
  unfold fX8_walks at h
  refine v_aload_n hz rfl rfl dX8_walks_0 ?_
  refine v_bipush hz (v := (70 : Int32)) (by decide) dX8_walks_1 ?_
  obtain ⟨ck1, h⟩ := ck_inv h
  obtain ⟨ka1, kb1⟩ := isK_of ck1
  obtain ⟨x2, M2, e2, h⟩ := bd_inv h
  refine v_callV hz (As := [.int (70 : Int32)]) vl_X8_23 (tX1_begin (r + 3) e2) rfl (by decide) ka1 kb1 rfl rfl rfl (Nat.le_of_ble_eq_true rfl) ⟨by decide, by decide⟩ dX8_walks_3 ?_
  show V z 6 [some (.ref a0), some (.ref a1), some (.int a2)] [] M2 0 0
  refine v_aload_n hz rfl rfl dX8_walks_6 ?_
  refine v_aload_n hz rfl rfl dX8_walks_7 ?_
  refine v_iload_n hz rfl rfl dX8_walks_8 ?_
  obtain ⟨x3, M3, e3, h⟩ := bd_inv h
  obtain ⟨g4, h⟩ := ck_inv h
  refine v_callSUw hz (As := [.ref a1, .int a2]) upl_X8_29 (tX10_walks (r + 0) e3) g4 rfl rfl rfl (Nat.le_of_ble_eq_true rfl) ⟨by decide, by decide⟩ dX8_walks_9 ?_
  show V z 12 [some (.ref a0), some (.ref a1), some (.int a2)] [.int x3] M3 0 0
  refine v_aload_n hz rfl rfl dX8_walks_12 ?_
  refine v_aload_n hz rfl rfl dX8_walks_13 ?_
  refine v_iconst hz (v := (2 : Int32)) (by decide) dX8_walks_14 ?_
  obtain ⟨x5, M5, e5, h⟩ := bd_inv h
  obtain ⟨g6, h⟩ := ck_inv h
  refine v_callSUw hz (As := [.ref a1, .int (2 : Int32)]) upl_X8_33 (tX10_bows (r + 2) e5) g6 rfl rfl rfl (Nat.le_of_ble_eq_true rfl) ⟨by decide, by decide⟩ dX8_walks_15 ?_
  show V z 18 [some (.ref a0), some (.ref a1), some (.int a2)] [.int x5, .int x3] M5 0 0
  refine v_iadd hz dX8_walks_18 ?_
  obtain ⟨rfl, rfl⟩ := sp_inv h
  exact v_iret hz dX8_walks_19 (by decide) (by decide)
noncomputable def vt10_walks (M : Mem) (a0 : Nat) (a1 : Nat) (a2 : Int32) : Option (Int32 × Mem) := ck (decide (a0 < mN M)) <| if mK M a0 = 0 then fX10_walks M a0 a1 a2 else if mK M a0 = 2 then fX2_walks M a0 a1 a2 else if mK M a0 = 4 then fX10_walks M a0 a1 a2 else if mK M a0 = 6 then fX10_walks M a0 a1 a2 else if mK M a0 = 8 then fX8_walks M a0 a1 a2 else if mK M a0 = 9 then fX9_walks M a0 a1 a2 else if mK M a0 = 10 then fX10_walks M a0 a1 a2 else none
noncomputable def fX10_tells (M : Mem) (a0 : Nat) (a1 : Nat) (a2 : Int32) : Option (Int32 × Mem) :=
  ck (isK M a1 1) <| bd (fX1_begin M a1 (12 : Int32)) fun x2 M2 => bd (vt10_walks M2 a0 a1 a2) fun x3 M3 => some ((x3 * (2 : Int32)), M3)
set_option maxRecDepth 100000 in
set_option maxHeartbeats 4000000 in
theorem tX10_tells (r : Nat) {fx : Fx} {al : Bool} {M N : Mem} {a0 : Nat} {a1 : Nat} {a2 : Int32} {xr : Int32}  (h : fX10_tells M a0 a1 a2 = some (xr, N)) : Ct fx yX10_tells cX10_tells 3 (some .int) (r + 6) 0 0 al [.ref a0, .ref a1, .int a2] M (some (.int xr)) N := by
  refine ct_of (lv := [some (.ref a0), some (.ref a1), some (.int a2)]) (by decide) (Nat.le_of_ble_eq_true rfl) rfl rfl (fun z hz => ?_)
  unfold fX10_tells at h
  refine v_aload_n hz rfl rfl dX10_tells_0 ?_
  refine v_bipush hz (v := (12 : Int32)) (by decide) dX10_tells_1 ?_
  obtain ⟨ck1, h⟩ := ck_inv h
  obtain ⟨ka1, kb1⟩ := isK_of ck1
  obtain ⟨x2, M2, e2, h⟩ := bd_inv h
  refine v_callV hz (As := [.int (12 : Int32)]) vl_X10_7 (tX1_begin (r + 5) e2) rfl (by decide) ka1 kb1 rfl rfl rfl (Nat.le_of_ble_eq_true rfl) ⟨by decide, by decide⟩ dX10_tells_3 ?_
  show V z 6 [some (.ref a0), some (.ref a1), some (.int a2)] [] M2 0 0
  refine v_aload_n hz rfl rfl dX10_tells_6 ?_
  refine v_aload_n hz rfl rfl dX10_tells_7 ?_
  refine v_iload_n hz rfl rfl dX10_tells_8 ?_
  obtain ⟨x3, M3, e3, h⟩ := bd_inv h
  have kk3 : V z 12 [some (.ref a0), some (.ref a1), some (.int a2)] [.int x3] M3 0 0 := by
    refine v_iconst hz (v := (2 : Int32)) (by decide) dX10_tells_12 ?_
    refine v_imul hz dX10_tells_13 ?_
    obtain ⟨rfl, rfl⟩ := sp_inv h
    exact v_iret hz dX10_tells_14 (by decide) (by decide)
  obtain ⟨gq3, e3⟩ := ck_inv e3
  replace gq3 := of_decide_eq_true gq3
  by_cases hq3 : mK M2 a0 = 0
  · replace e3 := (if_pos hq3).symm.trans e3
    exact v_callU hz (As := [.ref a1, .int a2]) ul_X10_26_X0 (tX10_walks (r + 2) e3) rfl (by decide) gq3 hq3 rfl rfl rfl (Nat.le_of_ble_eq_true rfl) ⟨by decide, by decide⟩ dX10_tells_9 kk3
  replace e3 := (if_neg hq3).symm.trans e3
  by_cases hq3 : mK M2 a0 = 2
  · replace e3 := (if_pos hq3).symm.trans e3
    exact v_callU hz (As := [.ref a1, .int a2]) ul_X10_26_X2 (tX2_walks (r + 0) e3) rfl (by decide) gq3 hq3 rfl rfl rfl (Nat.le_of_ble_eq_true rfl) ⟨by decide, by decide⟩ dX10_tells_9 kk3
  replace e3 := (if_neg hq3).symm.trans e3
  by_cases hq3 : mK M2 a0 = 4
  · replace e3 := (if_pos hq3).symm.trans e3
    exact v_callU hz (As := [.ref a1, .int a2]) ul_X10_26_X4 (tX10_walks (r + 2) e3) rfl (by decide) gq3 hq3 rfl rfl rfl (Nat.le_of_ble_eq_true rfl) ⟨by decide, by decide⟩ dX10_tells_9 kk3
  replace e3 := (if_neg hq3).symm.trans e3
  by_cases hq3 : mK M2 a0 = 6
  · replace e3 := (if_pos hq3).symm.trans e3
    exact v_callU hz (As := [.ref a1, .int a2]) ul_X10_26_X6 (tX10_walks (r + 2) e3) rfl (by decide) gq3 hq3 rfl rfl rfl (Nat.le_of_ble_eq_true rfl) ⟨by decide, by decide⟩ dX10_tells_9 kk3
  replace e3 := (if_neg hq3).symm.trans e3
  by_cases hq3 : mK M2 a0 = 8
  · replace e3 := (if_pos hq3).symm.trans e3
    exact v_callU hz (As := [.ref a1, .int a2]) ul_X10_26_X8 (tX8_walks (r + 1) e3) rfl (by decide) gq3 hq3 rfl rfl rfl (Nat.le_of_ble_eq_true rfl) ⟨by decide, by decide⟩ dX10_tells_9 kk3
  replace e3 := (if_neg hq3).symm.trans e3
  by_cases hq3 : mK M2 a0 = 9
  · replace e3 := (if_pos hq3).symm.trans e3
    exact v_callU hz (As := [.ref a1, .int a2]) ul_X10_26_X9 (tX9_walks (r + 1) e3) rfl (by decide) gq3 hq3 rfl rfl rfl (Nat.le_of_ble_eq_true rfl) ⟨by decide, by decide⟩ dX10_tells_9 kk3
  replace e3 := (if_neg hq3).symm.trans e3
  by_cases hq3 : mK M2 a0 = 10
  · replace e3 := (if_pos hq3).symm.trans e3
    exact v_callU hz (As := [.ref a1, .int a2]) ul_X10_26_X10 (tX10_walks (r + 2) e3) rfl (by decide) gq3 hq3 rfl rfl rfl (Nat.le_of_ble_eq_true rfl) ⟨by decide, by decide⟩ dX10_tells_9 kk3
  replace e3 := (if_neg hq3).symm.trans e3
  cases e3
noncomputable def fX0_tells (M : Mem) (a0 : Nat) (a1 : Nat) (a2 : Int32) : Option (Int32 × Mem) :=
  ck (isK M a1 1) <| bd (fX1_begin M a1 (60 : Int32)) fun x2 M2 => ck (isK M2 a1 1) <| bd (fX10_tells M2 a0 a1 (a2 - (mI M2 a1 0))) fun x4 M4 => ck (isW M2 a0) <| some (x4, M4)
set_option maxRecDepth 100000 in
set_option maxHeartbeats 4000000 in
theorem tX0_tells (r : Nat) {fx : Fx} {al : Bool} {M N : Mem} {a0 : Nat} {a1 : Nat} {a2 : Int32} {xr : Int32}  (h : fX0_tells M a0 a1 a2 = some (xr, N)) : Ct fx yX0_tells cX0_tells 3 (some .int) (r + 7) 0 0 al [.ref a0, .ref a1, .int a2] M (some (.int xr)) N := by
  refine ct_of (lv := [some (.ref a0), some (.ref a1), some (.int a2)]) (by decide) (Nat.le_of_ble_eq_true rfl) rfl rfl (fun z hz => ?_)
  unfold fX0_tells at h
  refine v_aload_n hz rfl rfl dX0_tells_0 ?_
  refine v_bipush hz (v := (60 : Int32)) (by decide) dX0_tells_1 ?_
  obtain ⟨ck1, h⟩ := ck_inv h
  obtain ⟨ka1, kb1⟩ := isK_of ck1
  obtain ⟨x2, M2, e2, h⟩ := bd_inv h
  refine v_callV hz (As := [.int (60 : Int32)]) vl_X0_23 (tX1_begin (r + 6) e2) rfl (by decide) ka1 kb1 rfl rfl rfl (Nat.le_of_ble_eq_true rfl) ⟨by decide, by decide⟩ dX0_tells_3 ?_
  show V z 6 [some (.ref a0), some (.ref a1), some (.int a2)] [] M2 0 0
  refine v_aload_n hz rfl rfl dX0_tells_6 ?_
  refine v_aload_n hz rfl rfl dX0_tells_7 ?_
  refine v_iload_n hz rfl rfl dX0_tells_8 ?_
  refine v_aload_n hz rfl rfl dX0_tells_9 ?_
  obtain ⟨ck3, h⟩ := ck_inv h
  obtain ⟨ka3, kb3⟩ := isK_of ck3
  refine v_getI hz fl_X0_29 rfl dX0_tells_10 ka3 kb3 ?_
  refine v_isub hz dX0_tells_13 ?_
  obtain ⟨x4, M4, e4, h⟩ := bd_inv h
  obtain ⟨g5, h⟩ := ck_inv h
  refine v_callSUw hz (As := [.ref a1, .int (a2 - (mI M2 a1 0))]) upl_X0_33 (tX10_tells (r + 0) e4) g5 rfl rfl rfl (Nat.le_of_ble_eq_true rfl) ⟨by decide, by decide⟩ dX0_tells_14 ?_
  show V z 17 [some (.ref a0), some (.ref a1), some (.int a2)] [.int x4] M4 0 0
  obtain ⟨rfl, rfl⟩ := sp_inv h
  exact v_iret hz dX0_tells_17 (by decide) (by decide)
noncomputable def fX1_init (M : Mem) (a0 : Nat) : Option (Unit × Mem) :=
  nm (alc M 14 20) fun M1 => ck (isK M1 a0 1) <| some ((), (stR M1 a0 3 (some (mN M))))
set_option maxRecDepth 100000 in
set_option maxHeartbeats 4000000 in
theorem tX1_init (r : Nat) {fx : Fx} {M N : Mem} {a0 : Nat}  (h : fX1_init M a0 = some ((), N)) : Ct fx yX1_init cX1_init 1 none (r + 1) 1 20 true [.ref a0] M none N := by
  refine ct_of (lv := [some (.ref a0)]) (by decide) (Nat.le_of_ble_eq_true rfl) rfl rfl (fun z hz => ?_)
  unfold fX1_init at h
  refine v_aload_n hz rfl rfl dX1_init_0 ?_
  refine v_objInit hz wq_134 wq_77 wq_78 rfl rfl dX1_init_1 ?_
  refine v_aload_n hz rfl rfl dX1_init_4 ?_
  refine v_bipush hz (v := (20 : Int32)) (by decide) dX1_init_5 ?_
  refine v_newI hz (t0 := 0) (c := 14) (N' := 20) wq_96 (by decide) (by decide) (by decide) (by decide) (by decide) (by decide) dX1_init_7 ?_
  obtain ⟨M1, eM1, h⟩ := nm_inv h
  refine v_mem eM1.symm ?_
  obtain ⟨ck2, h⟩ := ck_inv h
  obtain ⟨ka2, kb2⟩ := isK_of ck2
  refine v_putRF hz fl_X1_9 ft_1_3 rfl (by decide) rfl (fun _ => rfl) (fun _ => rfl) dX1_init_9 ka2 kb2 ?_
  obtain ⟨-, rfl⟩ := sp_inv h
  exact v_vret hz dX1_init_12 (by decide) (by decide)
noncomputable def fX9_init (M : Mem) (a0 : Nat) : Option (Unit × Mem) :=
  bd (fX10_init M a0) fun x1 M1 => some ((), M1)
set_option maxRecDepth 100000 in
set_option maxHeartbeats 4000000 in
theorem tX9_init (r : Nat) {fx : Fx} {al : Bool} {M N : Mem} {a0 : Nat}  (h : fX9_init M a0 = some ((), N)) : Ct fx yX9_init cX9_init 1 none (r + 2) 0 0 al [.ref a0] M none N := by
  refine ct_of (lv := [some (.ref a0)]) (by decide) (Nat.le_of_ble_eq_true rfl) rfl rfl (fun z hz => ?_)
  unfold fX9_init at h
  refine v_aload_n hz rfl rfl dX9_init_0 ?_
  obtain ⟨x1, M1, e1, h⟩ := bd_inv h
  refine v_callIN hz (As := []) nl_X9_1 rfl (tX10_init (r + 0) e1) rfl rfl rfl (Nat.le_of_ble_eq_true rfl) ⟨by decide, by decide⟩ dX9_init_1 ?_
  show V z 4 [some (.ref a0)] [] M1 0 0
  obtain ⟨-, rfl⟩ := sp_inv h
  exact v_vret hz dX9_init_4 (by decide) (by decide)
noncomputable def fX2_init (M : Mem) (a0 : Nat) : Option (Unit × Mem) :=
  bd (fX9_init M a0) fun x1 M1 => some ((), M1)
set_option maxRecDepth 100000 in
set_option maxHeartbeats 4000000 in
theorem tX2_init (r : Nat) {fx : Fx} {al : Bool} {M N : Mem} {a0 : Nat}  (h : fX2_init M a0 = some ((), N)) : Ct fx yX2_init cX2_init 1 none (r + 3) 0 0 al [.ref a0] M none N := by
  refine ct_of (lv := [some (.ref a0)]) (by decide) (Nat.le_of_ble_eq_true rfl) rfl rfl (fun z hz => ?_)
  unfold fX2_init at h
  refine v_aload_n hz rfl rfl dX2_init_0 ?_
  obtain ⟨x1, M1, e1, h⟩ := bd_inv h
  refine v_callIN hz (As := []) nl_X2_1 rfl (tX9_init (r + 0) e1) rfl rfl rfl (Nat.le_of_ble_eq_true rfl) ⟨by decide, by decide⟩ dX2_init_1 ?_
  show V z 4 [some (.ref a0)] [] M1 0 0
  obtain ⟨-, rfl⟩ := sp_inv h
  exact v_vret hz dX2_init_4 (by decide) (by decide)
noncomputable def fX2_pullBy (M : Mem) (a0 : Nat) (a1 : Int32) (a2 : Nat) (a3 : Int32) (a4 : Int32) : Option (Int32 × Mem) :=
  if (a4 - a4 / (2 : Int32) * (2 : Int32)) = 0 then (ck (isK M a2 3) <| rb (mR M a2 6) fun b2 => ck (isK M b2 14) <| ck (inb a3 (mG M b2)) <| some ((a1 + (mI M b2 a3.toNatClampNeg)), M)) else (some (a1, M))
set_option maxRecDepth 100000 in
set_option maxHeartbeats 4000000 in
theorem tX2_pullBy (r : Nat) {fx : Fx} {al : Bool} {M N : Mem} {a0 : Nat} {a1 : Int32} {a2 : Nat} {a3 : Int32} {a4 : Int32} {xr : Int32}  (h : fX2_pullBy M a0 a1 a2 a3 a4 = some (xr, N)) : Ct fx yX2_pullBy cX2_pullBy 5 (some .int) (r + 0) 0 0 al [.ref a0, .int a1, .ref a2, .int a3, .int a4] M (some (.int xr)) N := by
  refine ct_of (lv := [some (.ref a0), some (.int a1), some (.ref a2), some (.int a3), some (.int a4)]) (by decide) (Nat.le_of_ble_eq_true rfl) rfl rfl (fun z hz => ?_)
  unfold fX2_pullBy at h
  refine v_iload hz rfl dX2_pullBy_0 ?_
  refine v_iconst hz (v := (2 : Int32)) (by decide) dX2_pullBy_2 ?_
  refine v_irem hz (by decide) dX2_pullBy_3 ?_
  refine v_if_ne (tgt := 18) hz dX2_pullBy_4 (by decide) (fun hc => ?_) (fun hc => ?_)
  · replace h := (if_neg hc).symm.trans h
    refine v_iload_n hz rfl rfl dX2_pullBy_18 ?_
    obtain ⟨rfl, rfl⟩ := sp_inv h
    exact v_iret hz dX2_pullBy_19 (by decide) (by decide)
  · replace h := (if_pos hc).symm.trans h
    refine v_iload_n hz rfl rfl dX2_pullBy_7 ?_
    refine v_aload_n hz rfl rfl dX2_pullBy_8 ?_
    obtain ⟨ck1, h⟩ := ck_inv h
    obtain ⟨ka1, kb1⟩ := isK_of ck1
    obtain ⟨b2, r2, h⟩ := rb_inv h
    refine v_getR hz fl_X2_7 rfl dX2_pullBy_9 ka1 kb1 r2 ?_
    refine v_iload_n hz rfl rfl dX2_pullBy_12 ?_
    obtain ⟨ck3, h⟩ := ck_inv h
    obtain ⟨ka3, kb3⟩ := isK_of ck3
    obtain ⟨g4, h⟩ := ck_inv h
    refine v_iaload hz dX2_pullBy_13 ka3 kb3 g4 ?_
    refine v_iadd hz dX2_pullBy_14 ?_
    refine v_goto (tgt := 19) hz dX2_pullBy_15 (by decide) ?_
    obtain ⟨rfl, rfl⟩ := sp_inv h
    exact v_iret hz dX2_pullBy_19 (by decide) (by decide)
noncomputable def gX3_init_72  : Nat → Mem → Nat → Int32 → Option (Unit × Mem)
  | 0, _, _, _ => none
  | n + 1, M, l0, l3 => if (25 : Int32) ≤ l3 then (some ((), M)) else (ck (isK M l0 3) <| rb (mR M l0 3) fun b17 => ck (isK M b17 14) <| ck (inb l3 (mG M b17)) <| (gX3_init_72 n) (stI M b17 l3.toNatClampNeg (5 : Int32)) l0 (l3 + (1 : Int32)))
noncomputable def fX3_init (M : Mem) (a0 : Nat) (a1 : Nat) (a2 : Nat) : Option (Unit × Mem) :=
  nm (alc M 14 25) fun M1 => ck (isK M1 a0 3) <| nm (alc (stR M1 a0 3 (some (mN M))) 14 6) fun M3 => ck (isK M3 a0 3) <| nm (alc (stR M3 a0 5 (some (mN (stR M1 a0 3 (some (mN M)))))) 14 6) fun M5 => ck (isK M5 a0 3) <| nm (alc (stR M5 a0 6 (some (mN (stR M3 a0 5 (some (mN (stR M1 a0 3 (some (mN M))))))))) 14 6) fun M7 => ck (isK M7 a0 3) <| nm (alc (stR M7 a0 7 (some (mN (stR M5 a0 6 (some (mN (stR M3 a0 5 (some (mN (stR M1 a0 3 (some (mN M)))))))))))) 16 6) fun M9 => ck (isK M9 a0 3) <| nm (alc (stR M9 a0 8 (some (mN (stR M7 a0 7 (some (mN (stR M5 a0 6 (some (mN (stR M3 a0 5 (some (mN (stR M1 a0 3 (some (mN M))))))))))))))) 14 24) fun M11 => ck (isK M11 a0 3) <| nm (stR M11 a0 9 (some (mN (stR M9 a0 8 (some (mN (stR M7 a0 7 (some (mN (stR M5 a0 6 (some (mN (stR M3 a0 5 (some (mN (stR M1 a0 3 (some (mN M)))))))))))))))))) fun M13 => nm (alc M13 14 6) fun M14 => ck (isK M14 a0 3) <| gX3_init_72 FU (stR (stR (stR M14 a0 10 (some (mN M13))) a0 0 (some a1)) a0 1 (some a2)) a0 (0 : Int32)
set_option maxRecDepth 100000 in
set_option maxHeartbeats 4000000 in
theorem gX3_init_72_s  (n : Nat) (M : Mem) (l0 : Nat) (l3 : Int32) : gX3_init_72  (n + 1) M l0 l3 = (if (25 : Int32) ≤ l3 then (some ((), M)) else (ck (isK M l0 3) <| rb (mR M l0 3) fun b17 => ck (isK M b17 14) <| ck (inb l3 (mG M b17)) <| (gX3_init_72 n) (stI M b17 l3.toNatClampNeg (5 : Int32)) l0 (l3 + (1 : Int32)))) := rfl
set_option maxRecDepth 100000 in
set_option maxHeartbeats 4000000 in
theorem wX3_init_72 {z : Zx} {fx : Fx} {r : Nat} {N : Mem} (hz : Zok z fx true yX3_init.cls yX3_init.name cX3_init none 4 (r + 1) 7 79 none N)    : ∀ {n : Nat} {M : Mem} {l0 : Nat} {l3 : Int32}, gX3_init_72  n M l0 l3 = some ((), N) → V z 72 [some (.ref l0), none, none, some (.int l3)] [] M 7 79 := by
  intro n
  induction n with
  | zero => intro M l0 l3 h; cases h
  | succ n ih =>
    intro M l0 l3 h
    replace h := (gX3_init_72_s  n M l0 l3).symm.trans h
    refine v_iload_n hz rfl rfl dX3_init_72 ?_
    refine v_bipush hz (v := (25 : Int32)) (by decide) dX3_init_73 ?_
    refine v_icmp_ge (tgt := 91) hz dX3_init_75 (by decide) (fun hc => ?_) (fun hc => ?_)
    · replace h := (if_pos hc).symm.trans h
      obtain ⟨-, rfl⟩ := sp_inv h
      exact v_vret hz dX3_init_91 (by decide) (by decide)
    · replace h := (if_neg hc).symm.trans h
      refine v_aload_n hz rfl rfl dX3_init_78 ?_
      obtain ⟨ck16, h⟩ := ck_inv h
      obtain ⟨ka16, kb16⟩ := isK_of ck16
      obtain ⟨b17, r17, h⟩ := rb_inv h
      refine v_getR hz fl_X3_9 rfl dX3_init_79 ka16 kb16 r17 ?_
      refine v_iload_n hz rfl rfl dX3_init_82 ?_
      refine v_iconst hz (v := (5 : Int32)) (by decide) dX3_init_83 ?_
      obtain ⟨ck18, h⟩ := ck_inv h
      obtain ⟨ka18, kb18⟩ := isK_of ck18
      obtain ⟨g19, h⟩ := ck_inv h
      refine v_iastore hz dX3_init_84 ka18 kb18 g19 ?_
      refine v_iinc hz (v := (l3 + (1 : Int32))) (lw := [some (.ref l0), none, none, some (.int (l3 + (1 : Int32)))]) rfl (congrArg (fun q => l3 + q) (show Int32.ofInt (1) = (1 : Int32) by decide)) rfl rfl dX3_init_85 ?_
      refine v_goto (tgt := 72) hz dX3_init_88 (by decide) ?_
      exact v_weak (lvle_s (lvle_n (lvle_n (lvle_s lvle_0)))) (ih h)
set_option maxRecDepth 100000 in
set_option maxHeartbeats 4000000 in
theorem tX3_init (r : Nat) {fx : Fx} {M N : Mem} {a0 : Nat} {a1 : Nat} {a2 : Nat}  (h : fX3_init M a0 a1 a2 = some ((), N)) : Ct fx yX3_init cX3_init 4 none (r + 1) 7 79 true [.ref a0, .ref a1, .ref a2] M none N := by
  refine ct_of (lv := [some (.ref a0), some (.ref a1), some (.ref a2), none]) (by decide) (Nat.le_of_ble_eq_true rfl) rfl rfl (fun z hz => ?_)
  unfold fX3_init at h
  refine v_aload_n hz rfl rfl dX3_init_0 ?_
  refine v_objInit hz wq_210 wq_77 wq_78 rfl rfl dX3_init_1 ?_
  refine v_aload_n hz rfl rfl dX3_init_4 ?_
  refine v_bipush hz (v := (25 : Int32)) (by decide) dX3_init_5 ?_
  refine v_newI hz (t0 := 0) (c := 14) (N' := 25) wq_96 (by decide) (by decide) (by decide) (by decide) (by decide) (by decide) dX3_init_7 ?_
  obtain ⟨M1, eM1, h⟩ := nm_inv h
  refine v_mem eM1.symm ?_
  obtain ⟨ck2, h⟩ := ck_inv h
  obtain ⟨ka2, kb2⟩ := isK_of ck2
  refine v_putRF hz fl_X3_9 ft_3_3 rfl (by decide) rfl (fun _ => rfl) (fun _ => rfl) dX3_init_9 ka2 kb2 ?_
  refine v_aload_n hz rfl rfl dX3_init_12 ?_
  refine v_bipush hz (v := (6 : Int32)) (by decide) dX3_init_13 ?_
  refine v_newI hz (t0 := 0) (c := 14) (N' := 6) wq_96 (by decide) (by decide) (by decide) (by decide) (by decide) (by decide) dX3_init_15 ?_
  obtain ⟨M3, eM3, h⟩ := nm_inv h
  refine v_mem eM3.symm ?_
  obtain ⟨ck4, h⟩ := ck_inv h
  obtain ⟨ka4, kb4⟩ := isK_of ck4
  refine v_putRF hz fl_X3_15 ft_3_5 rfl (by decide) rfl (fun _ => rfl) (fun _ => rfl) dX3_init_17 ka4 kb4 ?_
  refine v_aload_n hz rfl rfl dX3_init_20 ?_
  refine v_bipush hz (v := (6 : Int32)) (by decide) dX3_init_21 ?_
  refine v_newI hz (t0 := 0) (c := 14) (N' := 6) wq_96 (by decide) (by decide) (by decide) (by decide) (by decide) (by decide) dX3_init_23 ?_
  obtain ⟨M5, eM5, h⟩ := nm_inv h
  refine v_mem eM5.symm ?_
  obtain ⟨ck6, h⟩ := ck_inv h
  obtain ⟨ka6, kb6⟩ := isK_of ck6
  refine v_putRF hz fl_X3_18 ft_3_6 rfl (by decide) rfl (fun _ => rfl) (fun _ => rfl) dX3_init_25 ka6 kb6 ?_
  refine v_aload_n hz rfl rfl dX3_init_28 ?_
  refine v_bipush hz (v := (6 : Int32)) (by decide) dX3_init_29 ?_
  refine v_newI hz (t0 := 0) (c := 14) (N' := 6) wq_96 (by decide) (by decide) (by decide) (by decide) (by decide) (by decide) dX3_init_31 ?_
  obtain ⟨M7, eM7, h⟩ := nm_inv h
  refine v_mem eM7.symm ?_
  obtain ⟨ck8, h⟩ := ck_inv h
  obtain ⟨ka8, kb8⟩ := isK_of ck8
  refine v_putRF hz fl_X3_21 ft_3_7 rfl (by decide) rfl (fun _ => rfl) (fun _ => rfl) dX3_init_33 ka8 kb8 ?_
  refine v_aload_n hz rfl rfl dX3_init_36 ?_
  refine v_bipush hz (v := (6 : Int32)) (by decide) dX3_init_37 ?_
  refine v_newI hz (t0 := 0) (c := 16) (N' := 6) wq_259 (by decide) (by decide) (by decide) (by decide) (by decide) (by decide) dX3_init_39 ?_
  obtain ⟨M9, eM9, h⟩ := nm_inv h
  refine v_mem eM9.symm ?_
  obtain ⟨ck10, h⟩ := ck_inv h
  obtain ⟨ka10, kb10⟩ := isK_of ck10
  refine v_putRF hz fl_X3_24 ft_3_8 rfl (by decide) rfl (fun _ => rfl) (fun _ => rfl) dX3_init_41 ka10 kb10 ?_
  refine v_aload_n hz rfl rfl dX3_init_44 ?_
  refine v_bipush hz (v := (24 : Int32)) (by decide) dX3_init_45 ?_
  refine v_newI hz (t0 := 0) (c := 14) (N' := 24) wq_96 (by decide) (by decide) (by decide) (by decide) (by decide) (by decide) dX3_init_47 ?_
  obtain ⟨M11, eM11, h⟩ := nm_inv h
  refine v_mem eM11.symm ?_
  obtain ⟨ck12, h⟩ := ck_inv h
  obtain ⟨ka12, kb12⟩ := isK_of ck12
  refine v_putRF hz fl_X3_28 ft_3_9 rfl (by decide) rfl (fun _ => rfl) (fun _ => rfl) dX3_init_49 ka12 kb12 ?_
  obtain ⟨M13, eM13, h⟩ := nm_inv h
  refine v_mem eM13.symm ?_
  refine v_aload_n hz rfl rfl dX3_init_52 ?_
  refine v_bipush hz (v := (6 : Int32)) (by decide) dX3_init_53 ?_
  refine v_newI hz (t0 := 0) (c := 14) (N' := 6) wq_96 (by decide) (by decide) (by decide) (by decide) (by decide) (by decide) dX3_init_55 ?_
  obtain ⟨M14, eM14, h⟩ := nm_inv h
  refine v_mem eM14.symm ?_
  obtain ⟨ck15, h⟩ := ck_inv h
  obtain ⟨ka15, kb15⟩ := isK_of ck15
  refine v_putRF hz fl_X3_31 ft_3_10 rfl (by decide) rfl (fun _ => rfl) (fun _ => rfl) dX3_init_57 ka15 kb15 ?_
  refine v_aload_n hz rfl rfl dX3_init_60 ?_
  refine v_aload_n hz rfl rfl dX3_init_61 ?_
  refine v_putRF hz fl_X3_34 ft_3_0 rfl (by decide) rfl (fun _ => rfl) (fun _ => rfl) dX3_init_62 ka15 kb15 ?_
  refine v_aload_n hz rfl rfl dX3_init_65 ?_
  refine v_aload_n hz rfl rfl dX3_init_66 ?_
  refine v_putR hz fl_X3_38 ft_3_1 (by decide) rfl (fun _ => rfl) (fun _ => rfl) dX3_init_67 ka15 kb15 ?_
  refine v_iconst hz (v := (0 : Int32)) (by decide) dX3_init_70 ?_
  refine v_istore_n hz (lw := [some (.ref a0), some (.ref a1), some (.ref a2), some (.int (0 : Int32))]) rfl (Nat.le_of_ble_eq_true rfl) rfl rfl dX3_init_71 ?_
  exact v_weak (lvle_s (lvle_n (lvle_n (lvle_s lvle_0)))) (wX3_init_72 hz   h)
