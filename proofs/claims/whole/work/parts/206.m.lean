noncomputable def fX11_of (M : Mem) (a0 : Nat) (a1 : Int32) (a2 : Int32) : Option (Int32 × Mem) :=
  ck (isK M a0 11) <| bd (fX11_isPerson M a0 a1) fun x2 M2 => if x2 = 0 then (some ((-1 : Int32), M2)) else (if a2 = (0 : Int32) then (ck (isK M2 a0 11) <| rb (mR M2 a0 0) fun b5 => ck (isK M2 b5 3) <| rb (mR M2 b5 5) fun b7 => ck (isK M2 b7 14) <| ck (inb a1 (mG M2 b7)) <| some ((mI M2 b7 a1.toNatClampNeg), M2)) else if a2 = (1 : Int32) then (ck (isK M2 a0 11) <| rb (mR M2 a0 0) fun b11 => ck (isK M2 b11 3) <| rb (mR M2 b11 6) fun b13 => ck (isK M2 b13 14) <| ck (inb a1 (mG M2 b13)) <| some ((mI M2 b13 a1.toNatClampNeg), M2)) else if a2 = (2 : Int32) then (ck (isK M2 a0 11) <| rb (mR M2 a0 0) fun b17 => ck (isK M2 b17 3) <| rb (mR M2 b17 7) fun b19 => ck (isK M2 b19 14) <| ck (inb a1 (mG M2 b19)) <| some ((mI M2 b19 a1.toNatClampNeg), M2)) else if a2 = (3 : Int32) then (ck (isK M2 a0 11) <| rb (mR M2 a0 0) fun b23 => ck (isK M2 b23 3) <| rb (mR M2 b23 8) fun b25 => ck (isK M2 b25 16) <| ck (inb a1 (mG M2 b25)) <| if (mI M2 b25 a1.toNatClampNeg) = 0 then (some ((0 : Int32), M2)) else (some ((1 : Int32), M2))) else if a2 = (4 : Int32) then (ck (isK M2 a0 11) <| rb (mR M2 a0 0) fun b29 => ck (isK M2 b29 3) <| bd (fX3_sends M2 b29 a1) fun x31 M31 => some (x31, M31)) else if a2 = (5 : Int32) then (ck (isK M2 a0 11) <| rb (mR M2 a0 0) fun b33 => ck (isK M2 b33 3) <| bd (fX3_kindOf M2 b33 a1) fun x35 M35 => bd (vt10_tread M35 x35) fun x36 M36 => some (x36, M36)) else (some ((-1 : Int32), M2)))
set_option maxRecDepth 100000 in
set_option maxHeartbeats 4000000 in
theorem tX11_of (r : Nat) {fx : Fx} {al : Bool} {M N : Mem} {a0 : Nat} {a1 : Int32} {a2 : Int32} {xr : Int32}  (h : fX11_of M a0 a1 a2 = some (xr, N)) : Ct fx yX11_of cX11_of 3 (some .int) (r + 4) 0 0 al [.ref a0, .int a1, .int a2] M (some (.int xr)) N := by
  refine ct_of (lv := [some (.ref a0), some (.int a1), some (.int a2)]) (by decide) (Nat.le_of_ble_eq_true rfl) rfl rfl (fun z hz => ?_)
  unfold fX11_of at h
  refine v_aload_n hz rfl rfl dX11_of_0 ?_
  refine v_iload_n hz rfl rfl dX11_of_1 ?_
  obtain ⟨ck1, h⟩ := ck_inv h
  obtain ⟨ka1, kb1⟩ := isK_of ck1
  obtain ⟨x2, M2, e2, h⟩ := bd_inv h
  refine v_callV hz (As := [.int a1]) vl_X11_111 (tX11_isPerson (r + 3) e2) rfl (by decide) ka1 kb1 rfl rfl rfl (Nat.le_of_ble_eq_true rfl) ⟨by decide, by decide⟩ dX11_of_2 ?_
  show V z 5 [some (.ref a0), some (.int a1), some (.int a2)] [.int x2] M2 0 0
  refine v_if_ne (tgt := 10) hz dX11_of_5 (by decide) (fun hc => ?_) (fun hc => ?_)
  · replace h := (if_neg hc).symm.trans h
    refine v_iload_n hz rfl rfl dX11_of_10 ?_
    by_cases hs3_0 : a2 = (0 : Int32)
    · replace h := (if_pos hs3_0).symm.trans h
      refine v_tableAt (tgt := 48) hz hs3_0 dX11_of_11 (by decide) (by decide) (by decide) (by decide) ?_
      refine v_aload_n hz rfl rfl dX11_of_48 ?_
      obtain ⟨ck4, h⟩ := ck_inv h
      obtain ⟨ka4, kb4⟩ := isK_of ck4
      obtain ⟨b5, r5, h⟩ := rb_inv h
      refine v_getR hz fl_X11_90 rfl dX11_of_49 ka4 kb4 r5 ?_
      obtain ⟨ck6, h⟩ := ck_inv h
      obtain ⟨ka6, kb6⟩ := isK_of ck6
      obtain ⟨b7, r7, h⟩ := rb_inv h
      refine v_getR hz fl_X11_114 rfl dX11_of_52 ka6 kb6 r7 ?_
      refine v_iload_n hz rfl rfl dX11_of_55 ?_
      obtain ⟨ck8, h⟩ := ck_inv h
      obtain ⟨ka8, kb8⟩ := isK_of ck8
      obtain ⟨g9, h⟩ := ck_inv h
      refine v_iaload hz dX11_of_56 ka8 kb8 g9 ?_
      obtain ⟨rfl, rfl⟩ := sp_inv h
      exact v_iret hz dX11_of_57 (by decide) (by decide)
    replace h := (if_neg hs3_0).symm.trans h
    by_cases hs3_1 : a2 = (1 : Int32)
    · replace h := (if_pos hs3_1).symm.trans h
      refine v_tableAt (tgt := 58) hz hs3_1 dX11_of_11 (by decide) (by decide) (by decide) (by decide) ?_
      refine v_aload_n hz rfl rfl dX11_of_58 ?_
      obtain ⟨ck10, h⟩ := ck_inv h
      obtain ⟨ka10, kb10⟩ := isK_of ck10
      obtain ⟨b11, r11, h⟩ := rb_inv h
      refine v_getR hz fl_X11_90 rfl dX11_of_59 ka10 kb10 r11 ?_
      obtain ⟨ck12, h⟩ := ck_inv h
      obtain ⟨ka12, kb12⟩ := isK_of ck12
      obtain ⟨b13, r13, h⟩ := rb_inv h
      refine v_getR hz fl_X11_117 rfl dX11_of_62 ka12 kb12 r13 ?_
      refine v_iload_n hz rfl rfl dX11_of_65 ?_
      obtain ⟨ck14, h⟩ := ck_inv h
      obtain ⟨ka14, kb14⟩ := isK_of ck14
      obtain ⟨g15, h⟩ := ck_inv h
      refine v_iaload hz dX11_of_66 ka14 kb14 g15 ?_
      obtain ⟨rfl, rfl⟩ := sp_inv h
      exact v_iret hz dX11_of_67 (by decide) (by decide)
    replace h := (if_neg hs3_1).symm.trans h
    by_cases hs3_2 : a2 = (2 : Int32)
    · replace h := (if_pos hs3_2).symm.trans h
      refine v_tableAt (tgt := 68) hz hs3_2 dX11_of_11 (by decide) (by decide) (by decide) (by decide) ?_
      refine v_aload_n hz rfl rfl dX11_of_68 ?_
      obtain ⟨ck16, h⟩ := ck_inv h
      obtain ⟨ka16, kb16⟩ := isK_of ck16
      obtain ⟨b17, r17, h⟩ := rb_inv h
      refine v_getR hz fl_X11_90 rfl dX11_of_69 ka16 kb16 r17 ?_
      obtain ⟨ck18, h⟩ := ck_inv h
      obtain ⟨ka18, kb18⟩ := isK_of ck18
      obtain ⟨b19, r19, h⟩ := rb_inv h
      refine v_getR hz fl_X11_120 rfl dX11_of_72 ka18 kb18 r19 ?_
      refine v_iload_n hz rfl rfl dX11_of_75 ?_
      obtain ⟨ck20, h⟩ := ck_inv h
      obtain ⟨ka20, kb20⟩ := isK_of ck20
      obtain ⟨g21, h⟩ := ck_inv h
      refine v_iaload hz dX11_of_76 ka20 kb20 g21 ?_
      obtain ⟨rfl, rfl⟩ := sp_inv h
      exact v_iret hz dX11_of_77 (by decide) (by decide)
    replace h := (if_neg hs3_2).symm.trans h
    by_cases hs3_3 : a2 = (3 : Int32)
    · replace h := (if_pos hs3_3).symm.trans h
      refine v_tableAt (tgt := 78) hz hs3_3 dX11_of_11 (by decide) (by decide) (by decide) (by decide) ?_
      refine v_aload_n hz rfl rfl dX11_of_78 ?_
      obtain ⟨ck22, h⟩ := ck_inv h
      obtain ⟨ka22, kb22⟩ := isK_of ck22
      obtain ⟨b23, r23, h⟩ := rb_inv h
      refine v_getR hz fl_X11_90 rfl dX11_of_79 ka22 kb22 r23 ?_
      obtain ⟨ck24, h⟩ := ck_inv h
      obtain ⟨ka24, kb24⟩ := isK_of ck24
      obtain ⟨b25, r25, h⟩ := rb_inv h
      refine v_getR hz fl_X11_123 rfl dX11_of_82 ka24 kb24 r25 ?_
      refine v_iload_n hz rfl rfl dX11_of_85 ?_
      obtain ⟨ck26, h⟩ := ck_inv h
      obtain ⟨ka26, kb26⟩ := isK_of ck26
      obtain ⟨g27, h⟩ := ck_inv h
      refine v_zaload hz dX11_of_86 ka26 kb26 g27 ?_
      refine v_if_eq (tgt := 94) hz dX11_of_87 (by decide) (fun hc => ?_) (fun hc => ?_)
      · replace h := (if_pos hc).symm.trans h
        refine v_iconst hz (v := (0 : Int32)) (by decide) dX11_of_94 ?_
        obtain ⟨rfl, rfl⟩ := sp_inv h
        exact v_iret hz dX11_of_95 (by decide) (by decide)
      · replace h := (if_neg hc).symm.trans h
        refine v_iconst hz (v := (1 : Int32)) (by decide) dX11_of_90 ?_
        refine v_goto (tgt := 95) hz dX11_of_91 (by decide) ?_
        obtain ⟨rfl, rfl⟩ := sp_inv h
        exact v_iret hz dX11_of_95 (by decide) (by decide)
    replace h := (if_neg hs3_3).symm.trans h
    by_cases hs3_4 : a2 = (4 : Int32)
    · replace h := (if_pos hs3_4).symm.trans h
      refine v_tableAt (tgt := 96) hz hs3_4 dX11_of_11 (by decide) (by decide) (by decide) (by decide) ?_
      refine v_aload_n hz rfl rfl dX11_of_96 ?_
      obtain ⟨ck28, h⟩ := ck_inv h
      obtain ⟨ka28, kb28⟩ := isK_of ck28
      obtain ⟨b29, r29, h⟩ := rb_inv h
      refine v_getR hz fl_X11_90 rfl dX11_of_97 ka28 kb28 r29 ?_
      refine v_iload_n hz rfl rfl dX11_of_100 ?_
      obtain ⟨ck30, h⟩ := ck_inv h
      obtain ⟨ka30, kb30⟩ := isK_of ck30
      obtain ⟨x31, M31, e31, h⟩ := bd_inv h
      refine v_callV hz (As := [.int a1]) vl_X11_127 (tX3_sends (r + 0) e31) rfl (by decide) ka30 kb30 rfl rfl rfl (Nat.le_of_ble_eq_true rfl) ⟨by decide, by decide⟩ dX11_of_101 ?_
      show V z 104 [some (.ref a0), some (.int a1), some (.int a2)] [.int x31] M31 0 0
      obtain ⟨rfl, rfl⟩ := sp_inv h
      exact v_iret hz dX11_of_104 (by decide) (by decide)
    replace h := (if_neg hs3_4).symm.trans h
    by_cases hs3_5 : a2 = (5 : Int32)
    · replace h := (if_pos hs3_5).symm.trans h
      refine v_tableAt (tgt := 105) hz hs3_5 dX11_of_11 (by decide) (by decide) (by decide) (by decide) ?_
      refine v_aload_n hz rfl rfl dX11_of_105 ?_
      obtain ⟨ck32, h⟩ := ck_inv h
      obtain ⟨ka32, kb32⟩ := isK_of ck32
      obtain ⟨b33, r33, h⟩ := rb_inv h
      refine v_getR hz fl_X11_90 rfl dX11_of_106 ka32 kb32 r33 ?_
      refine v_iload_n hz rfl rfl dX11_of_109 ?_
      obtain ⟨ck34, h⟩ := ck_inv h
      obtain ⟨ka34, kb34⟩ := isK_of ck34
      obtain ⟨x35, M35, e35, h⟩ := bd_inv h
      refine v_callV hz (As := [.int a1]) vl_X11_131 (tX3_kindOf (r + 3) e35) rfl (by decide) ka34 kb34 rfl rfl rfl (Nat.le_of_ble_eq_true rfl) ⟨by decide, by decide⟩ dX11_of_110 ?_
      show V z 113 [some (.ref a0), some (.int a1), some (.int a2)] [.ref x35] M35 0 0
      obtain ⟨x36, M36, e36, h⟩ := bd_inv h
      have kk36 : V z 116 [some (.ref a0), some (.int a1), some (.int a2)] [.int x36] M36 0 0 := by
        obtain ⟨rfl, rfl⟩ := sp_inv h
        exact v_iret hz dX11_of_116 (by decide) (by decide)
      obtain ⟨gq36, e36⟩ := ck_inv e36
      replace gq36 := of_decide_eq_true gq36
      by_cases hq36 : mK M35 x35 = 0
      · replace e36 := (if_pos hq36).symm.trans e36
        exact v_callU hz (As := []) ul_X11_135_X0 (tX0_tread (r + 3) e36) rfl (by decide) gq36 hq36 rfl rfl rfl (Nat.le_of_ble_eq_true rfl) ⟨by decide, by decide⟩ dX11_of_113 kk36
      replace e36 := (if_neg hq36).symm.trans e36
      by_cases hq36 : mK M35 x35 = 2
      · replace e36 := (if_pos hq36).symm.trans e36
        exact v_callU hz (As := []) ul_X11_135_X2 (tX9_tread (r + 3) e36) rfl (by decide) gq36 hq36 rfl rfl rfl (Nat.le_of_ble_eq_true rfl) ⟨by decide, by decide⟩ dX11_of_113 kk36
      replace e36 := (if_neg hq36).symm.trans e36
      by_cases hq36 : mK M35 x35 = 4
      · replace e36 := (if_pos hq36).symm.trans e36
        exact v_callU hz (As := []) ul_X11_135_X4 (tX4_tread (r + 3) e36) rfl (by decide) gq36 hq36 rfl rfl rfl (Nat.le_of_ble_eq_true rfl) ⟨by decide, by decide⟩ dX11_of_113 kk36
      replace e36 := (if_neg hq36).symm.trans e36
      by_cases hq36 : mK M35 x35 = 6
      · replace e36 := (if_pos hq36).symm.trans e36
        exact v_callU hz (As := []) ul_X11_135_X6 (tX6_tread (r + 3) e36) rfl (by decide) gq36 hq36 rfl rfl rfl (Nat.le_of_ble_eq_true rfl) ⟨by decide, by decide⟩ dX11_of_113 kk36
      replace e36 := (if_neg hq36).symm.trans e36
      by_cases hq36 : mK M35 x35 = 8
      · replace e36 := (if_pos hq36).symm.trans e36
        exact v_callU hz (As := []) ul_X11_135_X8 (tX4_tread (r + 3) e36) rfl (by decide) gq36 hq36 rfl rfl rfl (Nat.le_of_ble_eq_true rfl) ⟨by decide, by decide⟩ dX11_of_113 kk36
      replace e36 := (if_neg hq36).symm.trans e36
      by_cases hq36 : mK M35 x35 = 9
      · replace e36 := (if_pos hq36).symm.trans e36
        exact v_callU hz (As := []) ul_X11_135_X9 (tX9_tread (r + 3) e36) rfl (by decide) gq36 hq36 rfl rfl rfl (Nat.le_of_ble_eq_true rfl) ⟨by decide, by decide⟩ dX11_of_113 kk36
      replace e36 := (if_neg hq36).symm.trans e36
      by_cases hq36 : mK M35 x35 = 10
      · replace e36 := (if_pos hq36).symm.trans e36
        exact v_callU hz (As := []) ul_X11_135_X10 (tX10_tread (r + 3) e36) rfl (by decide) gq36 hq36 rfl rfl rfl (Nat.le_of_ble_eq_true rfl) ⟨by decide, by decide⟩ dX11_of_113 kk36
      replace e36 := (if_neg hq36).symm.trans e36
      cases e36
    replace h := (if_neg hs3_5).symm.trans h
    refine v_tableOut (tgt := 117) hz dX11_of_11 (by have q0 := lv_neT hs3_0 (show ((0 : Int32)).toInt = 0 by decide); have q1 := lv_neT hs3_1 (show ((1 : Int32)).toInt = 1 by decide); have q2 := lv_neT hs3_2 (show ((2 : Int32)).toInt = 2 by decide); have q3 := lv_neT hs3_3 (show ((3 : Int32)).toInt = 3 by decide); have q4 := lv_neT hs3_4 (show ((4 : Int32)).toInt = 4 by decide); have q5 := lv_neT hs3_5 (show ((5 : Int32)).toInt = 5 by decide); omega) (by decide) ?_
    refine v_iconst hz (v := (-1 : Int32)) (by decide) dX11_of_117 ?_
    obtain ⟨rfl, rfl⟩ := sp_inv h
    exact v_iret hz dX11_of_118 (by decide) (by decide)
  · replace h := (if_pos hc).symm.trans h
    refine v_iconst hz (v := (-1 : Int32)) (by decide) dX11_of_8 ?_
    obtain ⟨rfl, rfl⟩ := sp_inv h
    exact v_iret hz dX11_of_9 (by decide) (by decide)
noncomputable def fX11_pull (M : Mem) (a0 : Nat) (a1 : Int32) (a2 : Int32) : Option (Int32 × Mem) :=
  ck (isK M a0 11) <| bd (fX11_isPerson M a0 a1) fun x2 M2 => if x2 = 0 then (some ((-10001 : Int32), M2)) else (bd (fX11_isCell M2 a2) fun x3 M3 => if x3 = 0 then (some ((-10001 : Int32), M3)) else (ck (isK M3 a0 11) <| rb (mR M3 a0 0) fun b5 => ck (isK M3 b5 3) <| bd (fX3_pullOn M3 b5 a1 a2) fun x7 M7 => some (x7, M7)))
set_option maxRecDepth 100000 in
set_option maxHeartbeats 4000000 in
theorem tX11_pull (r : Nat) {fx : Fx} {al : Bool} {M N : Mem} {a0 : Nat} {a1 : Int32} {a2 : Int32} {xr : Int32}  (h : fX11_pull M a0 a1 a2 = some (xr, N)) : Ct fx yX11_pull cX11_pull 3 (some .int) (r + 3) 0 0 al [.ref a0, .int a1, .int a2] M (some (.int xr)) N := by
  refine ct_of (lv := [some (.ref a0), some (.int a1), some (.int a2)]) (by decide) (Nat.le_of_ble_eq_true rfl) rfl rfl (fun z hz => ?_)
  unfold fX11_pull at h
  refine v_aload_n hz rfl rfl dX11_pull_0 ?_
  refine v_iload_n hz rfl rfl dX11_pull_1 ?_
  obtain ⟨ck1, h⟩ := ck_inv h
  obtain ⟨ka1, kb1⟩ := isK_of ck1
  obtain ⟨x2, M2, e2, h⟩ := bd_inv h
  refine v_callV hz (As := [.int a1]) vl_X11_111 (tX11_isPerson (r + 2) e2) rfl (by decide) ka1 kb1 rfl rfl rfl (Nat.le_of_ble_eq_true rfl) ⟨by decide, by decide⟩ dX11_pull_2 ?_
  show V z 5 [some (.ref a0), some (.int a1), some (.int a2)] [.int x2] M2 0 0
  refine v_if_eq (tgt := 15) hz dX11_pull_5 (by decide) (fun hc => ?_) (fun hc => ?_)
  · replace h := (if_pos hc).symm.trans h
    refine v_sipush hz (v := (-10001 : Int32)) (by decide) dX11_pull_15 ?_
    obtain ⟨rfl, rfl⟩ := sp_inv h
    exact v_iret hz dX11_pull_18 (by decide) (by decide)
  · replace h := (if_neg hc).symm.trans h
    refine v_iload_n hz rfl rfl dX11_pull_8 ?_
    obtain ⟨x3, M3, e3, h⟩ := bd_inv h
    refine v_callS hz (As := [.int a2]) sl_X11_100 (tX11_isCell (r + 2) e3) rfl rfl rfl (Nat.le_of_ble_eq_true rfl) ⟨by decide, by decide⟩ dX11_pull_9 ?_
    show V z 12 [some (.ref a0), some (.int a1), some (.int a2)] [.int x3] M3 0 0
    refine v_if_ne (tgt := 19) hz dX11_pull_12 (by decide) (fun hc => ?_) (fun hc => ?_)
    · replace h := (if_neg hc).symm.trans h
      refine v_aload_n hz rfl rfl dX11_pull_19 ?_
      obtain ⟨ck4, h⟩ := ck_inv h
      obtain ⟨ka4, kb4⟩ := isK_of ck4
      obtain ⟨b5, r5, h⟩ := rb_inv h
      refine v_getR hz fl_X11_90 rfl dX11_pull_20 ka4 kb4 r5 ?_
      refine v_iload_n hz rfl rfl dX11_pull_23 ?_
      refine v_iload_n hz rfl rfl dX11_pull_24 ?_
      obtain ⟨ck6, h⟩ := ck_inv h
      obtain ⟨ka6, kb6⟩ := isK_of ck6
      obtain ⟨x7, M7, e7, h⟩ := bd_inv h
      refine v_callV hz (As := [.int a1, .int a2]) vl_X11_139 (tX3_pullOn (r + 0) e7) rfl (by decide) ka6 kb6 rfl rfl rfl (Nat.le_of_ble_eq_true rfl) ⟨by decide, by decide⟩ dX11_pull_25 ?_
      show V z 28 [some (.ref a0), some (.int a1), some (.int a2)] [.int x7] M7 0 0
      obtain ⟨rfl, rfl⟩ := sp_inv h
      exact v_iret hz dX11_pull_28 (by decide) (by decide)
    · replace h := (if_pos hc).symm.trans h
      refine v_sipush hz (v := (-10001 : Int32)) (by decide) dX11_pull_15 ?_
      obtain ⟨rfl, rfl⟩ := sp_inv h
      exact v_iret hz dX11_pull_18 (by decide) (by decide)
noncomputable def fX11_put (M : Mem) (a0 : Nat) (a1 : Int32) (a2 : Int32) : Option (Int32 × Mem) :=
  ck (isK M a0 11) <| bd (fX11_isPerson M a0 a1) fun x2 M2 => if x2 = 0 then (some ((-1 : Int32), M2)) else (bd (fX11_isCell M2 a2) fun x3 M3 => if x3 = 0 then (some ((-1 : Int32), M3)) else (ck (isK M3 a0 11) <| rb (mR M3 a0 0) fun b5 => ck (isK M3 b5 3) <| rb (mR M3 b5 7) fun b7 => ck (isK M3 b7 14) <| ck (inb a1 (mG M3 b7)) <| ck (inb a1 (mG M3 b7)) <| some ((mI M3 b7 a1.toNatClampNeg), (stI M3 b7 a1.toNatClampNeg a2))))
set_option maxRecDepth 100000 in
set_option maxHeartbeats 4000000 in
theorem tX11_put (r : Nat) {fx : Fx} {al : Bool} {M N : Mem} {a0 : Nat} {a1 : Int32} {a2 : Int32} {xr : Int32}  (h : fX11_put M a0 a1 a2 = some (xr, N)) : Ct fx yX11_put cX11_put 4 (some .int) (r + 1) 0 0 al [.ref a0, .int a1, .int a2] M (some (.int xr)) N := by
  refine ct_of (lv := [some (.ref a0), some (.int a1), some (.int a2), none]) (by decide) (Nat.le_of_ble_eq_true rfl) rfl rfl (fun z hz => ?_)
  unfold fX11_put at h
  refine v_aload_n hz rfl rfl dX11_put_0 ?_
  refine v_iload_n hz rfl rfl dX11_put_1 ?_
  obtain ⟨ck1, h⟩ := ck_inv h
  obtain ⟨ka1, kb1⟩ := isK_of ck1
  obtain ⟨x2, M2, e2, h⟩ := bd_inv h
  refine v_callV hz (As := [.int a1]) vl_X11_111 (tX11_isPerson (r + 0) e2) rfl (by decide) ka1 kb1 rfl rfl rfl (Nat.le_of_ble_eq_true rfl) ⟨by decide, by decide⟩ dX11_put_2 ?_
  show V z 5 [some (.ref a0), some (.int a1), some (.int a2), none] [.int x2] M2 0 0
  refine v_if_eq (tgt := 15) hz dX11_put_5 (by decide) (fun hc => ?_) (fun hc => ?_)
  · replace h := (if_pos hc).symm.trans h
    refine v_iconst hz (v := (-1 : Int32)) (by decide) dX11_put_15 ?_
    obtain ⟨rfl, rfl⟩ := sp_inv h
    exact v_iret hz dX11_put_16 (by decide) (by decide)
  · replace h := (if_neg hc).symm.trans h
    refine v_iload_n hz rfl rfl dX11_put_8 ?_
    obtain ⟨x3, M3, e3, h⟩ := bd_inv h
    refine v_callS hz (As := [.int a2]) sl_X11_100 (tX11_isCell (r + 0) e3) rfl rfl rfl (Nat.le_of_ble_eq_true rfl) ⟨by decide, by decide⟩ dX11_put_9 ?_
    show V z 12 [some (.ref a0), some (.int a1), some (.int a2), none] [.int x3] M3 0 0
    refine v_if_ne (tgt := 17) hz dX11_put_12 (by decide) (fun hc => ?_) (fun hc => ?_)
    · replace h := (if_neg hc).symm.trans h
      refine v_aload_n hz rfl rfl dX11_put_17 ?_
      obtain ⟨ck4, h⟩ := ck_inv h
      obtain ⟨ka4, kb4⟩ := isK_of ck4
      obtain ⟨b5, r5, h⟩ := rb_inv h
      refine v_getR hz fl_X11_90 rfl dX11_put_18 ka4 kb4 r5 ?_
      obtain ⟨ck6, h⟩ := ck_inv h
      obtain ⟨ka6, kb6⟩ := isK_of ck6
      obtain ⟨b7, r7, h⟩ := rb_inv h
      refine v_getR hz fl_X11_120 rfl dX11_put_21 ka6 kb6 r7 ?_
      refine v_iload_n hz rfl rfl dX11_put_24 ?_
      obtain ⟨ck8, h⟩ := ck_inv h
      obtain ⟨ka8, kb8⟩ := isK_of ck8
      obtain ⟨g9, h⟩ := ck_inv h
      refine v_iaload hz dX11_put_25 ka8 kb8 g9 ?_
      refine v_istore_n hz (lw := [some (.ref a0), some (.int a1), some (.int a2), some (.int (mI M3 b7 a1.toNatClampNeg))]) rfl (Nat.le_of_ble_eq_true rfl) rfl rfl dX11_put_26 ?_
      refine v_aload_n hz rfl rfl dX11_put_27 ?_
      refine v_getR hz fl_X11_90 rfl dX11_put_28 ka4 kb4 r5 ?_
      refine v_getR hz fl_X11_120 rfl dX11_put_31 ka6 kb6 r7 ?_
      refine v_iload_n hz rfl rfl dX11_put_34 ?_
      refine v_iload_n hz rfl rfl dX11_put_35 ?_
      obtain ⟨g10, h⟩ := ck_inv h
      refine v_iastore hz dX11_put_36 ka8 kb8 g10 ?_
      refine v_iload_n hz rfl rfl dX11_put_37 ?_
      obtain ⟨rfl, rfl⟩ := sp_inv h
      exact v_iret hz dX11_put_38 (by decide) (by decide)
    · replace h := (if_pos hc).symm.trans h
      refine v_iconst hz (v := (-1 : Int32)) (by decide) dX11_put_15 ?_
      obtain ⟨rfl, rfl⟩ := sp_inv h
      exact v_iret hz dX11_put_16 (by decide) (by decide)
noncomputable def fX11_wear (M : Mem) (a0 : Nat) (a1 : Int32) (a2 : Int32) : Option (Int32 × Mem) :=
  bd (fX11_isCell M a1) fun x1 M1 => if x1 = 0 then (some ((-1 : Int32), M1)) else (if a2 < 0 then (some ((-2 : Int32), M1)) else (if a2 ≤ (99 : Int32) then (ck (isK M1 a0 11) <| rb (mR M1 a0 0) fun b3 => ck (isK M1 b3 3) <| rb (mR M1 b3 3) fun b5 => ck (isK M1 b5 14) <| ck (inb a1 (mG M1 b5)) <| ck (inb a1 (mG M1 b5)) <| some ((mI M1 b5 a1.toNatClampNeg), (stI M1 b5 a1.toNatClampNeg a2))) else (some ((-2 : Int32), M1))))
set_option maxRecDepth 100000 in
set_option maxHeartbeats 4000000 in
theorem tX11_wear (r : Nat) {fx : Fx} {al : Bool} {M N : Mem} {a0 : Nat} {a1 : Int32} {a2 : Int32} {xr : Int32}  (h : fX11_wear M a0 a1 a2 = some (xr, N)) : Ct fx yX11_wear cX11_wear 4 (some .int) (r + 1) 0 0 al [.ref a0, .int a1, .int a2] M (some (.int xr)) N := by
  refine ct_of (lv := [some (.ref a0), some (.int a1), some (.int a2), none]) (by decide) (Nat.le_of_ble_eq_true rfl) rfl rfl (fun z hz => ?_)
  unfold fX11_wear at h
  refine v_iload_n hz rfl rfl dX11_wear_0 ?_
  obtain ⟨x1, M1, e1, h⟩ := bd_inv h
  refine v_callS hz (As := [.int a1]) sl_X11_100 (tX11_isCell (r + 0) e1) rfl rfl rfl (Nat.le_of_ble_eq_true rfl) ⟨by decide, by decide⟩ dX11_wear_1 ?_
  show V z 4 [some (.ref a0), some (.int a1), some (.int a2), none] [.int x1] M1 0 0
  refine v_if_ne (tgt := 9) hz dX11_wear_4 (by decide) (fun hc => ?_) (fun hc => ?_)
  · replace h := (if_neg hc).symm.trans h
    refine v_iload_n hz rfl rfl dX11_wear_9 ?_
    refine v_if_lt (tgt := 19) hz dX11_wear_10 (by decide) (fun hc => ?_) (fun hc => ?_)
    · replace h := (if_pos hc).symm.trans h
      refine v_bipush hz (v := (-2 : Int32)) (by decide) dX11_wear_19 ?_
      obtain ⟨rfl, rfl⟩ := sp_inv h
      exact v_iret hz dX11_wear_21 (by decide) (by decide)
    · replace h := (if_neg hc).symm.trans h
      refine v_iload_n hz rfl rfl dX11_wear_13 ?_
      refine v_bipush hz (v := (99 : Int32)) (by decide) dX11_wear_14 ?_
      refine v_icmp_le (tgt := 22) hz dX11_wear_16 (by decide) (fun hc => ?_) (fun hc => ?_)
      · replace h := (if_pos hc).symm.trans h
        refine v_aload_n hz rfl rfl dX11_wear_22 ?_
        obtain ⟨ck2, h⟩ := ck_inv h
        obtain ⟨ka2, kb2⟩ := isK_of ck2
        obtain ⟨b3, r3, h⟩ := rb_inv h
        refine v_getR hz fl_X11_90 rfl dX11_wear_23 ka2 kb2 r3 ?_
        obtain ⟨ck4, h⟩ := ck_inv h
        obtain ⟨ka4, kb4⟩ := isK_of ck4
        obtain ⟨b5, r5, h⟩ := rb_inv h
        refine v_getR hz fl_X11_143 rfl dX11_wear_26 ka4 kb4 r5 ?_
        refine v_iload_n hz rfl rfl dX11_wear_29 ?_
        obtain ⟨ck6, h⟩ := ck_inv h
        obtain ⟨ka6, kb6⟩ := isK_of ck6
        obtain ⟨g7, h⟩ := ck_inv h
        refine v_iaload hz dX11_wear_30 ka6 kb6 g7 ?_
        refine v_istore_n hz (lw := [some (.ref a0), some (.int a1), some (.int a2), some (.int (mI M1 b5 a1.toNatClampNeg))]) rfl (Nat.le_of_ble_eq_true rfl) rfl rfl dX11_wear_31 ?_
        refine v_aload_n hz rfl rfl dX11_wear_32 ?_
        refine v_getR hz fl_X11_90 rfl dX11_wear_33 ka2 kb2 r3 ?_
        refine v_getR hz fl_X11_143 rfl dX11_wear_36 ka4 kb4 r5 ?_
        refine v_iload_n hz rfl rfl dX11_wear_39 ?_
        refine v_iload_n hz rfl rfl dX11_wear_40 ?_
        obtain ⟨g8, h⟩ := ck_inv h
        refine v_iastore hz dX11_wear_41 ka6 kb6 g8 ?_
        refine v_iload_n hz rfl rfl dX11_wear_42 ?_
        obtain ⟨rfl, rfl⟩ := sp_inv h
        exact v_iret hz dX11_wear_43 (by decide) (by decide)
      · replace h := (if_neg hc).symm.trans h
        refine v_bipush hz (v := (-2 : Int32)) (by decide) dX11_wear_19 ?_
        obtain ⟨rfl, rfl⟩ := sp_inv h
        exact v_iret hz dX11_wear_21 (by decide) (by decide)
  · replace h := (if_pos hc).symm.trans h
    refine v_iconst hz (v := (-1 : Int32)) (by decide) dX11_wear_7 ?_
    obtain ⟨rfl, rfl⟩ := sp_inv h
    exact v_iret hz dX11_wear_8 (by decide) (by decide)
noncomputable def gX11_away_27  (M : Mem) (l0 : Nat) (l1 : Int32) (l2 : Int32) (s0 : Int32) : Option (Int32 × Mem) :=
  ck (isK M l0 11) <| rb (mR M l0 0) fun b10 => ck (isK M b10 3) <| rb (mR M b10 8) fun b12 => ck (isK M b12 16) <| ck (inb l1 (mG M b12)) <| ck (b01 l2) <| some (s0, (stI M b12 l1.toNatClampNeg l2))
noncomputable def fX11_away (M : Mem) (a0 : Nat) (a1 : Int32) (a2 : Int32) : Option (Int32 × Mem) :=
  ck (isK M a0 11) <| bd (fX11_isPerson M a0 a1) fun x2 M2 => if x2 = 0 then (some ((-1 : Int32), M2)) else (ck (isK M2 a0 11) <| rb (mR M2 a0 0) fun b4 => ck (isK M2 b4 3) <| rb (mR M2 b4 8) fun b6 => ck (isK M2 b6 16) <| ck (inb a1 (mG M2 b6)) <| if (mI M2 b6 a1.toNatClampNeg) = 0 then (gX11_away_27 M2 a0 a1 a2 (0 : Int32)) else (gX11_away_27 M2 a0 a1 a2 (1 : Int32)))
set_option maxRecDepth 100000 in
set_option maxHeartbeats 4000000 in
theorem wX11_away_27 {z : Zx} {fx : Fx} {al : Bool} {r : Nat} {N : Mem} {xr : Int32} (hz : Zok z fx al yX11_away.cls yX11_away.name cX11_away (some .int) 4 (r + 1) 0 0 (some (.int xr)) N)    {M : Mem} {l0 : Nat} {l1 : Int32} {l2 : Int32} {s0 : Int32} (h : gX11_away_27  M l0 l1 l2 s0 = some (xr, N)) : V z 27 [some (.ref l0), some (.int l1), some (.int l2), none] [.int s0] M 0 0 := by
  unfold gX11_away_27 at h
  refine v_istore_n hz (lw := [some (.ref l0), some (.int l1), some (.int l2), some (.int s0)]) rfl (Nat.le_of_ble_eq_true rfl) rfl rfl dX11_away_27 ?_
  refine v_aload_n hz rfl rfl dX11_away_28 ?_
  obtain ⟨ck9, h⟩ := ck_inv h
  obtain ⟨ka9, kb9⟩ := isK_of ck9
  obtain ⟨b10, r10, h⟩ := rb_inv h
  refine v_getR hz fl_X11_90 rfl dX11_away_29 ka9 kb9 r10 ?_
  obtain ⟨ck11, h⟩ := ck_inv h
  obtain ⟨ka11, kb11⟩ := isK_of ck11
  obtain ⟨b12, r12, h⟩ := rb_inv h
  refine v_getR hz fl_X11_123 rfl dX11_away_32 ka11 kb11 r12 ?_
  refine v_iload_n hz rfl rfl dX11_away_35 ?_
  refine v_iload_n hz rfl rfl dX11_away_36 ?_
  obtain ⟨ck13, h⟩ := ck_inv h
  obtain ⟨ka13, kb13⟩ := isK_of ck13
  obtain ⟨g14, h⟩ := ck_inv h
  obtain ⟨g15, h⟩ := ck_inv h
  refine v_zastore hz (b01_of g15) dX11_away_37 ka13 kb13 g14 ?_
  refine v_iload_n hz rfl rfl dX11_away_38 ?_
  obtain ⟨rfl, rfl⟩ := sp_inv h
  exact v_iret hz dX11_away_39 (by decide) (by decide)
set_option maxRecDepth 100000 in
set_option maxHeartbeats 4000000 in
theorem tX11_away (r : Nat) {fx : Fx} {al : Bool} {M N : Mem} {a0 : Nat} {a1 : Int32} {a2 : Int32} {xr : Int32}  (h : fX11_away M a0 a1 a2 = some (xr, N)) : Ct fx yX11_away cX11_away 4 (some .int) (r + 1) 0 0 al [.ref a0, .int a1, .int a2] M (some (.int xr)) N := by
  refine ct_of (lv := [some (.ref a0), some (.int a1), some (.int a2), none]) (by decide) (Nat.le_of_ble_eq_true rfl) rfl rfl (fun z hz => ?_)
  unfold fX11_away at h
  refine v_aload_n hz rfl rfl dX11_away_0 ?_
  refine v_iload_n hz rfl rfl dX11_away_1 ?_
  obtain ⟨ck1, h⟩ := ck_inv h
  obtain ⟨ka1, kb1⟩ := isK_of ck1
  obtain ⟨x2, M2, e2, h⟩ := bd_inv h
  refine v_callV hz (As := [.int a1]) vl_X11_111 (tX11_isPerson (r + 0) e2) rfl (by decide) ka1 kb1 rfl rfl rfl (Nat.le_of_ble_eq_true rfl) ⟨by decide, by decide⟩ dX11_away_2 ?_
  show V z 5 [some (.ref a0), some (.int a1), some (.int a2), none] [.int x2] M2 0 0
  refine v_if_ne (tgt := 10) hz dX11_away_5 (by decide) (fun hc => ?_) (fun hc => ?_)
  · replace h := (if_neg hc).symm.trans h
    refine v_aload_n hz rfl rfl dX11_away_10 ?_
    obtain ⟨ck3, h⟩ := ck_inv h
    obtain ⟨ka3, kb3⟩ := isK_of ck3
    obtain ⟨b4, r4, h⟩ := rb_inv h
    refine v_getR hz fl_X11_90 rfl dX11_away_11 ka3 kb3 r4 ?_
    obtain ⟨ck5, h⟩ := ck_inv h
    obtain ⟨ka5, kb5⟩ := isK_of ck5
    obtain ⟨b6, r6, h⟩ := rb_inv h
    refine v_getR hz fl_X11_123 rfl dX11_away_14 ka5 kb5 r6 ?_
    refine v_iload_n hz rfl rfl dX11_away_17 ?_
    obtain ⟨ck7, h⟩ := ck_inv h
    obtain ⟨ka7, kb7⟩ := isK_of ck7
    obtain ⟨g8, h⟩ := ck_inv h
    refine v_zaload hz dX11_away_18 ka7 kb7 g8 ?_
    refine v_if_eq (tgt := 26) hz dX11_away_19 (by decide) (fun hc => ?_) (fun hc => ?_)
    · replace h := (if_pos hc).symm.trans h
      refine v_iconst hz (v := (0 : Int32)) (by decide) dX11_away_26 ?_
      exact v_weak (lvle_s (lvle_s (lvle_s (lvle_n lvle_0)))) (wX11_away_27 hz   h)
    · replace h := (if_neg hc).symm.trans h
      refine v_iconst hz (v := (1 : Int32)) (by decide) dX11_away_22 ?_
      refine v_goto (tgt := 27) hz dX11_away_23 (by decide) ?_
      exact v_weak (lvle_s (lvle_s (lvle_s (lvle_n lvle_0)))) (wX11_away_27 hz   h)
  · replace h := (if_pos hc).symm.trans h
    refine v_iconst hz (v := (-1 : Int32)) (by decide) dX11_away_8 ?_
    obtain ⟨rfl, rfl⟩ := sp_inv h
    exact v_iret hz dX11_away_9 (by decide) (by decide)
noncomputable def fX11_row (M : Mem) (a0 : Nat) (a1 : Int32) (a2 : Int32) (a3 : Int32) : Option (Int32 × Mem) :=
  ck (isK M a0 11) <| bd (fX11_isPerson M a0 a1) fun x2 M2 => if x2 = 0 then (some ((-1 : Int32), M2)) else (if a2 < 0 then (some ((-1 : Int32), M2)) else (if a2 < (4 : Int32) then (bd (fX11_isDigit M2 a3) fun x3 M3 => if x3 = 0 then (some ((-2 : Int32), M3)) else (ck (isK M3 a0 11) <| rb (mR M3 a0 0) fun b5 => ck (isK M3 b5 3) <| bd (fX3_kindOf M3 b5 a1) fun x7 M7 => bd (inst8 M7 x7) fun x8 M8 => if x8 = 0 then (some ((-3 : Int32), M8)) else (ck (isK M8 a0 11) <| rb (mR M8 a0 0) fun b10 => ck (isK M8 b10 3) <| rb (mR M8 b10 9) fun b12 => ck (isK M8 b12 14) <| ck (inb ((a1 * (4 : Int32)) + a2) (mG M8 b12)) <| ck (inb ((a1 * (4 : Int32)) + a2) (mG M8 b12)) <| some ((mI M8 b12 ((a1 * (4 : Int32)) + a2).toNatClampNeg), (stI M8 b12 ((a1 * (4 : Int32)) + a2).toNatClampNeg a3))))) else (some ((-1 : Int32), M2))))
set_option maxRecDepth 100000 in
set_option maxHeartbeats 4000000 in
theorem tX11_row (r : Nat) {fx : Fx} {al : Bool} {M N : Mem} {a0 : Nat} {a1 : Int32} {a2 : Int32} {a3 : Int32} {xr : Int32}  (h : fX11_row M a0 a1 a2 a3 = some (xr, N)) : Ct fx yX11_row cX11_row 6 (some .int) (r + 1) 0 0 al [.ref a0, .int a1, .int a2, .int a3] M (some (.int xr)) N := by
  refine ct_of (lv := [some (.ref a0), some (.int a1), some (.int a2), some (.int a3), none, none]) (by decide) (Nat.le_of_ble_eq_true rfl) rfl rfl (fun z hz => ?_)
  unfold fX11_row at h
  refine v_aload_n hz rfl rfl dX11_row_0 ?_
  refine v_iload_n hz rfl rfl dX11_row_1 ?_
  obtain ⟨ck1, h⟩ := ck_inv h
  obtain ⟨ka1, kb1⟩ := isK_of ck1
  obtain ⟨x2, M2, e2, h⟩ := bd_inv h
  refine v_callV hz (As := [.int a1]) vl_X11_111 (tX11_isPerson (r + 0) e2) rfl (by decide) ka1 kb1 rfl rfl rfl (Nat.le_of_ble_eq_true rfl) ⟨by decide, by decide⟩ dX11_row_2 ?_
  show V z 5 [some (.ref a0), some (.int a1), some (.int a2), some (.int a3), none, none] [.int x2] M2 0 0
  refine v_if_eq (tgt := 17) hz dX11_row_5 (by decide) (fun hc => ?_) (fun hc => ?_)
  · replace h := (if_pos hc).symm.trans h
    refine v_iconst hz (v := (-1 : Int32)) (by decide) dX11_row_17 ?_
    obtain ⟨rfl, rfl⟩ := sp_inv h
    exact v_iret hz dX11_row_18 (by decide) (by decide)
  · replace h := (if_neg hc).symm.trans h
    refine v_iload_n hz rfl rfl dX11_row_8 ?_
    refine v_if_lt (tgt := 17) hz dX11_row_9 (by decide) (fun hc => ?_) (fun hc => ?_)
    · replace h := (if_pos hc).symm.trans h
      refine v_iconst hz (v := (-1 : Int32)) (by decide) dX11_row_17 ?_
      obtain ⟨rfl, rfl⟩ := sp_inv h
      exact v_iret hz dX11_row_18 (by decide) (by decide)
    · replace h := (if_neg hc).symm.trans h
      refine v_iload_n hz rfl rfl dX11_row_12 ?_
      refine v_iconst hz (v := (4 : Int32)) (by decide) dX11_row_13 ?_
      refine v_icmp_lt (tgt := 19) hz dX11_row_14 (by decide) (fun hc => ?_) (fun hc => ?_)
      · replace h := (if_pos hc).symm.trans h
        refine v_iload_n hz rfl rfl dX11_row_19 ?_
        obtain ⟨x3, M3, e3, h⟩ := bd_inv h
        refine v_callS hz (As := [.int a3]) sl_X11_104 (tX11_isDigit (r + 0) e3) rfl rfl rfl (Nat.le_of_ble_eq_true rfl) ⟨by decide, by decide⟩ dX11_row_20 ?_
        show V z 23 [some (.ref a0), some (.int a1), some (.int a2), some (.int a3), none, none] [.int x3] M3 0 0
        refine v_if_ne (tgt := 29) hz dX11_row_23 (by decide) (fun hc => ?_) (fun hc => ?_)
        · replace h := (if_neg hc).symm.trans h
          refine v_aload_n hz rfl rfl dX11_row_29 ?_
          obtain ⟨ck4, h⟩ := ck_inv h
          obtain ⟨ka4, kb4⟩ := isK_of ck4
          obtain ⟨b5, r5, h⟩ := rb_inv h
          refine v_getR hz fl_X11_90 rfl dX11_row_30 ka4 kb4 r5 ?_
          refine v_iload_n hz rfl rfl dX11_row_33 ?_
          obtain ⟨ck6, h⟩ := ck_inv h
          obtain ⟨ka6, kb6⟩ := isK_of ck6
          obtain ⟨x7, M7, e7, h⟩ := bd_inv h
          refine v_callV hz (As := [.int a1]) vl_X11_131 (tX3_kindOf (r + 0) e7) rfl (by decide) ka6 kb6 rfl rfl rfl (Nat.le_of_ble_eq_true rfl) ⟨by decide, by decide⟩ dX11_row_34 ?_
          show V z 37 [some (.ref a0), some (.int a1), some (.int a2), some (.int a3), none, none] [.ref x7] M7 0 0
          obtain ⟨x8, M8, e8, h⟩ := bd_inv h
          refine v_inst8 hz wq_198 dX11_row_37 e8 ?_
          refine v_if_ne (tgt := 46) hz dX11_row_40 (by decide) (fun hc => ?_) (fun hc => ?_)
          · replace h := (if_neg hc).symm.trans h
            refine v_iload_n hz rfl rfl dX11_row_46 ?_
            refine v_iconst hz (v := (4 : Int32)) (by decide) dX11_row_47 ?_
            refine v_imul hz dX11_row_48 ?_
            refine v_iload_n hz rfl rfl dX11_row_49 ?_
            refine v_iadd hz dX11_row_50 ?_
            refine v_istore hz (lw := [some (.ref a0), some (.int a1), some (.int a2), some (.int a3), some (.int ((a1 * (4 : Int32)) + a2)), none]) (Nat.le_of_ble_eq_true rfl) rfl rfl dX11_row_51 ?_
            refine v_aload_n hz rfl rfl dX11_row_53 ?_
            obtain ⟨ck9, h⟩ := ck_inv h
            obtain ⟨ka9, kb9⟩ := isK_of ck9
            obtain ⟨b10, r10, h⟩ := rb_inv h
            refine v_getR hz fl_X11_90 rfl dX11_row_54 ka9 kb9 r10 ?_
            obtain ⟨ck11, h⟩ := ck_inv h
            obtain ⟨ka11, kb11⟩ := isK_of ck11
            obtain ⟨b12, r12, h⟩ := rb_inv h
            refine v_getR hz fl_X11_146 rfl dX11_row_57 ka11 kb11 r12 ?_
            refine v_iload hz rfl dX11_row_60 ?_
            obtain ⟨ck13, h⟩ := ck_inv h
            obtain ⟨ka13, kb13⟩ := isK_of ck13
            obtain ⟨g14, h⟩ := ck_inv h
            refine v_iaload hz dX11_row_62 ka13 kb13 g14 ?_
            refine v_istore hz (lw := [some (.ref a0), some (.int a1), some (.int a2), some (.int a3), some (.int ((a1 * (4 : Int32)) + a2)), some (.int (mI M8 b12 ((a1 * (4 : Int32)) + a2).toNatClampNeg))]) (Nat.le_of_ble_eq_true rfl) rfl rfl dX11_row_63 ?_
            refine v_aload_n hz rfl rfl dX11_row_65 ?_
            refine v_getR hz fl_X11_90 rfl dX11_row_66 ka9 kb9 r10 ?_
            refine v_getR hz fl_X11_146 rfl dX11_row_69 ka11 kb11 r12 ?_
            refine v_iload hz rfl dX11_row_72 ?_
            refine v_iload_n hz rfl rfl dX11_row_74 ?_
            obtain ⟨g15, h⟩ := ck_inv h
            refine v_iastore hz dX11_row_75 ka13 kb13 g15 ?_
            refine v_iload hz rfl dX11_row_76 ?_
            obtain ⟨rfl, rfl⟩ := sp_inv h
            exact v_iret hz dX11_row_78 (by decide) (by decide)
          · replace h := (if_pos hc).symm.trans h
            refine v_bipush hz (v := (-3 : Int32)) (by decide) dX11_row_43 ?_
            obtain ⟨rfl, rfl⟩ := sp_inv h
            exact v_iret hz dX11_row_45 (by decide) (by decide)
        · replace h := (if_pos hc).symm.trans h
          refine v_bipush hz (v := (-2 : Int32)) (by decide) dX11_row_26 ?_
          obtain ⟨rfl, rfl⟩ := sp_inv h
          exact v_iret hz dX11_row_28 (by decide) (by decide)
      · replace h := (if_neg hc).symm.trans h
        refine v_iconst hz (v := (-1 : Int32)) (by decide) dX11_row_17 ?_
        obtain ⟨rfl, rfl⟩ := sp_inv h
        exact v_iret hz dX11_row_18 (by decide) (by decide)
noncomputable def fX11_feed (M : Mem) (a0 : Nat) (a1 : Int32) : Option (Int32 × Mem) :=
  if a1 < 0 then (some ((-2 : Int32), M)) else (if a1 < (128 : Int32) then (ck (isK M a0 11) <| if (mI M a0 11) < (100 : Int32) then (rb (mR M a0 10) fun b2 => ck (isK M b2 13) <| ck (inb (mI M a0 11) (mG M b2)) <| nm (stI (stI M b2 (mI M a0 11).toNatClampNeg a1.toInt8.toInt32.toInt8.toInt32) a0 11 ((mI (stI M b2 (mI M a0 11).toNatClampNeg a1.toInt8.toInt32.toInt8.toInt32) a0 11) + (1 : Int32))) fun M5 => ck (isK M5 a0 11) <| some ((mI M5 a0 11), M5)) else (some ((-4 : Int32), M))) else (some ((-2 : Int32), M)))
set_option maxRecDepth 100000 in
set_option maxHeartbeats 4000000 in
theorem tX11_feed (r : Nat) {fx : Fx} {al : Bool} {M N : Mem} {a0 : Nat} {a1 : Int32} {xr : Int32}  (h : fX11_feed M a0 a1 = some (xr, N)) : Ct fx yX11_feed cX11_feed 2 (some .int) (r + 0) 0 0 al [.ref a0, .int a1] M (some (.int xr)) N := by
  refine ct_of (lv := [some (.ref a0), some (.int a1)]) (by decide) (Nat.le_of_ble_eq_true rfl) rfl rfl (fun z hz => ?_)
  unfold fX11_feed at h
  refine v_iload_n hz rfl rfl dX11_feed_0 ?_
  refine v_if_lt (tgt := 11) hz dX11_feed_1 (by decide) (fun hc => ?_) (fun hc => ?_)
  · replace h := (if_pos hc).symm.trans h
    refine v_bipush hz (v := (-2 : Int32)) (by decide) dX11_feed_11 ?_
    obtain ⟨rfl, rfl⟩ := sp_inv h
    exact v_iret hz dX11_feed_13 (by decide) (by decide)
  · replace h := (if_neg hc).symm.trans h
    refine v_iload_n hz rfl rfl dX11_feed_4 ?_
    refine v_sipush hz (v := (128 : Int32)) (by decide) dX11_feed_5 ?_
    refine v_icmp_lt (tgt := 14) hz dX11_feed_8 (by decide) (fun hc => ?_) (fun hc => ?_)
    · replace h := (if_pos hc).symm.trans h
      refine v_aload_n hz rfl rfl dX11_feed_14 ?_
      obtain ⟨ck1, h⟩ := ck_inv h
      obtain ⟨ka1, kb1⟩ := isK_of ck1
      refine v_getI hz fl_X11_149 rfl dX11_feed_15 ka1 kb1 ?_
      refine v_bipush hz (v := (100 : Int32)) (by decide) dX11_feed_18 ?_
      refine v_icmp_lt (tgt := 26) hz dX11_feed_20 (by decide) (fun hc => ?_) (fun hc => ?_)
      · replace h := (if_pos hc).symm.trans h
        refine v_aload_n hz rfl rfl dX11_feed_26 ?_
        obtain ⟨b2, r2, h⟩ := rb_inv h
        refine v_getR hz fl_X11_35 rfl dX11_feed_27 ka1 kb1 r2 ?_
        refine v_aload_n hz rfl rfl dX11_feed_30 ?_
        refine v_getI hz fl_X11_149 rfl dX11_feed_31 ka1 kb1 ?_
        refine v_iload_n hz rfl rfl dX11_feed_34 ?_
        refine v_i2b hz dX11_feed_35 ?_
        obtain ⟨ck3, h⟩ := ck_inv h
        obtain ⟨ka3, kb3⟩ := isK_of ck3
        obtain ⟨g4, h⟩ := ck_inv h
        refine v_bastore hz dX11_feed_36 ka3 kb3 g4 ?_
        refine v_aload_n hz rfl rfl dX11_feed_37 ?_
        refine v_dup hz rfl dX11_feed_38 ?_
        refine v_getI hz fl_X11_149 rfl dX11_feed_39 ka1 kb1 ?_
        refine v_iconst hz (v := (1 : Int32)) (by decide) dX11_feed_42 ?_
        refine v_iadd hz dX11_feed_43 ?_
        refine v_putI hz fl_X11_149 ft_11_11 (by decide) rfl rfl rfl dX11_feed_44 ka1 kb1 ?_
        obtain ⟨M5, eM5, h⟩ := nm_inv h
        refine v_mem eM5.symm ?_
        refine v_aload_n hz rfl rfl dX11_feed_47 ?_
        obtain ⟨ck6, h⟩ := ck_inv h
        obtain ⟨ka6, kb6⟩ := isK_of ck6
        refine v_getI hz fl_X11_149 rfl dX11_feed_48 ka6 kb6 ?_
        obtain ⟨rfl, rfl⟩ := sp_inv h
        exact v_iret hz dX11_feed_51 (by decide) (by decide)
      · replace h := (if_neg hc).symm.trans h
        refine v_bipush hz (v := (-4 : Int32)) (by decide) dX11_feed_23 ?_
        obtain ⟨rfl, rfl⟩ := sp_inv h
        exact v_iret hz dX11_feed_25 (by decide) (by decide)
    · replace h := (if_neg hc).symm.trans h
      refine v_bipush hz (v := (-2 : Int32)) (by decide) dX11_feed_11 ?_
      obtain ⟨rfl, rfl⟩ := sp_inv h
      exact v_iret hz dX11_feed_13 (by decide) (by decide)
noncomputable def fX11_statute (M : Mem) (a0 : Nat) : Option (Int32 × Mem) :=
  ck (isK M a0 11) <| if (mI M a0 13) < (6 : Int32) then (rb (mR M a0 12) fun b2 => rb (mR M a0 10) fun b3 => ck (isK M b2 7) <| bd (fX7_readFrom M b2 b3 (mI M a0 11)) fun x5 M5 => ck (isK M5 a0 11) <| if x5 = 0 then (rb (mR (stI M5 a0 11 (0 : Int32)) a0 12) fun b15 => ck (isK (stI M5 a0 11 (0 : Int32)) b15 7) <| some (((-10 : Int32) - (mI (stI M5 a0 11 (0 : Int32)) b15 5)), (stI M5 a0 11 (0 : Int32)))) else (rb (mR (stI M5 a0 11 (0 : Int32)) a0 0) fun b7 => rb (mR (stI M5 a0 11 (0 : Int32)) a0 12) fun b8 => ck (isK (stI M5 a0 11 (0 : Int32)) b7 3) <| nm (alc (stR (stI M5 a0 11 (0 : Int32)) b7 1 (some b8)) 7 0) fun M10 => bd (fX7_init M10 (mN (stR (stI M5 a0 11 (0 : Int32)) b7 1 (some b8)))) fun x11 M11 => ck (isK M11 a0 11) <| nm (stI (stR M11 a0 12 (some (mN (stR (stI M5 a0 11 (0 : Int32)) b7 1 (some b8))))) a0 13 ((mI (stR M11 a0 12 (some (mN (stR (stI M5 a0 11 (0 : Int32)) b7 1 (some b8))))) a0 13) + (1 : Int32))) fun M13 => ck (isK M13 a0 11) <| some (((mI M13 a0 13) - (1 : Int32)), M13))) else (some ((-4 : Int32), M))
set_option maxRecDepth 100000 in
set_option maxHeartbeats 4000000 in
theorem tX11_statute (r : Nat) {fx : Fx} {M N : Mem} {a0 : Nat} {xr : Int32}  (h : fX11_statute M a0 = some (xr, N)) : Ct fx yX11_statute cX11_statute 2 (some .int) (r + 32) 2 107 true [.ref a0] M (some (.int xr)) N := by
  refine ct_of (lv := [some (.ref a0), none]) (by decide) (Nat.le_of_ble_eq_true rfl) rfl rfl (fun z hz => ?_)
  unfold fX11_statute at h
  refine v_aload_n hz rfl rfl dX11_statute_0 ?_
  obtain ⟨ck1, h⟩ := ck_inv h
  obtain ⟨ka1, kb1⟩ := isK_of ck1
  refine v_getI hz fl_X11_153 rfl dX11_statute_1 ka1 kb1 ?_
  refine v_bipush hz (v := (6 : Int32)) (by decide) dX11_statute_4 ?_
  refine v_icmp_lt (tgt := 12) hz dX11_statute_6 (by decide) (fun hc => ?_) (fun hc => ?_)
  · replace h := (if_pos hc).symm.trans h
    refine v_aload_n hz rfl rfl dX11_statute_12 ?_
    obtain ⟨b2, r2, h⟩ := rb_inv h
    refine v_getR hz fl_X11_42 rfl dX11_statute_13 ka1 kb1 r2 ?_
    refine v_aload_n hz rfl rfl dX11_statute_16 ?_
    obtain ⟨b3, r3, h⟩ := rb_inv h
    refine v_getR hz fl_X11_35 rfl dX11_statute_17 ka1 kb1 r3 ?_
    refine v_aload_n hz rfl rfl dX11_statute_20 ?_
    refine v_getI hz fl_X11_149 rfl dX11_statute_21 ka1 kb1 ?_
    obtain ⟨ck4, h⟩ := ck_inv h
    obtain ⟨ka4, kb4⟩ := isK_of ck4
    obtain ⟨x5, M5, e5, h⟩ := bd_inv h
    refine v_callV hz (As := [.ref b3, .int (mI M a0 11)]) vl_X11_156 (tX7_readFrom (r + 0) e5) rfl (by decide) ka4 kb4 rfl rfl rfl (Nat.le_of_ble_eq_true rfl) ⟨by decide, by decide⟩ dX11_statute_24 ?_
    show V z 27 [some (.ref a0), none] [.int x5] M5 0 0
    refine v_istore_n hz (lw := [some (.ref a0), some (.int x5)]) rfl (Nat.le_of_ble_eq_true rfl) rfl rfl dX11_statute_27 ?_
    refine v_aload_n hz rfl rfl dX11_statute_28 ?_
    refine v_iconst hz (v := (0 : Int32)) (by decide) dX11_statute_29 ?_
    obtain ⟨ck6, h⟩ := ck_inv h
    obtain ⟨ka6, kb6⟩ := isK_of ck6
    refine v_putI hz fl_X11_149 ft_11_11 (by decide) rfl rfl rfl dX11_statute_30 ka6 kb6 ?_
    refine v_iload_n hz rfl rfl dX11_statute_33 ?_
    refine v_if_ne (tgt := 48) hz dX11_statute_34 (by decide) (fun hc => ?_) (fun hc => ?_)
    · replace h := (if_neg hc).symm.trans h
      refine v_aload_n hz rfl rfl dX11_statute_48 ?_
      obtain ⟨b7, r7, h⟩ := rb_inv h
      refine v_getR hz fl_X11_90 rfl dX11_statute_49 ka6 kb6 r7 ?_
      refine v_aload_n hz rfl rfl dX11_statute_52 ?_
      obtain ⟨b8, r8, h⟩ := rb_inv h
      refine v_getR hz fl_X11_42 rfl dX11_statute_53 ka6 kb6 r8 ?_
      obtain ⟨ck9, h⟩ := ck_inv h
      obtain ⟨ka9, kb9⟩ := isK_of ck9
      refine v_putR hz fl_X11_163 ft_3_1 (by decide) rfl (fun _ => rfl) (fun _ => rfl) dX11_statute_56 ka9 kb9 ?_
      refine v_aload_n hz rfl rfl dX11_statute_59 ?_
      refine v_new hz nw_X11_39 (by decide) (by decide) dX11_statute_60 ?_
      obtain ⟨M10, eM10, h⟩ := nm_inv h
      refine v_mem eM10.symm ?_
      refine v_dup hz rfl dX11_statute_63 ?_
      obtain ⟨x11, M11, e11, h⟩ := bd_inv h
      refine v_callIN hz (As := []) nl_X11_41 rfl (tX7_init (r + 30) e11) rfl rfl rfl (Nat.le_of_ble_eq_true rfl) ⟨by decide, by decide⟩ dX11_statute_64 ?_
      show V z 67 [some (.ref a0), some (.int x5)] [.ref (mN (stR (stI M5 a0 11 (0 : Int32)) b7 1 (some b8))), .ref a0] M11 2 107
      obtain ⟨ck12, h⟩ := ck_inv h
      obtain ⟨ka12, kb12⟩ := isK_of ck12
      refine v_putR hz fl_X11_42 ft_11_12 (by decide) rfl (fun _ => rfl) (fun _ => rfl) dX11_statute_67 ka12 kb12 ?_
      refine v_aload_n hz rfl rfl dX11_statute_70 ?_
      refine v_dup hz rfl dX11_statute_71 ?_
      refine v_getI hz fl_X11_153 rfl dX11_statute_72 ka12 kb12 ?_
      refine v_iconst hz (v := (1 : Int32)) (by decide) dX11_statute_75 ?_
      refine v_iadd hz dX11_statute_76 ?_
      refine v_putI hz fl_X11_153 ft_11_13 (by decide) rfl rfl rfl dX11_statute_77 ka12 kb12 ?_
      obtain ⟨M13, eM13, h⟩ := nm_inv h
      refine v_mem eM13.symm ?_
      refine v_aload_n hz rfl rfl dX11_statute_80 ?_
      obtain ⟨ck14, h⟩ := ck_inv h
      obtain ⟨ka14, kb14⟩ := isK_of ck14
      refine v_getI hz fl_X11_153 rfl dX11_statute_81 ka14 kb14 ?_
      refine v_iconst hz (v := (1 : Int32)) (by decide) dX11_statute_84 ?_
      refine v_isub hz dX11_statute_85 ?_
      obtain ⟨rfl, rfl⟩ := sp_inv h
      exact v_iret hz dX11_statute_86 (by decide) (by decide)
    · replace h := (if_pos hc).symm.trans h
      refine v_bipush hz (v := (-10 : Int32)) (by decide) dX11_statute_37 ?_
      refine v_aload_n hz rfl rfl dX11_statute_39 ?_
      obtain ⟨b15, r15, h⟩ := rb_inv h
      refine v_getR hz fl_X11_42 rfl dX11_statute_40 ka6 kb6 r15 ?_
      obtain ⟨ck16, h⟩ := ck_inv h
      obtain ⟨ka16, kb16⟩ := isK_of ck16
      refine v_getI hz fl_X11_160 rfl dX11_statute_43 ka16 kb16 ?_
      refine v_isub hz dX11_statute_46 ?_
      obtain ⟨rfl, rfl⟩ := sp_inv h
      exact v_iret hz dX11_statute_47 (by decide) (by decide)
  · replace h := (if_neg hc).symm.trans h
    refine v_bipush hz (v := (-4 : Int32)) (by decide) dX11_statute_9 ?_
    obtain ⟨rfl, rfl⟩ := sp_inv h
    exact v_iret hz dX11_statute_11 (by decide) (by decide)
noncomputable def fX11_told (M : Mem) (a0 : Nat) (a1 : Int32) : Option (Int32 × Mem) :=
  if a1 = (0 : Int32) then (ck (isK M a0 11) <| rb (mR M a0 0) fun b3 => ck (isK M b3 3) <| some ((mI M b3 2), M)) else if a1 = (1 : Int32) then (ck (isK M a0 11) <| rb (mR M a0 0) fun b6 => ck (isK M b6 3) <| rb (mR M b6 1) fun b8 => ck (isK M b8 7) <| some ((mI M b8 2), M)) else if a1 = (2 : Int32) then (ck (isK M a0 11) <| rb (mR M a0 0) fun b11 => ck (isK M b11 3) <| bd (fX3_countBald M b11) fun x13 M13 => some (x13, M13)) else if a1 = (3 : Int32) then (ck (isK M a0 11) <| rb (mR M a0 0) fun b15 => ck (isK M b15 3) <| bd (fX3_wearOfAll M b15) fun x17 M17 => some (x17, M17)) else if a1 = (4 : Int32) then (ck (isK M a0 11) <| rb (mR M a0 0) fun b19 => ck (isK M b19 3) <| bd (fX3_beating M b19) fun x21 M21 => some (x21, M21)) else (bd (fX11_isCell M (a1 - (10 : Int32))) fun x22 M22 => if x22 = 0 then (some ((-1 : Int32), M22)) else (ck (isK M22 a0 11) <| rb (mR M22 a0 0) fun b24 => ck (isK M22 b24 3) <| rb (mR M22 b24 3) fun b26 => ck (isK M22 b26 14) <| ck (inb (a1 - (10 : Int32)) (mG M22 b26)) <| some ((mI M22 b26 (a1 - (10 : Int32)).toNatClampNeg), M22)))
set_option maxRecDepth 100000 in
set_option maxHeartbeats 4000000 in
theorem tX11_told (r : Nat) {fx : Fx} {al : Bool} {M N : Mem} {a0 : Nat} {a1 : Int32} {xr : Int32}  (h : fX11_told M a0 a1 = some (xr, N)) : Ct fx yX11_told cX11_told 2 (some .int) (r + 2) 0 0 al [.ref a0, .int a1] M (some (.int xr)) N := by
  refine ct_of (lv := [some (.ref a0), some (.int a1)]) (by decide) (Nat.le_of_ble_eq_true rfl) rfl rfl (fun z hz => ?_)
  unfold fX11_told at h
  refine v_iload_n hz rfl rfl dX11_told_0 ?_
  by_cases hs1_0 : a1 = (0 : Int32)
  · replace h := (if_pos hs1_0).symm.trans h
    refine v_tableAt (tgt := 36) hz hs1_0 dX11_told_1 (by decide) (by decide) (by decide) (by decide) ?_
    refine v_aload_n hz rfl rfl dX11_told_36 ?_
    obtain ⟨ck2, h⟩ := ck_inv h
    obtain ⟨ka2, kb2⟩ := isK_of ck2
    obtain ⟨b3, r3, h⟩ := rb_inv h
    refine v_getR hz fl_X11_90 rfl dX11_told_37 ka2 kb2 r3 ?_
    obtain ⟨ck4, h⟩ := ck_inv h
    obtain ⟨ka4, kb4⟩ := isK_of ck4
    refine v_getI hz fl_X11_166 rfl dX11_told_40 ka4 kb4 ?_
    obtain ⟨rfl, rfl⟩ := sp_inv h
    exact v_iret hz dX11_told_43 (by decide) (by decide)
  replace h := (if_neg hs1_0).symm.trans h
  by_cases hs1_1 : a1 = (1 : Int32)
  · replace h := (if_pos hs1_1).symm.trans h
    refine v_tableAt (tgt := 44) hz hs1_1 dX11_told_1 (by decide) (by decide) (by decide) (by decide) ?_
    refine v_aload_n hz rfl rfl dX11_told_44 ?_
    obtain ⟨ck5, h⟩ := ck_inv h
    obtain ⟨ka5, kb5⟩ := isK_of ck5
    obtain ⟨b6, r6, h⟩ := rb_inv h
    refine v_getR hz fl_X11_90 rfl dX11_told_45 ka5 kb5 r6 ?_
    obtain ⟨ck7, h⟩ := ck_inv h
    obtain ⟨ka7, kb7⟩ := isK_of ck7
    obtain ⟨b8, r8, h⟩ := rb_inv h
    refine v_getR hz fl_X11_163 rfl dX11_told_48 ka7 kb7 r8 ?_
    obtain ⟨ck9, h⟩ := ck_inv h
    obtain ⟨ka9, kb9⟩ := isK_of ck9
    refine v_getI hz fl_X11_169 rfl dX11_told_51 ka9 kb9 ?_
    obtain ⟨rfl, rfl⟩ := sp_inv h
    exact v_iret hz dX11_told_54 (by decide) (by decide)
  replace h := (if_neg hs1_1).symm.trans h
  by_cases hs1_2 : a1 = (2 : Int32)
  · replace h := (if_pos hs1_2).symm.trans h
    refine v_tableAt (tgt := 55) hz hs1_2 dX11_told_1 (by decide) (by decide) (by decide) (by decide) ?_
    refine v_aload_n hz rfl rfl dX11_told_55 ?_
    obtain ⟨ck10, h⟩ := ck_inv h
    obtain ⟨ka10, kb10⟩ := isK_of ck10
    obtain ⟨b11, r11, h⟩ := rb_inv h
    refine v_getR hz fl_X11_90 rfl dX11_told_56 ka10 kb10 r11 ?_
    obtain ⟨ck12, h⟩ := ck_inv h
    obtain ⟨ka12, kb12⟩ := isK_of ck12
    obtain ⟨x13, M13, e13, h⟩ := bd_inv h
    refine v_callV hz (As := []) vl_X11_172 (tX3_countBald (r + 0) e13) rfl (by decide) ka12 kb12 rfl rfl rfl (Nat.le_of_ble_eq_true rfl) ⟨by decide, by decide⟩ dX11_told_59 ?_
    show V z 62 [some (.ref a0), some (.int a1)] [.int x13] M13 0 0
    obtain ⟨rfl, rfl⟩ := sp_inv h
    exact v_iret hz dX11_told_62 (by decide) (by decide)
  replace h := (if_neg hs1_2).symm.trans h
  by_cases hs1_3 : a1 = (3 : Int32)
  · replace h := (if_pos hs1_3).symm.trans h
    refine v_tableAt (tgt := 63) hz hs1_3 dX11_told_1 (by decide) (by decide) (by decide) (by decide) ?_
    refine v_aload_n hz rfl rfl dX11_told_63 ?_
    obtain ⟨ck14, h⟩ := ck_inv h
    obtain ⟨ka14, kb14⟩ := isK_of ck14
    obtain ⟨b15, r15, h⟩ := rb_inv h
    refine v_getR hz fl_X11_90 rfl dX11_told_64 ka14 kb14 r15 ?_
    obtain ⟨ck16, h⟩ := ck_inv h
    obtain ⟨ka16, kb16⟩ := isK_of ck16
    obtain ⟨x17, M17, e17, h⟩ := bd_inv h
    refine v_callV hz (As := []) vl_X11_175 (tX3_wearOfAll (r + 1) e17) rfl (by decide) ka16 kb16 rfl rfl rfl (Nat.le_of_ble_eq_true rfl) ⟨by decide, by decide⟩ dX11_told_67 ?_
    show V z 70 [some (.ref a0), some (.int a1)] [.int x17] M17 0 0
    obtain ⟨rfl, rfl⟩ := sp_inv h
    exact v_iret hz dX11_told_70 (by decide) (by decide)
  replace h := (if_neg hs1_3).symm.trans h
  by_cases hs1_4 : a1 = (4 : Int32)
  · replace h := (if_pos hs1_4).symm.trans h
    refine v_tableAt (tgt := 71) hz hs1_4 dX11_told_1 (by decide) (by decide) (by decide) (by decide) ?_
    refine v_aload_n hz rfl rfl dX11_told_71 ?_
    obtain ⟨ck18, h⟩ := ck_inv h
    obtain ⟨ka18, kb18⟩ := isK_of ck18
    obtain ⟨b19, r19, h⟩ := rb_inv h
    refine v_getR hz fl_X11_90 rfl dX11_told_72 ka18 kb18 r19 ?_
    obtain ⟨ck20, h⟩ := ck_inv h
    obtain ⟨ka20, kb20⟩ := isK_of ck20
    obtain ⟨x21, M21, e21, h⟩ := bd_inv h
    refine v_callV hz (As := []) vl_X11_178 (tX3_beating (r + 0) e21) rfl (by decide) ka20 kb20 rfl rfl rfl (Nat.le_of_ble_eq_true rfl) ⟨by decide, by decide⟩ dX11_told_75 ?_
    show V z 78 [some (.ref a0), some (.int a1)] [.int x21] M21 0 0
    obtain ⟨rfl, rfl⟩ := sp_inv h
    exact v_iret hz dX11_told_78 (by decide) (by decide)
  replace h := (if_neg hs1_4).symm.trans h
  refine v_tableOut (tgt := 79) hz dX11_told_1 (by have q0 := lv_neT hs1_0 (show ((0 : Int32)).toInt = 0 by decide); have q1 := lv_neT hs1_1 (show ((1 : Int32)).toInt = 1 by decide); have q2 := lv_neT hs1_2 (show ((2 : Int32)).toInt = 2 by decide); have q3 := lv_neT hs1_3 (show ((3 : Int32)).toInt = 3 by decide); have q4 := lv_neT hs1_4 (show ((4 : Int32)).toInt = 4 by decide); omega) (by decide) ?_
  refine v_iload_n hz rfl rfl dX11_told_79 ?_
  refine v_bipush hz (v := (10 : Int32)) (by decide) dX11_told_80 ?_
  refine v_isub hz dX11_told_82 ?_
  obtain ⟨x22, M22, e22, h⟩ := bd_inv h
  refine v_callS hz (As := [.int (a1 - (10 : Int32))]) sl_X11_100 (tX11_isCell (r + 1) e22) rfl rfl rfl (Nat.le_of_ble_eq_true rfl) ⟨by decide, by decide⟩ dX11_told_83 ?_
  show V z 86 [some (.ref a0), some (.int a1)] [.int x22] M22 0 0
  refine v_if_eq (tgt := 104) hz dX11_told_86 (by decide) (fun hc => ?_) (fun hc => ?_)
  · replace h := (if_pos hc).symm.trans h
    refine v_iconst hz (v := (-1 : Int32)) (by decide) dX11_told_104 ?_
    obtain ⟨rfl, rfl⟩ := sp_inv h
    exact v_iret hz dX11_told_105 (by decide) (by decide)
  · replace h := (if_neg hc).symm.trans h
    refine v_aload_n hz rfl rfl dX11_told_89 ?_
    obtain ⟨ck23, h⟩ := ck_inv h
    obtain ⟨ka23, kb23⟩ := isK_of ck23
    obtain ⟨b24, r24, h⟩ := rb_inv h
    refine v_getR hz fl_X11_90 rfl dX11_told_90 ka23 kb23 r24 ?_
    obtain ⟨ck25, h⟩ := ck_inv h
    obtain ⟨ka25, kb25⟩ := isK_of ck25
    obtain ⟨b26, r26, h⟩ := rb_inv h
    refine v_getR hz fl_X11_143 rfl dX11_told_93 ka25 kb25 r26 ?_
    refine v_iload_n hz rfl rfl dX11_told_96 ?_
    refine v_bipush hz (v := (10 : Int32)) (by decide) dX11_told_97 ?_
    refine v_isub hz dX11_told_99 ?_
    obtain ⟨ck27, h⟩ := ck_inv h
    obtain ⟨ka27, kb27⟩ := isK_of ck27
    obtain ⟨g28, h⟩ := ck_inv h
    refine v_iaload hz dX11_told_100 ka27 kb27 g28 ?_
    refine v_goto (tgt := 105) hz dX11_told_101 (by decide) ?_
    obtain ⟨rfl, rfl⟩ := sp_inv h
    exact v_iret hz dX11_told_105 (by decide) (by decide)
noncomputable def fX11_pass (M : Mem) (a0 : Nat) (a1 : Int32) : Option (Int32 × Mem) :=
  if a1 < 0 then (some ((-2 : Int32), M)) else (if a1 ≤ (60 : Int32) then (ck (isK M a0 11) <| rb (mR M a0 0) fun b2 => ck (isK M b2 3) <| if ((mI M b2 2) + a1) ≤ (9999 : Int32) then (bd (fX3_goHours M b2 a1) fun x4 M4 => ck (isK M4 a0 11) <| rb (mR M4 a0 0) fun b6 => ck (isK M4 b6 3) <| some ((mI M4 b6 2), M4)) else (some ((-3 : Int32), M))) else (some ((-2 : Int32), M)))
set_option maxRecDepth 100000 in
set_option maxHeartbeats 4000000 in
theorem tX11_pass (r : Nat) {fx : Fx} {al : Bool} {M N : Mem} {a0 : Nat} {a1 : Int32} {xr : Int32}  (h : fX11_pass M a0 a1 = some (xr, N)) : Ct fx yX11_pass cX11_pass 2 (some .int) (r + 6) 0 0 al [.ref a0, .int a1] M (some (.int xr)) N := by
  refine ct_of (lv := [some (.ref a0), some (.int a1)]) (by decide) (Nat.le_of_ble_eq_true rfl) rfl rfl (fun z hz => ?_)
  unfold fX11_pass at h
  refine v_iload_n hz rfl rfl dX11_pass_0 ?_
  refine v_if_lt (tgt := 10) hz dX11_pass_1 (by decide) (fun hc => ?_) (fun hc => ?_)
  · replace h := (if_pos hc).symm.trans h
    refine v_bipush hz (v := (-2 : Int32)) (by decide) dX11_pass_10 ?_
    obtain ⟨rfl, rfl⟩ := sp_inv h
    exact v_iret hz dX11_pass_12 (by decide) (by decide)
  · replace h := (if_neg hc).symm.trans h
    refine v_iload_n hz rfl rfl dX11_pass_4 ?_
    refine v_bipush hz (v := (60 : Int32)) (by decide) dX11_pass_5 ?_
    refine v_icmp_le (tgt := 13) hz dX11_pass_7 (by decide) (fun hc => ?_) (fun hc => ?_)
    · replace h := (if_pos hc).symm.trans h
      refine v_aload_n hz rfl rfl dX11_pass_13 ?_
      obtain ⟨ck1, h⟩ := ck_inv h
      obtain ⟨ka1, kb1⟩ := isK_of ck1
      obtain ⟨b2, r2, h⟩ := rb_inv h
      refine v_getR hz fl_X11_90 rfl dX11_pass_14 ka1 kb1 r2 ?_
      obtain ⟨ck3, h⟩ := ck_inv h
      obtain ⟨ka3, kb3⟩ := isK_of ck3
      refine v_getI hz fl_X11_166 rfl dX11_pass_17 ka3 kb3 ?_
      refine v_iload_n hz rfl rfl dX11_pass_20 ?_
      refine v_iadd hz dX11_pass_21 ?_
      refine v_sipush hz (v := (9999 : Int32)) (by decide) dX11_pass_22 ?_
      refine v_icmp_le (tgt := 31) hz dX11_pass_25 (by decide) (fun hc => ?_) (fun hc => ?_)
      · replace h := (if_pos hc).symm.trans h
        refine v_aload_n hz rfl rfl dX11_pass_31 ?_
        refine v_getR hz fl_X11_90 rfl dX11_pass_32 ka1 kb1 r2 ?_
        refine v_iload_n hz rfl rfl dX11_pass_35 ?_
        obtain ⟨x4, M4, e4, h⟩ := bd_inv h
        refine v_callV hz (As := [.int a1]) vl_X11_181 (tX3_goHours (r + 0) e4) rfl (by decide) ka3 kb3 rfl rfl rfl (Nat.le_of_ble_eq_true rfl) ⟨by decide, by decide⟩ dX11_pass_36 ?_
        show V z 39 [some (.ref a0), some (.int a1)] [] M4 0 0
        refine v_aload_n hz rfl rfl dX11_pass_39 ?_
        obtain ⟨ck5, h⟩ := ck_inv h
        obtain ⟨ka5, kb5⟩ := isK_of ck5
        obtain ⟨b6, r6, h⟩ := rb_inv h
        refine v_getR hz fl_X11_90 rfl dX11_pass_40 ka5 kb5 r6 ?_
        obtain ⟨ck7, h⟩ := ck_inv h
        obtain ⟨ka7, kb7⟩ := isK_of ck7
        refine v_getI hz fl_X11_166 rfl dX11_pass_43 ka7 kb7 ?_
        obtain ⟨rfl, rfl⟩ := sp_inv h
        exact v_iret hz dX11_pass_46 (by decide) (by decide)
      · replace h := (if_neg hc).symm.trans h
        refine v_bipush hz (v := (-3 : Int32)) (by decide) dX11_pass_28 ?_
        obtain ⟨rfl, rfl⟩ := sp_inv h
        exact v_iret hz dX11_pass_30 (by decide) (by decide)
    · replace h := (if_neg hc).symm.trans h
      refine v_bipush hz (v := (-2 : Int32)) (by decide) dX11_pass_10 ?_
      obtain ⟨rfl, rfl⟩ := sp_inv h
      exact v_iret hz dX11_pass_12 (by decide) (by decide)
noncomputable def fX11_isAskedSpan (M : Mem) (a0 : Int32) : Option (Int32 × Mem) :=
  if a0 < 0 then (some ((0 : Int32), M)) else (if (40 : Int32) < a0 then (some ((0 : Int32), M)) else (some ((1 : Int32), M)))
set_option maxRecDepth 100000 in
set_option maxHeartbeats 4000000 in
theorem tX11_isAskedSpan (r : Nat) {fx : Fx} {al : Bool} {M N : Mem} {a0 : Int32} {xr : Int32}  (h : fX11_isAskedSpan M a0 = some (xr, N)) : Ct fx yX11_isAskedSpan cX11_isAskedSpan 1 (some .boolean) (r + 0) 0 0 al [.int a0] M (some (.int xr)) N := by
  refine ct_of (lv := [some (.int a0)]) (by decide) (Nat.le_of_ble_eq_true rfl) rfl rfl (fun z hz => ?_)
  unfold fX11_isAskedSpan at h
  refine v_iload_n hz rfl rfl dX11_isAskedSpan_0 ?_
  refine v_if_lt (tgt := 14) hz dX11_isAskedSpan_1 (by decide) (fun hc => ?_) (fun hc => ?_)
  · replace h := (if_pos hc).symm.trans h
    refine v_iconst hz (v := (0 : Int32)) (by decide) dX11_isAskedSpan_14 ?_
    obtain ⟨rfl, rfl⟩ := sp_inv h
    exact v_zret hz (Or.inl rfl) dX11_isAskedSpan_15 (by decide) (by decide)
  · replace h := (if_neg hc).symm.trans h
    refine v_iload_n hz rfl rfl dX11_isAskedSpan_4 ?_
    refine v_bipush hz (v := (40 : Int32)) (by decide) dX11_isAskedSpan_5 ?_
    refine v_icmp_gt (tgt := 14) hz dX11_isAskedSpan_7 (by decide) (fun hc => ?_) (fun hc => ?_)
    · replace h := (if_pos hc).symm.trans h
      refine v_iconst hz (v := (0 : Int32)) (by decide) dX11_isAskedSpan_14 ?_
      obtain ⟨rfl, rfl⟩ := sp_inv h
      exact v_zret hz (Or.inl rfl) dX11_isAskedSpan_15 (by decide) (by decide)
    · replace h := (if_neg hc).symm.trans h
      refine v_iconst hz (v := (1 : Int32)) (by decide) dX11_isAskedSpan_10 ?_
      refine v_goto (tgt := 15) hz dX11_isAskedSpan_11 (by decide) ?_
      obtain ⟨rfl, rfl⟩ := sp_inv h
      exact v_zret hz (Or.inr rfl) dX11_isAskedSpan_15 (by decide) (by decide)
