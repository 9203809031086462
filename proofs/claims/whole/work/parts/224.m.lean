noncomputable def bX12_tells (F0 : Mem → Nat → Int32 → Int32 → Int32 → Option (Int32 × Mem)) (M : Mem) (a0 : Nat) (a1 : Int32) (a2 : Int32) (a3 : Int32) : Option (Int32 × Mem) :=
  if a2 = (0 : Int32) then (ck (isK M a0 12) <| bd (fX12_ran M a0 (12 : Int32)) fun x3 M3 => ck (isK M3 a0 12) <| rb (mR M3 a0 2) fun b5 => ck (isK M3 b5 14) <| ck (inb a1 (mG M3 b5)) <| bd (fX12_walks M3 a0 a1 (mI M3 b5 a1.toNatClampNeg) a3) fun x8 M8 => some ((x8 * (2 : Int32)), M8)) else if a2 = (3 : Int32) then (ck (isK M a0 12) <| bd (fX12_ran M a0 (40 : Int32)) fun x10 M10 => ck (isK M10 a0 12) <| bd (F0 M10 a0 a1 (0 : Int32) a3) fun x12 M12 => ck (isK M12 a0 12) <| rb (mR M12 a0 2) fun b14 => ck (isK M12 b14 14) <| ck (inb a1 (mG M12 b14)) <| bd (fX12_walks M12 a0 a1 (mI M12 b14 a1.toNatClampNeg) (1 : Int32)) fun x17 M17 => some ((x12 + x17), M17)) else if a2 = (5 : Int32) then (ck (isK M a0 12) <| bd (fX12_ran M a0 (60 : Int32)) fun x19 M19 => ck (isK M19 a0 12) <| bd (F0 M19 a0 a1 (2 : Int32) (a3 - a1)) fun x21 M21 => some (x21, M21)) else (bd (fX12_above M a2) fun x22 M22 => ck (isK M22 a0 12) <| bd (F0 M22 a0 a1 x22 a3) fun x24 M24 => some (x24, M24))
set_option maxRecDepth 100000 in
set_option maxHeartbeats 4000000 in
theorem tX12_tells_b (r : Nat) {fx : Fx} {al : Bool} {M N : Mem} {a0 : Nat} {a1 : Int32} {a2 : Int32} {a3 : Int32} {xr : Int32} {F0 : Mem → Nat → Int32 → Int32 → Int32 → Option (Int32 × Mem)} (hF0 : ∀ {M N : Mem} {a0 : Nat} {a1 : Int32} {a2 : Int32} {a3 : Int32} {xr : Int32}, F0 M a0 a1 a2 a3 = some (xr, N) → Ct fx yX12_tells cX12_tells 5 (some .int) (r + 48) 0 0 al [.ref a0, .int a1, .int a2, .int a3] M (some (.int xr)) N) (h : bX12_tells F0 M a0 a1 a2 a3 = some (xr, N)) : Ct fx yX12_tells cX12_tells 5 (some .int) (r + 49) 0 0 al [.ref a0, .int a1, .int a2, .int a3] M (some (.int xr)) N := by
  refine ct_of (lv := [some (.ref a0), some (.int a1), some (.int a2), some (.int a3), none]) (by decide) (Nat.le_of_ble_eq_true rfl) rfl rfl (fun z hz => ?_)
  unfold bX12_tells at h
  refine v_iload_n hz rfl rfl dX12_tells_0 ?_
  by_cases hs1_0 : a2 = (0 : Int32)
  · replace h := (if_pos hs1_0).symm.trans h
    refine v_lookAt (tgt := 83) hz hs1_0 dX12_tells_1 (by decide) (by decide) (by decide) ?_
    refine v_aload_n hz rfl rfl dX12_tells_83 ?_
    refine v_bipush hz (v := (12 : Int32)) (by decide) dX12_tells_84 ?_
    obtain ⟨ck2, h⟩ := ck_inv h
    obtain ⟨ka2, kb2⟩ := isK_of ck2
    obtain ⟨x3, M3, e3, h⟩ := bd_inv h
    refine v_callV hz (As := [.int (12 : Int32)]) vl_X12_298 (tX12_ran (r + 48) e3) rfl (by decide) ka2 kb2 rfl rfl rfl (Nat.le_of_ble_eq_true rfl) ⟨by decide, by decide⟩ dX12_tells_86 ?_
    show V z 89 [some (.ref a0), some (.int a1), some (.int a2), some (.int a3), none] [] M3 0 0
    refine v_aload_n hz rfl rfl dX12_tells_89 ?_
    refine v_iload_n hz rfl rfl dX12_tells_90 ?_
    refine v_aload_n hz rfl rfl dX12_tells_91 ?_
    obtain ⟨ck4, h⟩ := ck_inv h
    obtain ⟨ka4, kb4⟩ := isK_of ck4
    obtain ⟨b5, r5, h⟩ := rb_inv h
    refine v_getR hz fl_X12_15 rfl dX12_tells_92 ka4 kb4 r5 ?_
    refine v_iload_n hz rfl rfl dX12_tells_95 ?_
    obtain ⟨ck6, h⟩ := ck_inv h
    obtain ⟨ka6, kb6⟩ := isK_of ck6
    obtain ⟨g7, h⟩ := ck_inv h
    refine v_iaload hz dX12_tells_96 ka6 kb6 g7 ?_
    refine v_iload_n hz rfl rfl dX12_tells_97 ?_
    obtain ⟨x8, M8, e8, h⟩ := bd_inv h
    refine v_callV hz (As := [.int a1, .int (mI M3 b5 a1.toNatClampNeg), .int a3]) vl_X12_308 (tX12_walks (r + 0) e8) rfl (by decide) ka4 kb4 rfl rfl rfl (Nat.le_of_ble_eq_true rfl) ⟨by decide, by decide⟩ dX12_tells_98 ?_
    show V z 101 [some (.ref a0), some (.int a1), some (.int a2), some (.int a3), none] [.int x8] M8 0 0
    refine v_iconst hz (v := (2 : Int32)) (by decide) dX12_tells_101 ?_
    refine v_imul hz dX12_tells_102 ?_
    obtain ⟨rfl, rfl⟩ := sp_inv h
    exact v_iret hz dX12_tells_103 (by decide) (by decide)
  replace h := (if_neg hs1_0).symm.trans h
  by_cases hs1_1 : a2 = (3 : Int32)
  · replace h := (if_pos hs1_1).symm.trans h
    refine v_lookAt (tgt := 36) hz hs1_1 dX12_tells_1 (by decide) (by decide) (by decide) ?_
    refine v_aload_n hz rfl rfl dX12_tells_36 ?_
    refine v_bipush hz (v := (40 : Int32)) (by decide) dX12_tells_37 ?_
    obtain ⟨ck9, h⟩ := ck_inv h
    obtain ⟨ka9, kb9⟩ := isK_of ck9
    obtain ⟨x10, M10, e10, h⟩ := bd_inv h
    refine v_callV hz (As := [.int (40 : Int32)]) vl_X12_298 (tX12_ran (r + 48) e10) rfl (by decide) ka9 kb9 rfl rfl rfl (Nat.le_of_ble_eq_true rfl) ⟨by decide, by decide⟩ dX12_tells_39 ?_
    show V z 42 [some (.ref a0), some (.int a1), some (.int a2), some (.int a3), none] [] M10 0 0
    refine v_aload_n hz rfl rfl dX12_tells_42 ?_
    refine v_iload_n hz rfl rfl dX12_tells_43 ?_
    refine v_iconst hz (v := (0 : Int32)) (by decide) dX12_tells_44 ?_
    refine v_iload_n hz rfl rfl dX12_tells_45 ?_
    obtain ⟨ck11, h⟩ := ck_inv h
    obtain ⟨ka11, kb11⟩ := isK_of ck11
    obtain ⟨x12, M12, e12, h⟩ := bd_inv h
    refine v_callV hz (As := [.int a1, .int (0 : Int32), .int a3]) vl_X12_311 (hF0 e12) rfl (by decide) ka11 kb11 rfl rfl rfl (Nat.le_of_ble_eq_true rfl) ⟨by decide, by decide⟩ dX12_tells_46 ?_
    show V z 49 [some (.ref a0), some (.int a1), some (.int a2), some (.int a3), none] [.int x12] M12 0 0
    refine v_istore hz (lw := [some (.ref a0), some (.int a1), some (.int a2), some (.int a3), some (.int x12)]) (Nat.le_of_ble_eq_true rfl) rfl rfl dX12_tells_49 ?_
    refine v_iload hz rfl dX12_tells_51 ?_
    refine v_aload_n hz rfl rfl dX12_tells_53 ?_
    refine v_iload_n hz rfl rfl dX12_tells_54 ?_
    refine v_aload_n hz rfl rfl dX12_tells_55 ?_
    obtain ⟨ck13, h⟩ := ck_inv h
    obtain ⟨ka13, kb13⟩ := isK_of ck13
    obtain ⟨b14, r14, h⟩ := rb_inv h
    refine v_getR hz fl_X12_15 rfl dX12_tells_56 ka13 kb13 r14 ?_
    refine v_iload_n hz rfl rfl dX12_tells_59 ?_
    obtain ⟨ck15, h⟩ := ck_inv h
    obtain ⟨ka15, kb15⟩ := isK_of ck15
    obtain ⟨g16, h⟩ := ck_inv h
    refine v_iaload hz dX12_tells_60 ka15 kb15 g16 ?_
    refine v_iconst hz (v := (1 : Int32)) (by decide) dX12_tells_61 ?_
    obtain ⟨x17, M17, e17, h⟩ := bd_inv h
    refine v_callV hz (As := [.int a1, .int (mI M12 b14 a1.toNatClampNeg), .int (1 : Int32)]) vl_X12_308 (tX12_walks (r + 0) e17) rfl (by decide) ka13 kb13 rfl rfl rfl (Nat.le_of_ble_eq_true rfl) ⟨by decide, by decide⟩ dX12_tells_62 ?_
    show V z 65 [some (.ref a0), some (.int a1), some (.int a2), some (.int a3), some (.int x12)] [.int x17, .int x12] M17 0 0
    refine v_iadd hz dX12_tells_65 ?_
    obtain ⟨rfl, rfl⟩ := sp_inv h
    exact v_iret hz dX12_tells_66 (by decide) (by decide)
  replace h := (if_neg hs1_1).symm.trans h
  by_cases hs1_2 : a2 = (5 : Int32)
  · replace h := (if_pos hs1_2).symm.trans h
    refine v_lookAt (tgt := 67) hz hs1_2 dX12_tells_1 (by decide) (by decide) (by decide) ?_
    refine v_aload_n hz rfl rfl dX12_tells_67 ?_
    refine v_bipush hz (v := (60 : Int32)) (by decide) dX12_tells_68 ?_
    obtain ⟨ck18, h⟩ := ck_inv h
    obtain ⟨ka18, kb18⟩ := isK_of ck18
    obtain ⟨x19, M19, e19, h⟩ := bd_inv h
    refine v_callV hz (As := [.int (60 : Int32)]) vl_X12_298 (tX12_ran (r + 48) e19) rfl (by decide) ka18 kb18 rfl rfl rfl (Nat.le_of_ble_eq_true rfl) ⟨by decide, by decide⟩ dX12_tells_70 ?_
    show V z 73 [some (.ref a0), some (.int a1), some (.int a2), some (.int a3), none] [] M19 0 0
    refine v_aload_n hz rfl rfl dX12_tells_73 ?_
    refine v_iload_n hz rfl rfl dX12_tells_74 ?_
    refine v_iconst hz (v := (2 : Int32)) (by decide) dX12_tells_75 ?_
    refine v_iload_n hz rfl rfl dX12_tells_76 ?_
    refine v_iload_n hz rfl rfl dX12_tells_77 ?_
    refine v_isub hz dX12_tells_78 ?_
    obtain ⟨ck20, h⟩ := ck_inv h
    obtain ⟨ka20, kb20⟩ := isK_of ck20
    obtain ⟨x21, M21, e21, h⟩ := bd_inv h
    refine v_callV hz (As := [.int a1, .int (2 : Int32), .int (a3 - a1)]) vl_X12_311 (hF0 e21) rfl (by decide) ka20 kb20 rfl rfl rfl (Nat.le_of_ble_eq_true rfl) ⟨by decide, by decide⟩ dX12_tells_79 ?_
    show V z 82 [some (.ref a0), some (.int a1), some (.int a2), some (.int a3), none] [.int x21] M21 0 0
    obtain ⟨rfl, rfl⟩ := sp_inv h
    exact v_iret hz dX12_tells_82 (by decide) (by decide)
  replace h := (if_neg hs1_2).symm.trans h
  refine v_lookup (off := 103) (tgt := 104) hz dX12_tells_1 (by decide) ((lv_osw hs1_0 (show ((0 : Int32)).toInt = 0 by decide)).trans ((lv_osw hs1_1 (show ((3 : Int32)).toInt = 3 by decide)).trans ((lv_osw hs1_2 (show ((5 : Int32)).toInt = 5 by decide)).trans rfl))) (by decide) ?_
  refine v_aload_n hz rfl rfl dX12_tells_104 ?_
  refine v_iload_n hz rfl rfl dX12_tells_105 ?_
  refine v_iload_n hz rfl rfl dX12_tells_106 ?_
  obtain ⟨x22, M22, e22, h⟩ := bd_inv h
  refine v_callS hz (As := [.int a2]) sl_X12_305 (tX12_above (r + 48) e22) rfl rfl rfl (Nat.le_of_ble_eq_true rfl) ⟨by decide, by decide⟩ dX12_tells_107 ?_
  show V z 110 [some (.ref a0), some (.int a1), some (.int a2), some (.int a3), none] [.int x22, .int a1, .ref a0] M22 0 0
  refine v_iload_n hz rfl rfl dX12_tells_110 ?_
  obtain ⟨ck23, h⟩ := ck_inv h
  obtain ⟨ka23, kb23⟩ := isK_of ck23
  obtain ⟨x24, M24, e24, h⟩ := bd_inv h
  refine v_callV hz (As := [.int a1, .int x22, .int a3]) vl_X12_311 (hF0 e24) rfl (by decide) ka23 kb23 rfl rfl rfl (Nat.le_of_ble_eq_true rfl) ⟨by decide, by decide⟩ dX12_tells_111 ?_
  show V z 114 [some (.ref a0), some (.int a1), some (.int a2), some (.int a3), none] [.int x24] M24 0 0
  obtain ⟨rfl, rfl⟩ := sp_inv h
  exact v_iret hz dX12_tells_114 (by decide) (by decide)
noncomputable def rgE : Nat → Nat → Mem → Nat → Int32 → Int32 → Int32 → Option (Int32 × Mem)
  | 0, _, _, _, _, _, _ => none
  | n + 1, _, M, a0, a1, a2, a3 => bX12_tells (rgE n 0) M a0 a1 a2 a3
set_option maxRecDepth 100000 in
theorem rgE_c {fx : Fx} {al : Bool} (r : Nat) : ∀ n : Nat, (∀ {M N : Mem} {a0 : Nat} {a1 : Int32} {a2 : Int32} {a3 : Int32} {xr : Int32}, rgE n 0 M a0 a1 a2 a3 = some (xr, N) → Ct fx yX12_tells cX12_tells 5 (some .int) (r + n + 48) 0 0 al [.ref a0, .int a1, .int a2, .int a3] M (some (.int xr)) N) := by
  intro n
  induction n with
  | zero => exact fun h => by cases (show (none : Option (Int32 × Mem)) = some _ from h)
  | succ n ih => exact fun h => tX12_tells_b (r + n) ih h
noncomputable def fX12_tells (M : Mem) (a0 : Nat) (a1 : Int32) (a2 : Int32) (a3 : Int32) : Option (Int32 × Mem) := rgE 24 0 M a0 a1 a2 a3
theorem tX12_tells (r : Nat) {fx : Fx} {al : Bool} {M N : Mem} {a0 : Nat} {a1 : Int32} {a2 : Int32} {a3 : Int32} {xr : Int32} (h : fX12_tells M a0 a1 a2 a3 = some (xr, N)) : Ct fx yX12_tells cX12_tells 5 (some .int) (r + 72) 0 0 al [.ref a0, .int a1, .int a2, .int a3] M (some (.int xr)) N := (rgE_c (fx := fx) (al := al) r 24) h
noncomputable def fX12_act (M : Mem) (a0 : Nat) (a1 : Int32) (a2 : Int32) (a3 : Int32) : Option (Int32 × Mem) :=
  ck (isK M a0 12) <| bd (fX12_isOne (stI M a0 34 (0 : Int32)) a0 a1) fun x2 M2 => if x2 = 0 then (some ((0 : Int32), M2)) else (bd (fX12_within M2 a2 (0 : Int32) (2 : Int32)) fun x3 M3 => if x3 = 0 then (some ((0 : Int32), M3)) else (ck (isK M3 a0 12) <| rb (mR M3 a0 2) fun b5 => ck (isK M3 b5 14) <| ck (inb a1 (mG M3 b5)) <| if a2 = 0 then (bd (fX12_bows M3 a0 a1 (mI M3 b5 a1.toNatClampNeg) a3) fun x10 M10 => some (x10, M10)) else (if a2 = (1 : Int32) then (bd (fX12_walks M3 a0 a1 (mI M3 b5 a1.toNatClampNeg) a3) fun x9 M9 => some (x9, M9)) else (bd (fX12_tells M3 a0 a1 (mI M3 b5 a1.toNatClampNeg) a3) fun x8 M8 => some (x8, M8)))))
set_option maxRecDepth 100000 in
set_option maxHeartbeats 4000000 in
theorem tX12_act (r : Nat) {fx : Fx} {al : Bool} {M N : Mem} {a0 : Nat} {a1 : Int32} {a2 : Int32} {a3 : Int32} {xr : Int32}  (h : fX12_act M a0 a1 a2 a3 = some (xr, N)) : Ct fx yX12_act cX12_act 5 (some .int) (r + 73) 0 0 al [.ref a0, .int a1, .int a2, .int a3] M (some (.int xr)) N := by
  refine ct_of (lv := [some (.ref a0), some (.int a1), some (.int a2), some (.int a3), none]) (by decide) (Nat.le_of_ble_eq_true rfl) rfl rfl (fun z hz => ?_)
  unfold fX12_act at h
  refine v_aload_n hz rfl rfl dX12_act_0 ?_
  refine v_iconst hz (v := (0 : Int32)) (by decide) dX12_act_1 ?_
  obtain ⟨ck1, h⟩ := ck_inv h
  obtain ⟨ka1, kb1⟩ := isK_of ck1
  refine v_putI hz fl_X12_295 ft_12_34 (by decide) rfl rfl rfl dX12_act_2 ka1 kb1 ?_
  refine v_aload_n hz rfl rfl dX12_act_5 ?_
  refine v_iload_n hz rfl rfl dX12_act_6 ?_
  obtain ⟨x2, M2, e2, h⟩ := bd_inv h
  refine v_callV hz (As := [.int a1]) vl_X12_116 (tX12_isOne (r + 71) e2) rfl (by decide) ka1 kb1 rfl rfl rfl (Nat.le_of_ble_eq_true rfl) ⟨by decide, by decide⟩ dX12_act_7 ?_
  show V z 10 [some (.ref a0), some (.int a1), some (.int a2), some (.int a3), none] [.int x2] M2 0 0
  refine v_if_eq (tgt := 22) hz dX12_act_10 (by decide) (fun hc => ?_) (fun hc => ?_)
  · replace h := (if_pos hc).symm.trans h
    refine v_iconst hz (v := (0 : Int32)) (by decide) dX12_act_22 ?_
    obtain ⟨rfl, rfl⟩ := sp_inv h
    exact v_iret hz dX12_act_23 (by decide) (by decide)
  · replace h := (if_neg hc).symm.trans h
    refine v_iload_n hz rfl rfl dX12_act_13 ?_
    refine v_iconst hz (v := (0 : Int32)) (by decide) dX12_act_14 ?_
    refine v_iconst hz (v := (2 : Int32)) (by decide) dX12_act_15 ?_
    obtain ⟨x3, M3, e3, h⟩ := bd_inv h
    refine v_callS hz (As := [.int a2, .int (0 : Int32), .int (2 : Int32)]) sl_X12_108 (tX12_within (r + 72) e3) rfl rfl rfl (Nat.le_of_ble_eq_true rfl) ⟨by decide, by decide⟩ dX12_act_16 ?_
    show V z 19 [some (.ref a0), some (.int a1), some (.int a2), some (.int a3), none] [.int x3] M3 0 0
    refine v_if_ne (tgt := 24) hz dX12_act_19 (by decide) (fun hc => ?_) (fun hc => ?_)
    · replace h := (if_neg hc).symm.trans h
      refine v_aload_n hz rfl rfl dX12_act_24 ?_
      obtain ⟨ck4, h⟩ := ck_inv h
      obtain ⟨ka4, kb4⟩ := isK_of ck4
      obtain ⟨b5, r5, h⟩ := rb_inv h
      refine v_getR hz fl_X12_15 rfl dX12_act_25 ka4 kb4 r5 ?_
      refine v_iload_n hz rfl rfl dX12_act_28 ?_
      obtain ⟨ck6, h⟩ := ck_inv h
      obtain ⟨ka6, kb6⟩ := isK_of ck6
      obtain ⟨g7, h⟩ := ck_inv h
      refine v_iaload hz dX12_act_29 ka6 kb6 g7 ?_
      refine v_istore hz (lw := [some (.ref a0), some (.int a1), some (.int a2), some (.int a3), some (.int (mI M3 b5 a1.toNatClampNeg))]) (Nat.le_of_ble_eq_true rfl) rfl rfl dX12_act_30 ?_
      refine v_iload_n hz rfl rfl dX12_act_32 ?_
      refine v_if_ne (tgt := 47) hz dX12_act_33 (by decide) (fun hc => ?_) (fun hc => ?_)
      · replace h := (if_neg hc).symm.trans h
        refine v_iload_n hz rfl rfl dX12_act_47 ?_
        refine v_iconst hz (v := (1 : Int32)) (by decide) dX12_act_48 ?_
        refine v_icmp_ne (tgt := 63) hz dX12_act_49 (by decide) (fun hc => ?_) (fun hc => ?_)
        · replace h := (if_neg hc).symm.trans h
          refine v_aload_n hz rfl rfl dX12_act_63 ?_
          refine v_iload_n hz rfl rfl dX12_act_64 ?_
          refine v_iload hz rfl dX12_act_65 ?_
          refine v_iload_n hz rfl rfl dX12_act_67 ?_
          obtain ⟨x8, M8, e8, h⟩ := bd_inv h
          refine v_callV hz (As := [.int a1, .int (mI M3 b5 a1.toNatClampNeg), .int a3]) vl_X12_311 (tX12_tells (r + 0) e8) rfl (by decide) ka4 kb4 rfl rfl rfl (Nat.le_of_ble_eq_true rfl) ⟨by decide, by decide⟩ dX12_act_68 ?_
          show V z 71 [some (.ref a0), some (.int a1), some (.int a2), some (.int a3), some (.int (mI M3 b5 a1.toNatClampNeg))] [.int x8] M8 0 0
          obtain ⟨rfl, rfl⟩ := sp_inv h
          exact v_iret hz dX12_act_71 (by decide) (by decide)
        · replace h := (if_pos hc).symm.trans h
          refine v_aload_n hz rfl rfl dX12_act_52 ?_
          refine v_iload_n hz rfl rfl dX12_act_53 ?_
          refine v_iload hz rfl dX12_act_54 ?_
          refine v_iload_n hz rfl rfl dX12_act_56 ?_
          obtain ⟨x9, M9, e9, h⟩ := bd_inv h
          refine v_callV hz (As := [.int a1, .int (mI M3 b5 a1.toNatClampNeg), .int a3]) vl_X12_308 (tX12_walks (r + 24) e9) rfl (by decide) ka4 kb4 rfl rfl rfl (Nat.le_of_ble_eq_true rfl) ⟨by decide, by decide⟩ dX12_act_57 ?_
          show V z 60 [some (.ref a0), some (.int a1), some (.int a2), some (.int a3), some (.int (mI M3 b5 a1.toNatClampNeg))] [.int x9] M9 0 0
          refine v_goto (tgt := 71) hz dX12_act_60 (by decide) ?_
          obtain ⟨rfl, rfl⟩ := sp_inv h
          exact v_iret hz dX12_act_71 (by decide) (by decide)
      · replace h := (if_pos hc).symm.trans h
        refine v_aload_n hz rfl rfl dX12_act_36 ?_
        refine v_iload_n hz rfl rfl dX12_act_37 ?_
        refine v_iload hz rfl dX12_act_38 ?_
        refine v_iload_n hz rfl rfl dX12_act_40 ?_
        obtain ⟨x10, M10, e10, h⟩ := bd_inv h
        refine v_callV hz (As := [.int a1, .int (mI M3 b5 a1.toNatClampNeg), .int a3]) vl_X12_302 (tX12_bows (r + 48) e10) rfl (by decide) ka4 kb4 rfl rfl rfl (Nat.le_of_ble_eq_true rfl) ⟨by decide, by decide⟩ dX12_act_41 ?_
        show V z 44 [some (.ref a0), some (.int a1), some (.int a2), some (.int a3), some (.int (mI M3 b5 a1.toNatClampNeg))] [.int x10] M10 0 0
        refine v_goto (tgt := 71) hz dX12_act_44 (by decide) ?_
        obtain ⟨rfl, rfl⟩ := sp_inv h
        exact v_iret hz dX12_act_71 (by decide) (by decide)
    · replace h := (if_pos hc).symm.trans h
      refine v_iconst hz (v := (0 : Int32)) (by decide) dX12_act_22 ?_
      obtain ⟨rfl, rfl⟩ := sp_inv h
      exact v_iret hz dX12_act_23 (by decide) (by decide)
noncomputable def fX12_trace (M : Mem) (a0 : Nat) (a1 : Int32) : Option (Int32 × Mem) :=
  ck (isK M a0 12) <| bd (fX12_within M a1 (0 : Int32) ((if (mI M a0 34) < (20 : Int32) then (mI M a0 34) else (20 : Int32)) - (1 : Int32))) fun x2 M2 => if x2 = 0 then (some ((-1 : Int32), M2)) else (ck (isK M2 a0 12) <| rb (mR M2 a0 35) fun b4 => ck (isK M2 b4 14) <| ck (inb a1 (mG M2 b4)) <| some ((mI M2 b4 a1.toNatClampNeg), M2))
set_option maxRecDepth 100000 in
set_option maxHeartbeats 4000000 in
theorem tX12_trace (r : Nat) {fx : Fx} {al : Bool} {M N : Mem} {a0 : Nat} {a1 : Int32} {xr : Int32}  (h : fX12_trace M a0 a1 = some (xr, N)) : Ct fx yX12_trace cX12_trace 2 (some .int) (r + 1) 0 0 al [.ref a0, .int a1] M (some (.int xr)) N := by
  refine ct_of (lv := [some (.ref a0), some (.int a1)]) (by decide) (Nat.le_of_ble_eq_true rfl) rfl rfl (fun z hz => ?_)
  unfold fX12_trace at h
  refine v_iload_n hz rfl rfl dX12_trace_0 ?_
  refine v_iconst hz (v := (0 : Int32)) (by decide) dX12_trace_1 ?_
  refine v_bipush hz (v := (20 : Int32)) (by decide) dX12_trace_2 ?_
  refine v_aload_n hz rfl rfl dX12_trace_4 ?_
  obtain ⟨ck1, h⟩ := ck_inv h
  obtain ⟨ka1, kb1⟩ := isK_of ck1
  refine v_getI hz fl_X12_295 rfl dX12_trace_5 ka1 kb1 ?_
  refine v_mmin hz ml_X12_230 rfl (Nat.le_of_ble_eq_true rfl) (by decide) (by decide) dX12_trace_8 ?_
  refine v_iconst hz (v := (1 : Int32)) (by decide) dX12_trace_11 ?_
  refine v_isub hz dX12_trace_12 ?_
  obtain ⟨x2, M2, e2, h⟩ := bd_inv h
  refine v_callS hz (As := [.int a1, .int (0 : Int32), .int ((if (mI M a0 34) < (20 : Int32) then (mI M a0 34) else (20 : Int32)) - (1 : Int32))]) sl_X12_108 (tX12_within (r + 0) e2) rfl rfl rfl (Nat.le_of_ble_eq_true rfl) ⟨by decide, by decide⟩ dX12_trace_13 ?_
  show V z 16 [some (.ref a0), some (.int a1)] [.int x2] M2 0 0
  refine v_if_eq (tgt := 28) hz dX12_trace_16 (by decide) (fun hc => ?_) (fun hc => ?_)
  · replace h := (if_pos hc).symm.trans h
    refine v_iconst hz (v := (-1 : Int32)) (by decide) dX12_trace_28 ?_
    obtain ⟨rfl, rfl⟩ := sp_inv h
    exact v_iret hz dX12_trace_29 (by decide) (by decide)
  · replace h := (if_neg hc).symm.trans h
    refine v_aload_n hz rfl rfl dX12_trace_19 ?_
    obtain ⟨ck3, h⟩ := ck_inv h
    obtain ⟨ka3, kb3⟩ := isK_of ck3
    obtain ⟨b4, r4, h⟩ := rb_inv h
    refine v_getR hz fl_X12_76 rfl dX12_trace_20 ka3 kb3 r4 ?_
    refine v_iload_n hz rfl rfl dX12_trace_23 ?_
    obtain ⟨ck5, h⟩ := ck_inv h
    obtain ⟨ka5, kb5⟩ := isK_of ck5
    obtain ⟨g6, h⟩ := ck_inv h
    refine v_iaload hz dX12_trace_24 ka5 kb5 g6 ?_
    refine v_goto (tgt := 29) hz dX12_trace_25 (by decide) ?_
    obtain ⟨rfl, rfl⟩ := sp_inv h
    exact v_iret hz dX12_trace_29 (by decide) (by decide)
noncomputable def gX12_taken_48  (M : Mem) (l0 : Nat) (l1 : Int32) (l2 : Int32) (l3 : Int32) : Option (Int32 × Mem) :=
  if l3 = l2 then (ck (isK M l0 12) <| rb (mR M l0 2) fun b9 => ck (isK M b9 14) <| ck (inb l1 (mG M b9)) <| some ((mI M b9 l1.toNatClampNeg), M)) else (some ((-12 : Int32), M))
noncomputable def gX12_taken_31  : Nat → Mem → Nat → Int32 → Int32 → Int32 → Option (Int32 × Mem)
  | 0, _, _, _, _, _ => none
  | n + 1, M, l0, l1, l2, l3 => if l3 = l2 then (gX12_taken_48 M l0 l1 l2 l3) else (if l3 ≤ 0 then (gX12_taken_48 M l0 l1 l2 l3) else (bd (fX12_above M l3) fun x12 M12 => (gX12_taken_31 n) M12 l0 l1 l2 x12))
noncomputable def fX12_taken (M : Mem) (a0 : Nat) (a1 : Int32) (a2 : Int32) : Option (Int32 × Mem) :=
  bd (fX12_within M a2 (0 : Int32) (6 : Int32)) fun x1 M1 => if x1 = 0 then (some ((-2 : Int32), M1)) else (ck (isK M1 a0 12) <| bd (fX12_isOne M1 a0 a1) fun x3 M3 => if x3 = 0 then (some ((-11 : Int32), M3)) else (ck (isK M3 a0 12) <| rb (mR M3 a0 2) fun b5 => ck (isK M3 b5 14) <| ck (inb a1 (mG M3 b5)) <| gX12_taken_31 FU M3 a0 a1 a2 (mI M3 b5 a1.toNatClampNeg)))
set_option maxRecDepth 100000 in
set_option maxHeartbeats 4000000 in
theorem wX12_taken_48 {z : Zx} {fx : Fx} {al : Bool} {r : Nat} {N : Mem} {xr : Int32} (hz : Zok z fx al yX12_taken.cls yX12_taken.name cX12_taken (some .int) 4 (r + 2) 0 0 (some (.int xr)) N)    {M : Mem} {l0 : Nat} {l1 : Int32} {l2 : Int32} {l3 : Int32} (h : gX12_taken_48  M l0 l1 l2 l3 = some (xr, N)) : V z 48 [some (.ref l0), some (.int l1), some (.int l2), some (.int l3)] [] M 0 0 := by
  unfold gX12_taken_48 at h
  refine v_iload_n hz rfl rfl dX12_taken_48 ?_
  refine v_iload_n hz rfl rfl dX12_taken_49 ?_
  refine v_icmp_ne (tgt := 62) hz dX12_taken_50 (by decide) (fun hc => ?_) (fun hc => ?_)
  · replace h := (if_neg hc).symm.trans h
    refine v_bipush hz (v := (-12 : Int32)) (by decide) dX12_taken_62 ?_
    obtain ⟨rfl, rfl⟩ := sp_inv h
    exact v_iret hz dX12_taken_64 (by decide) (by decide)
  · replace h := (if_pos hc).symm.trans h
    refine v_aload_n hz rfl rfl dX12_taken_53 ?_
    obtain ⟨ck8, h⟩ := ck_inv h
    obtain ⟨ka8, kb8⟩ := isK_of ck8
    obtain ⟨b9, r9, h⟩ := rb_inv h
    refine v_getR hz fl_X12_15 rfl dX12_taken_54 ka8 kb8 r9 ?_
    refine v_iload_n hz rfl rfl dX12_taken_57 ?_
    obtain ⟨ck10, h⟩ := ck_inv h
    obtain ⟨ka10, kb10⟩ := isK_of ck10
    obtain ⟨g11, h⟩ := ck_inv h
    refine v_iaload hz dX12_taken_58 ka10 kb10 g11 ?_
    refine v_goto (tgt := 64) hz dX12_taken_59 (by decide) ?_
    obtain ⟨rfl, rfl⟩ := sp_inv h
    exact v_iret hz dX12_taken_64 (by decide) (by decide)
set_option maxRecDepth 100000 in
set_option maxHeartbeats 4000000 in
theorem gX12_taken_31_s  (n : Nat) (M : Mem) (l0 : Nat) (l1 : Int32) (l2 : Int32) (l3 : Int32) : gX12_taken_31  (n + 1) M l0 l1 l2 l3 = (if l3 = l2 then (gX12_taken_48 M l0 l1 l2 l3) else (if l3 ≤ 0 then (gX12_taken_48 M l0 l1 l2 l3) else (bd (fX12_above M l3) fun x12 M12 => (gX12_taken_31 n) M12 l0 l1 l2 x12))) := rfl
set_option maxRecDepth 100000 in
set_option maxHeartbeats 4000000 in
theorem wX12_taken_31 {z : Zx} {fx : Fx} {al : Bool} {r : Nat} {N : Mem} {xr : Int32} (hz : Zok z fx al yX12_taken.cls yX12_taken.name cX12_taken (some .int) 4 (r + 2) 0 0 (some (.int xr)) N)    : ∀ {n : Nat} {M : Mem} {l0 : Nat} {l1 : Int32} {l2 : Int32} {l3 : Int32}, gX12_taken_31  n M l0 l1 l2 l3 = some (xr, N) → V z 31 [some (.ref l0), some (.int l1), some (.int l2), some (.int l3)] [] M 0 0 := by
  intro n
  induction n with
  | zero => intro M l0 l1 l2 l3 h; cases h
  | succ n ih =>
    intro M l0 l1 l2 l3 h
    replace h := (gX12_taken_31_s  n M l0 l1 l2 l3).symm.trans h
    refine v_iload_n hz rfl rfl dX12_taken_31 ?_
    refine v_iload_n hz rfl rfl dX12_taken_32 ?_
    refine v_icmp_eq (tgt := 48) hz dX12_taken_33 (by decide) (fun hc => ?_) (fun hc => ?_)
    · replace h := (if_pos hc).symm.trans h
      exact v_weak (lvle_s (lvle_s (lvle_s (lvle_s lvle_0)))) (wX12_taken_48 hz   h)
    · replace h := (if_neg hc).symm.trans h
      refine v_iload_n hz rfl rfl dX12_taken_36 ?_
      refine v_if_le (tgt := 48) hz dX12_taken_37 (by decide) (fun hc => ?_) (fun hc => ?_)
      · replace h := (if_pos hc).symm.trans h
        exact v_weak (lvle_s (lvle_s (lvle_s (lvle_s lvle_0)))) (wX12_taken_48 hz   h)
      · replace h := (if_neg hc).symm.trans h
        refine v_iload_n hz rfl rfl dX12_taken_40 ?_
        obtain ⟨x12, M12, e12, h⟩ := bd_inv h
        refine v_callS hz (As := [.int l3]) sl_X12_305 (tX12_above (r + 1) e12) rfl rfl rfl (Nat.le_of_ble_eq_true rfl) ⟨by decide, by decide⟩ dX12_taken_41 ?_
        show V z 44 [some (.ref l0), some (.int l1), some (.int l2), some (.int l3)] [.int x12] M12 0 0
        refine v_istore_n hz (lw := [some (.ref l0), some (.int l1), some (.int l2), some (.int x12)]) rfl (Nat.le_of_ble_eq_true rfl) rfl rfl dX12_taken_44 ?_
        refine v_goto (tgt := 31) hz dX12_taken_45 (by decide) ?_
        exact v_weak (lvle_s (lvle_s (lvle_s (lvle_s lvle_0)))) (ih h)
set_option maxRecDepth 100000 in
set_option maxHeartbeats 4000000 in
theorem tX12_taken (r : Nat) {fx : Fx} {al : Bool} {M N : Mem} {a0 : Nat} {a1 : Int32} {a2 : Int32} {xr : Int32}  (h : fX12_taken M a0 a1 a2 = some (xr, N)) : Ct fx yX12_taken cX12_taken 4 (some .int) (r + 2) 0 0 al [.ref a0, .int a1, .int a2] M (some (.int xr)) N := by
  refine ct_of (lv := [some (.ref a0), some (.int a1), some (.int a2), none]) (by decide) (Nat.le_of_ble_eq_true rfl) rfl rfl (fun z hz => ?_)
  unfold fX12_taken at h
  refine v_iload_n hz rfl rfl dX12_taken_0 ?_
  refine v_iconst hz (v := (0 : Int32)) (by decide) dX12_taken_1 ?_
  refine v_bipush hz (v := (6 : Int32)) (by decide) dX12_taken_2 ?_
  obtain ⟨x1, M1, e1, h⟩ := bd_inv h
  refine v_callS hz (As := [.int a2, .int (0 : Int32), .int (6 : Int32)]) sl_X12_108 (tX12_within (r + 1) e1) rfl rfl rfl (Nat.le_of_ble_eq_true rfl) ⟨by decide, by decide⟩ dX12_taken_4 ?_
  show V z 7 [some (.ref a0), some (.int a1), some (.int a2), none] [.int x1] M1 0 0
  refine v_if_ne (tgt := 13) hz dX12_taken_7 (by decide) (fun hc => ?_) (fun hc => ?_)
  · replace h := (if_neg hc).symm.trans h
    refine v_aload_n hz rfl rfl dX12_taken_13 ?_
    refine v_iload_n hz rfl rfl dX12_taken_14 ?_
    obtain ⟨ck2, h⟩ := ck_inv h
    obtain ⟨ka2, kb2⟩ := isK_of ck2
    obtain ⟨x3, M3, e3, h⟩ := bd_inv h
    refine v_callV hz (As := [.int a1]) vl_X12_116 (tX12_isOne (r + 0) e3) rfl (by decide) ka2 kb2 rfl rfl rfl (Nat.le_of_ble_eq_true rfl) ⟨by decide, by decide⟩ dX12_taken_15 ?_
    show V z 18 [some (.ref a0), some (.int a1), some (.int a2), none] [.int x3] M3 0 0
    refine v_if_ne (tgt := 24) hz dX12_taken_18 (by decide) (fun hc => ?_) (fun hc => ?_)
    · replace h := (if_neg hc).symm.trans h
      refine v_aload_n hz rfl rfl dX12_taken_24 ?_
      obtain ⟨ck4, h⟩ := ck_inv h
      obtain ⟨ka4, kb4⟩ := isK_of ck4
      obtain ⟨b5, r5, h⟩ := rb_inv h
      refine v_getR hz fl_X12_15 rfl dX12_taken_25 ka4 kb4 r5 ?_
      refine v_iload_n hz rfl rfl dX12_taken_28 ?_
      obtain ⟨ck6, h⟩ := ck_inv h
      obtain ⟨ka6, kb6⟩ := isK_of ck6
      obtain ⟨g7, h⟩ := ck_inv h
      refine v_iaload hz dX12_taken_29 ka6 kb6 g7 ?_
      refine v_istore_n hz (lw := [some (.ref a0), some (.int a1), some (.int a2), some (.int (mI M3 b5 a1.toNatClampNeg))]) rfl (Nat.le_of_ble_eq_true rfl) rfl rfl dX12_taken_30 ?_
      exact v_weak (lvle_s (lvle_s (lvle_s (lvle_s lvle_0)))) (wX12_taken_31 hz   h)
    · replace h := (if_pos hc).symm.trans h
      refine v_bipush hz (v := (-11 : Int32)) (by decide) dX12_taken_21 ?_
      obtain ⟨rfl, rfl⟩ := sp_inv h
      exact v_iret hz dX12_taken_23 (by decide) (by decide)
  · replace h := (if_pos hc).symm.trans h
    refine v_bipush hz (v := (-2 : Int32)) (by decide) dX12_taken_10 ?_
    obtain ⟨rfl, rfl⟩ := sp_inv h
    exact v_iret hz dX12_taken_12 (by decide) (by decide)
noncomputable def fX12_count (M : Mem) (a0 : Nat) (a1 : Int32) : Option (Int32 × Mem) :=
  if a1 = (0 : Int32) then (ck (isK M a0 12) <| some ((mI M a0 1), M)) else if a1 = (1 : Int32) then (ck (isK M a0 12) <| some ((mI M a0 14), M)) else if a1 = (2 : Int32) then (ck (isK M a0 12) <| some ((mI M a0 24), M)) else if a1 = (3 : Int32) then (ck (isK M a0 12) <| some ((mI M a0 28), M)) else if a1 = (4 : Int32) then (ck (isK M a0 12) <| some ((mI M a0 31), M)) else if a1 = (5 : Int32) then (ck (isK M a0 12) <| some ((mI M a0 8), M)) else if a1 = (6 : Int32) then (ck (isK M a0 12) <| some ((mI M a0 34), M)) else (some ((-2 : Int32), M))
set_option maxRecDepth 100000 in
set_option maxHeartbeats 4000000 in
theorem tX12_count (r : Nat) {fx : Fx} {al : Bool} {M N : Mem} {a0 : Nat} {a1 : Int32} {xr : Int32}  (h : fX12_count M a0 a1 = some (xr, N)) : Ct fx yX12_count cX12_count 2 (some .int) (r + 0) 0 0 al [.ref a0, .int a1] M (some (.int xr)) N := by
  refine ct_of (lv := [some (.ref a0), some (.int a1)]) (by decide) (Nat.le_of_ble_eq_true rfl) rfl rfl (fun z hz => ?_)
  unfold fX12_count at h
  refine v_iload_n hz rfl rfl dX12_count_0 ?_
  by_cases hs1_0 : a1 = (0 : Int32)
  · replace h := (if_pos hs1_0).symm.trans h
    refine v_tableAt (tgt := 44) hz hs1_0 dX12_count_1 (by decide) (by decide) (by decide) (by decide) ?_
    refine v_aload_n hz rfl rfl dX12_count_44 ?_
    obtain ⟨ck2, h⟩ := ck_inv h
    obtain ⟨ka2, kb2⟩ := isK_of ck2
    refine v_getI hz fl_X12_105 rfl dX12_count_45 ka2 kb2 ?_
    obtain ⟨rfl, rfl⟩ := sp_inv h
    exact v_iret hz dX12_count_48 (by decide) (by decide)
  replace h := (if_neg hs1_0).symm.trans h
  by_cases hs1_1 : a1 = (1 : Int32)
  · replace h := (if_pos hs1_1).symm.trans h
    refine v_tableAt (tgt := 49) hz hs1_1 dX12_count_1 (by decide) (by decide) (by decide) (by decide) ?_
    refine v_aload_n hz rfl rfl dX12_count_49 ?_
    obtain ⟨ck3, h⟩ := ck_inv h
    obtain ⟨ka3, kb3⟩ := isK_of ck3
    refine v_getI hz fl_X12_202 rfl dX12_count_50 ka3 kb3 ?_
    obtain ⟨rfl, rfl⟩ := sp_inv h
    exact v_iret hz dX12_count_53 (by decide) (by decide)
  replace h := (if_neg hs1_1).symm.trans h
  by_cases hs1_2 : a1 = (2 : Int32)
  · replace h := (if_pos hs1_2).symm.trans h
    refine v_tableAt (tgt := 54) hz hs1_2 dX12_count_1 (by decide) (by decide) (by decide) (by decide) ?_
    refine v_aload_n hz rfl rfl dX12_count_54 ?_
    obtain ⟨ck4, h⟩ := ck_inv h
    obtain ⟨ka4, kb4⟩ := isK_of ck4
    refine v_getI hz fl_X12_273 rfl dX12_count_55 ka4 kb4 ?_
    obtain ⟨rfl, rfl⟩ := sp_inv h
    exact v_iret hz dX12_count_58 (by decide) (by decide)
  replace h := (if_neg hs1_2).symm.trans h
  by_cases hs1_3 : a1 = (3 : Int32)
  · replace h := (if_pos hs1_3).symm.trans h
    refine v_tableAt (tgt := 59) hz hs1_3 dX12_count_1 (by decide) (by decide) (by decide) (by decide) ?_
    refine v_aload_n hz rfl rfl dX12_count_59 ?_
    obtain ⟨ck5, h⟩ := ck_inv h
    obtain ⟨ka5, kb5⟩ := isK_of ck5
    refine v_getI hz fl_X12_285 rfl dX12_count_60 ka5 kb5 ?_
    obtain ⟨rfl, rfl⟩ := sp_inv h
    exact v_iret hz dX12_count_63 (by decide) (by decide)
  replace h := (if_neg hs1_3).symm.trans h
  by_cases hs1_4 : a1 = (4 : Int32)
  · replace h := (if_pos hs1_4).symm.trans h
    refine v_tableAt (tgt := 64) hz hs1_4 dX12_count_1 (by decide) (by decide) (by decide) (by decide) ?_
    refine v_aload_n hz rfl rfl dX12_count_64 ?_
    obtain ⟨ck6, h⟩ := ck_inv h
    obtain ⟨ka6, kb6⟩ := isK_of ck6
    refine v_getI hz fl_X12_288 rfl dX12_count_65 ka6 kb6 ?_
    obtain ⟨rfl, rfl⟩ := sp_inv h
    exact v_iret hz dX12_count_68 (by decide) (by decide)
  replace h := (if_neg hs1_4).symm.trans h
  by_cases hs1_5 : a1 = (5 : Int32)
  · replace h := (if_pos hs1_5).symm.trans h
    refine v_tableAt (tgt := 69) hz hs1_5 dX12_count_1 (by decide) (by decide) (by decide) (by decide) ?_
    refine v_aload_n hz rfl rfl dX12_count_69 ?_
    obtain ⟨ck7, h⟩ := ck_inv h
    obtain ⟨ka7, kb7⟩ := isK_of ck7
    refine v_getI hz fl_X12_130 rfl dX12_count_70 ka7 kb7 ?_
    obtain ⟨rfl, rfl⟩ := sp_inv h
    exact v_iret hz dX12_count_73 (by decide) (by decide)
  replace h := (if_neg hs1_5).symm.trans h
  by_cases hs1_6 : a1 = (6 : Int32)
  · replace h := (if_pos hs1_6).symm.trans h
    refine v_tableAt (tgt := 74) hz hs1_6 dX12_count_1 (by decide) (by decide) (by decide) (by decide) ?_
    refine v_aload_n hz rfl rfl dX12_count_74 ?_
    obtain ⟨ck8, h⟩ := ck_inv h
    obtain ⟨ka8, kb8⟩ := isK_of ck8
    refine v_getI hz fl_X12_295 rfl dX12_count_75 ka8 kb8 ?_
    obtain ⟨rfl, rfl⟩ := sp_inv h
    exact v_iret hz dX12_count_78 (by decide) (by decide)
  replace h := (if_neg hs1_6).symm.trans h
  refine v_tableOut (tgt := 79) hz dX12_count_1 (by have q0 := lv_neT hs1_0 (show ((0 : Int32)).toInt = 0 by decide); have q1 := lv_neT hs1_1 (show ((1 : Int32)).toInt = 1 by decide); have q2 := lv_neT hs1_2 (show ((2 : Int32)).toInt = 2 by decide); have q3 := lv_neT hs1_3 (show ((3 : Int32)).toInt = 3 by decide); have q4 := lv_neT hs1_4 (show ((4 : Int32)).toInt = 4 by decide); have q5 := lv_neT hs1_5 (show ((5 : Int32)).toInt = 5 by decide); have q6 := lv_neT hs1_6 (show ((6 : Int32)).toInt = 6 by decide); omega) (by decide) ?_
  refine v_bipush hz (v := (-2 : Int32)) (by decide) dX12_count_79 ?_
  obtain ⟨rfl, rfl⟩ := sp_inv h
  exact v_iret hz dX12_count_81 (by decide) (by decide)
noncomputable def fX12_isTape (M : Mem) (a0 : Int32) : Option (Int32 × Mem) :=
  bd (fX12_within M a0 (0 : Int32) (5 : Int32)) fun x1 M1 => ck (b01 x1) <| some (x1, M1)
set_option maxRecDepth 100000 in
set_option maxHeartbeats 4000000 in
theorem tX12_isTape (r : Nat) {fx : Fx} {al : Bool} {M N : Mem} {a0 : Int32} {xr : Int32}  (h : fX12_isTape M a0 = some (xr, N)) : Ct fx yX12_isTape cX12_isTape 1 (some .boolean) (r + 1) 0 0 al [.int a0] M (some (.int xr)) N := by
  refine ct_of (lv := [some (.int a0)]) (by decide) (Nat.le_of_ble_eq_true rfl) rfl rfl (fun z hz => ?_)
  unfold fX12_isTape at h
  refine v_iload_n hz rfl rfl dX12_isTape_0 ?_
  refine v_iconst hz (v := (0 : Int32)) (by decide) dX12_isTape_1 ?_
  refine v_iconst hz (v := (5 : Int32)) (by decide) dX12_isTape_2 ?_
  obtain ⟨x1, M1, e1, h⟩ := bd_inv h
  refine v_callS hz (As := [.int a0, .int (0 : Int32), .int (5 : Int32)]) sl_X12_108 (tX12_within (r + 0) e1) rfl rfl rfl (Nat.le_of_ble_eq_true rfl) ⟨by decide, by decide⟩ dX12_isTape_3 ?_
  show V z 6 [some (.int a0)] [.int x1] M1 0 0
  obtain ⟨g2, h⟩ := ck_inv h
  obtain ⟨rfl, rfl⟩ := sp_inv h
  exact v_zret hz (b01_of g2) dX12_isTape_6 (by decide) (by decide)
noncomputable def gX12_tape_67  : Nat → Mem → Nat → Int32 → Int32 → Option (Int32 × Mem)
  | 0, _, _, _, _ => none
  | n + 1, M, l0, l1, l4 => if (60 : Int32) ≤ l4 then (some ((1 : Int32), M)) else (ck (isK M l0 12) <| rb (mR M l0 43) fun b11 => ck (isK M b11 15) <| ck (inb (((60 : Int32) * l1) + l4) (mG M b11)) <| (gX12_tape_67 n) (stL M b11 (((60 : Int32) * l1) + l4).toNatClampNeg (0 : Int64)) l0 l1 (l4 + (1 : Int32)))
noncomputable def gX12_tape_63  (M : Mem) (l0 : Nat) (l1 : Int32) (s0 : Int32) (s1 : Int32) (s2 : Nat) : Option (Int32 × Mem) :=
  ck (isK M s2 14) <| ck (inb s1 (mG M s2)) <| gX12_tape_67 FU (stI M s2 s1.toNatClampNeg s0) l0 l1 (0 : Int32)
noncomputable def gX12_tape_42  (M : Mem) (l0 : Nat) (l1 : Int32) (l2 : Int32) (l3 : Int32) : Option (Int32 × Mem) :=
  ck (isK M l0 12) <| rb (mR M l0 41) fun b4 => ck (isK M b4 14) <| ck (inb l1 (mG M b4)) <| rb (mR (stI M b4 l1.toNatClampNeg l2) l0 42) fun b7 => if 0 ≤ l2 then (gX12_tape_63 (stI M b4 l1.toNatClampNeg l2) l0 l1 l3 l1 b7) else (gX12_tape_63 (stI M b4 l1.toNatClampNeg l2) l0 l1 (0 : Int32) l1 b7)
noncomputable def gX12_tape_31  (M : Mem) (l0 : Nat) (l1 : Int32) (l2 : Int32) (l3 : Int32) : Option (Int32 × Mem) :=
  if l2 < 0 then (gX12_tape_42 M l0 l1 l2 l3) else (if 0 ≤ l3 then (gX12_tape_42 M l0 l1 l2 l3) else (some ((-14 : Int32), M)))
noncomputable def fX12_tape (M : Mem) (a0 : Nat) (a1 : Int32) (a2 : Int32) (a3 : Int32) : Option (Int32 × Mem) :=
  bd (fX12_isTape M a1) fun x1 M1 => if x1 = 0 then (some ((-1 : Int32), M1)) else (bd (fX12_within M1 a2 (-1 : Int32) (4 : Int32)) fun x2 M2 => if x2 = 0 then (some ((-2 : Int32), M2)) else (if a2 < 0 then (gX12_tape_31 M2 a0 a1 a2 a3) else (if a3 ≤ (60 : Int32) then (gX12_tape_31 M2 a0 a1 a2 a3) else (some ((-2 : Int32), M2)))))
set_option maxRecDepth 100000 in
set_option maxHeartbeats 4000000 in
theorem gX12_tape_67_s  (n : Nat) (M : Mem) (l0 : Nat) (l1 : Int32) (l4 : Int32) : gX12_tape_67  (n + 1) M l0 l1 l4 = (if (60 : Int32) ≤ l4 then (some ((1 : Int32), M)) else (ck (isK M l0 12) <| rb (mR M l0 43) fun b11 => ck (isK M b11 15) <| ck (inb (((60 : Int32) * l1) + l4) (mG M b11)) <| (gX12_tape_67 n) (stL M b11 (((60 : Int32) * l1) + l4).toNatClampNeg (0 : Int64)) l0 l1 (l4 + (1 : Int32)))) := rfl
set_option maxRecDepth 100000 in
set_option maxHeartbeats 4000000 in
theorem wX12_tape_67 {z : Zx} {fx : Fx} {al : Bool} {r : Nat} {N : Mem} {xr : Int32} (hz : Zok z fx al yX12_tape.cls yX12_tape.name cX12_tape (some .int) 5 (r + 2) 0 0 (some (.int xr)) N)    : ∀ {n : Nat} {M : Mem} {l0 : Nat} {l1 : Int32} {l4 : Int32}, gX12_tape_67  n M l0 l1 l4 = some (xr, N) → V z 67 [some (.ref l0), some (.int l1), none, none, some (.int l4)] [] M 0 0 := by
  intro n
  induction n with
  | zero => intro M l0 l1 l4 h; cases h
  | succ n ih =>
    intro M l0 l1 l4 h
    replace h := (gX12_tape_67_s  n M l0 l1 l4).symm.trans h
    refine v_iload hz rfl dX12_tape_67 ?_
    refine v_bipush hz (v := (60 : Int32)) (by decide) dX12_tape_69 ?_
    refine v_icmp_ge (tgt := 93) hz dX12_tape_71 (by decide) (fun hc => ?_) (fun hc => ?_)
    · replace h := (if_pos hc).symm.trans h
      refine v_iconst hz (v := (1 : Int32)) (by decide) dX12_tape_93 ?_
      obtain ⟨rfl, rfl⟩ := sp_inv h
      exact v_iret hz dX12_tape_94 (by decide) (by decide)
    · replace h := (if_neg hc).symm.trans h
      refine v_aload_n hz rfl rfl dX12_tape_74 ?_
      obtain ⟨ck10, h⟩ := ck_inv h
      obtain ⟨ka10, kb10⟩ := isK_of ck10
      obtain ⟨b11, r11, h⟩ := rb_inv h
      refine v_getR hz fl_X12_97 rfl dX12_tape_75 ka10 kb10 r11 ?_
      refine v_bipush hz (v := (60 : Int32)) (by decide) dX12_tape_78 ?_
      refine v_iload_n hz rfl rfl dX12_tape_80 ?_
      refine v_imul hz dX12_tape_81 ?_
      refine v_iload hz rfl dX12_tape_82 ?_
      refine v_iadd hz dX12_tape_84 ?_
      refine v_lconst hz (v := (0 : Int64)) (by decide) dX12_tape_85 ?_
      obtain ⟨ck12, h⟩ := ck_inv h
      obtain ⟨ka12, kb12⟩ := isK_of ck12
      obtain ⟨g13, h⟩ := ck_inv h
      refine v_lastore hz dX12_tape_86 ka12 kb12 g13 ?_
      refine v_iinc hz (v := (l4 + (1 : Int32))) (lw := [some (.ref l0), some (.int l1), none, none, some (.int (l4 + (1 : Int32)))]) rfl (congrArg (fun q => l4 + q) (show Int32.ofInt (1) = (1 : Int32) by decide)) rfl rfl dX12_tape_87 ?_
      refine v_goto (tgt := 67) hz dX12_tape_90 (by decide) ?_
      exact v_weak (lvle_s (lvle_s (lvle_n (lvle_n (lvle_s lvle_0))))) (ih h)
set_option maxRecDepth 100000 in
set_option maxHeartbeats 4000000 in
theorem wX12_tape_63 {z : Zx} {fx : Fx} {al : Bool} {r : Nat} {N : Mem} {xr : Int32} (hz : Zok z fx al yX12_tape.cls yX12_tape.name cX12_tape (some .int) 5 (r + 2) 0 0 (some (.int xr)) N)    {M : Mem} {l0 : Nat} {l1 : Int32} {s0 : Int32} {s1 : Int32} {s2 : Nat} (h : gX12_tape_63  M l0 l1 s0 s1 s2 = some (xr, N)) : V z 63 [some (.ref l0), some (.int l1), none, none, none] [.int s0, .int s1, .ref s2] M 0 0 := by
  unfold gX12_tape_63 at h
  obtain ⟨ck8, h⟩ := ck_inv h
  obtain ⟨ka8, kb8⟩ := isK_of ck8
  obtain ⟨g9, h⟩ := ck_inv h
  refine v_iastore hz dX12_tape_63 ka8 kb8 g9 ?_
  refine v_iconst hz (v := (0 : Int32)) (by decide) dX12_tape_64 ?_
  refine v_istore hz (lw := [some (.ref l0), some (.int l1), none, none, some (.int (0 : Int32))]) (Nat.le_of_ble_eq_true rfl) rfl rfl dX12_tape_65 ?_
  exact v_weak (lvle_s (lvle_s (lvle_n (lvle_n (lvle_s lvle_0))))) (wX12_tape_67 hz   h)
set_option maxRecDepth 100000 in
set_option maxHeartbeats 4000000 in
theorem wX12_tape_42 {z : Zx} {fx : Fx} {al : Bool} {r : Nat} {N : Mem} {xr : Int32} (hz : Zok z fx al yX12_tape.cls yX12_tape.name cX12_tape (some .int) 5 (r + 2) 0 0 (some (.int xr)) N)    {M : Mem} {l0 : Nat} {l1 : Int32} {l2 : Int32} {l3 : Int32} (h : gX12_tape_42  M l0 l1 l2 l3 = some (xr, N)) : V z 42 [some (.ref l0), some (.int l1), some (.int l2), some (.int l3), none] [] M 0 0 := by
  unfold gX12_tape_42 at h
  refine v_aload_n hz rfl rfl dX12_tape_42 ?_
  obtain ⟨ck3, h⟩ := ck_inv h
  obtain ⟨ka3, kb3⟩ := isK_of ck3
  obtain ⟨b4, r4, h⟩ := rb_inv h
  refine v_getR hz fl_X12_91 rfl dX12_tape_43 ka3 kb3 r4 ?_
  refine v_iload_n hz rfl rfl dX12_tape_46 ?_
  refine v_iload_n hz rfl rfl dX12_tape_47 ?_
  obtain ⟨ck5, h⟩ := ck_inv h
  obtain ⟨ka5, kb5⟩ := isK_of ck5
  obtain ⟨g6, h⟩ := ck_inv h
  refine v_iastore hz dX12_tape_48 ka5 kb5 g6 ?_
  refine v_aload_n hz rfl rfl dX12_tape_49 ?_
  obtain ⟨b7, r7, h⟩ := rb_inv h
  refine v_getR hz fl_X12_94 rfl dX12_tape_50 ka3 kb3 r7 ?_
  refine v_iload_n hz rfl rfl dX12_tape_53 ?_
  refine v_iload_n hz rfl rfl dX12_tape_54 ?_
  refine v_if_ge (tgt := 62) hz dX12_tape_55 (by decide) (fun hc => ?_) (fun hc => ?_)
  · replace h := (if_pos hc).symm.trans h
    refine v_iload_n hz rfl rfl dX12_tape_62 ?_
    exact v_weak (lvle_s (lvle_s (lvle_n (lvle_n (lvle_n lvle_0))))) (wX12_tape_63 hz   h)
  · replace h := (if_neg hc).symm.trans h
    refine v_iconst hz (v := (0 : Int32)) (by decide) dX12_tape_58 ?_
    refine v_goto (tgt := 63) hz dX12_tape_59 (by decide) ?_
    exact v_weak (lvle_s (lvle_s (lvle_n (lvle_n (lvle_n lvle_0))))) (wX12_tape_63 hz   h)
set_option maxRecDepth 100000 in
set_option maxHeartbeats 4000000 in
theorem wX12_tape_31 {z : Zx} {fx : Fx} {al : Bool} {r : Nat} {N : Mem} {xr : Int32} (hz : Zok z fx al yX12_tape.cls yX12_tape.name cX12_tape (some .int) 5 (r + 2) 0 0 (some (.int xr)) N)    {M : Mem} {l0 : Nat} {l1 : Int32} {l2 : Int32} {l3 : Int32} (h : gX12_tape_31  M l0 l1 l2 l3 = some (xr, N)) : V z 31 [some (.ref l0), some (.int l1), some (.int l2), some (.int l3), none] [] M 0 0 := by
  unfold gX12_tape_31 at h
  refine v_iload_n hz rfl rfl dX12_tape_31 ?_
  refine v_if_lt (tgt := 42) hz dX12_tape_32 (by decide) (fun hc => ?_) (fun hc => ?_)
  · replace h := (if_pos hc).symm.trans h
    exact v_weak (lvle_s (lvle_s (lvle_s (lvle_s (lvle_n lvle_0))))) (wX12_tape_42 hz   h)
  · replace h := (if_neg hc).symm.trans h
    refine v_iload_n hz rfl rfl dX12_tape_35 ?_
    refine v_if_ge (tgt := 42) hz dX12_tape_36 (by decide) (fun hc => ?_) (fun hc => ?_)
    · replace h := (if_pos hc).symm.trans h
      exact v_weak (lvle_s (lvle_s (lvle_s (lvle_s (lvle_n lvle_0))))) (wX12_tape_42 hz   h)
    · replace h := (if_neg hc).symm.trans h
      refine v_bipush hz (v := (-14 : Int32)) (by decide) dX12_tape_39 ?_
      obtain ⟨rfl, rfl⟩ := sp_inv h
      exact v_iret hz dX12_tape_41 (by decide) (by decide)
set_option maxRecDepth 100000 in
set_option maxHeartbeats 4000000 in
theorem tX12_tape (r : Nat) {fx : Fx} {al : Bool} {M N : Mem} {a0 : Nat} {a1 : Int32} {a2 : Int32} {a3 : Int32} {xr : Int32}  (h : fX12_tape M a0 a1 a2 a3 = some (xr, N)) : Ct fx yX12_tape cX12_tape 5 (some .int) (r + 2) 0 0 al [.ref a0, .int a1, .int a2, .int a3] M (some (.int xr)) N := by
  refine ct_of (lv := [some (.ref a0), some (.int a1), some (.int a2), some (.int a3), none]) (by decide) (Nat.le_of_ble_eq_true rfl) rfl rfl (fun z hz => ?_)
  unfold fX12_tape at h
  refine v_iload_n hz rfl rfl dX12_tape_0 ?_
  obtain ⟨x1, M1, e1, h⟩ := bd_inv h
  refine v_callS hz (As := [.int a1]) sl_X12_314 (tX12_isTape (r + 0) e1) rfl rfl rfl (Nat.le_of_ble_eq_true rfl) ⟨by decide, by decide⟩ dX12_tape_1 ?_
  show V z 4 [some (.ref a0), some (.int a1), some (.int a2), some (.int a3), none] [.int x1] M1 0 0
  refine v_if_ne (tgt := 9) hz dX12_tape_4 (by decide) (fun hc => ?_) (fun hc => ?_)
  · replace h := (if_neg hc).symm.trans h
    refine v_iload_n hz rfl rfl dX12_tape_9 ?_
    refine v_iconst hz (v := (-1 : Int32)) (by decide) dX12_tape_10 ?_
    refine v_iconst hz (v := (4 : Int32)) (by decide) dX12_tape_11 ?_
    obtain ⟨x2, M2, e2, h⟩ := bd_inv h
    refine v_callS hz (As := [.int a2, .int (-1 : Int32), .int (4 : Int32)]) sl_X12_108 (tX12_within (r + 1) e2) rfl rfl rfl (Nat.le_of_ble_eq_true rfl) ⟨by decide, by decide⟩ dX12_tape_12 ?_
    show V z 15 [some (.ref a0), some (.int a1), some (.int a2), some (.int a3), none] [.int x2] M2 0 0
    refine v_if_eq (tgt := 28) hz dX12_tape_15 (by decide) (fun hc => ?_) (fun hc => ?_)
    · replace h := (if_pos hc).symm.trans h
      refine v_bipush hz (v := (-2 : Int32)) (by decide) dX12_tape_28 ?_
      obtain ⟨rfl, rfl⟩ := sp_inv h
      exact v_iret hz dX12_tape_30 (by decide) (by decide)
    · replace h := (if_neg hc).symm.trans h
      refine v_iload_n hz rfl rfl dX12_tape_18 ?_
      refine v_if_lt (tgt := 31) hz dX12_tape_19 (by decide) (fun hc => ?_) (fun hc => ?_)
      · replace h := (if_pos hc).symm.trans h
        exact v_weak (lvle_s (lvle_s (lvle_s (lvle_s (lvle_n lvle_0))))) (wX12_tape_31 hz   h)
      · replace h := (if_neg hc).symm.trans h
        refine v_iload_n hz rfl rfl dX12_tape_22 ?_
        refine v_bipush hz (v := (60 : Int32)) (by decide) dX12_tape_23 ?_
        refine v_icmp_le (tgt := 31) hz dX12_tape_25 (by decide) (fun hc => ?_) (fun hc => ?_)
        · replace h := (if_pos hc).symm.trans h
          exact v_weak (lvle_s (lvle_s (lvle_s (lvle_s (lvle_n lvle_0))))) (wX12_tape_31 hz   h)
        · replace h := (if_neg hc).symm.trans h
          refine v_bipush hz (v := (-2 : Int32)) (by decide) dX12_tape_28 ?_
          obtain ⟨rfl, rfl⟩ := sp_inv h
          exact v_iret hz dX12_tape_30 (by decide) (by decide)
  · replace h := (if_pos hc).symm.trans h
    refine v_iconst hz (v := (-1 : Int32)) (by decide) dX12_tape_7 ?_
    obtain ⟨rfl, rfl⟩ := sp_inv h
    exact v_iret hz dX12_tape_8 (by decide) (by decide)
noncomputable def fX12_kept (M : Mem) (a0 : Int32) (a1 : Int64) : Option (Int64 × Mem) :=
  if a0 = (0 : Int32) then (some (a1.toInt32.toInt8.toInt32.toInt64, M)) else if a0 = (1 : Int32) then (some (a1.toInt32.toInt16.toInt32.toInt64, M)) else if a0 = (2 : Int32) then (some (a1.toInt32.toInt64, M)) else if a0 = (3 : Int32) then (some (a1, M)) else (if (lg_cmp a1 (0 : Int64)) = 0 then (some ((0 : Int64), M)) else (some ((1 : Int64), M)))
set_option maxRecDepth 100000 in
set_option maxHeartbeats 4000000 in
theorem tX12_kept (r : Nat) {fx : Fx} {al : Bool} {M N : Mem} {a0 : Int32} {a1 : Int64} {xr : Int64}  (h : fX12_kept M a0 a1 = some (xr, N)) : Ct fx yX12_kept cX12_kept 3 (some .long) (r + 0) 0 0 al [.int a0, .long a1] M (some (.long xr)) N := by
  refine ct_of (lv := [some (.int a0), some (.long a1), none]) (by decide) (Nat.le_of_ble_eq_true rfl) rfl rfl (fun z hz => ?_)
  unfold fX12_kept at h
  refine v_iload_n hz rfl rfl dX12_kept_0 ?_
  by_cases hs1_0 : a0 = (0 : Int32)
  · replace h := (if_pos hs1_0).symm.trans h
    refine v_tableAt (tgt := 32) hz hs1_0 dX12_kept_1 (by decide) (by decide) (by decide) (by decide) ?_
    refine v_lload_n hz rfl rfl dX12_kept_32 ?_
    refine v_l2i hz dX12_kept_33 ?_
    refine v_i2b hz dX12_kept_34 ?_
    refine v_i2l hz dX12_kept_35 ?_
    obtain ⟨rfl, rfl⟩ := sp_inv h
    exact v_lret hz dX12_kept_36 (by decide) (by decide)
  replace h := (if_neg hs1_0).symm.trans h
  by_cases hs1_1 : a0 = (1 : Int32)
  · replace h := (if_pos hs1_1).symm.trans h
    refine v_tableAt (tgt := 37) hz hs1_1 dX12_kept_1 (by decide) (by decide) (by decide) (by decide) ?_
    refine v_lload_n hz rfl rfl dX12_kept_37 ?_
    refine v_l2i hz dX12_kept_38 ?_
    refine v_i2s hz dX12_kept_39 ?_
    refine v_i2l hz dX12_kept_40 ?_
    obtain ⟨rfl, rfl⟩ := sp_inv h
    exact v_lret hz dX12_kept_41 (by decide) (by decide)
  replace h := (if_neg hs1_1).symm.trans h
  by_cases hs1_2 : a0 = (2 : Int32)
  · replace h := (if_pos hs1_2).symm.trans h
    refine v_tableAt (tgt := 42) hz hs1_2 dX12_kept_1 (by decide) (by decide) (by decide) (by decide) ?_
    refine v_lload_n hz rfl rfl dX12_kept_42 ?_
    refine v_l2i hz dX12_kept_43 ?_
    refine v_i2l hz dX12_kept_44 ?_
    obtain ⟨rfl, rfl⟩ := sp_inv h
    exact v_lret hz dX12_kept_45 (by decide) (by decide)
  replace h := (if_neg hs1_2).symm.trans h
  by_cases hs1_3 : a0 = (3 : Int32)
  · replace h := (if_pos hs1_3).symm.trans h
    refine v_tableAt (tgt := 46) hz hs1_3 dX12_kept_1 (by decide) (by decide) (by decide) (by decide) ?_
    refine v_lload_n hz rfl rfl dX12_kept_46 ?_
    obtain ⟨rfl, rfl⟩ := sp_inv h
    exact v_lret hz dX12_kept_47 (by decide) (by decide)
  replace h := (if_neg hs1_3).symm.trans h
  refine v_tableOut (tgt := 48) hz dX12_kept_1 (by have q0 := lv_neT hs1_0 (show ((0 : Int32)).toInt = 0 by decide); have q1 := lv_neT hs1_1 (show ((1 : Int32)).toInt = 1 by decide); have q2 := lv_neT hs1_2 (show ((2 : Int32)).toInt = 2 by decide); have q3 := lv_neT hs1_3 (show ((3 : Int32)).toInt = 3 by decide); omega) (by decide) ?_
  refine v_lload_n hz rfl rfl dX12_kept_48 ?_
  refine v_lconst hz (v := (0 : Int64)) (by decide) dX12_kept_49 ?_
  refine v_lcmp hz dX12_kept_50 ?_
  refine v_if_eq (tgt := 58) hz dX12_kept_51 (by decide) (fun hc => ?_) (fun hc => ?_)
  · replace h := (if_pos hc).symm.trans h
    refine v_lconst hz (v := (0 : Int64)) (by decide) dX12_kept_58 ?_
    obtain ⟨rfl, rfl⟩ := sp_inv h
    exact v_lret hz dX12_kept_59 (by decide) (by decide)
  · replace h := (if_neg hc).symm.trans h
    refine v_lconst hz (v := (1 : Int64)) (by decide) dX12_kept_54 ?_
    refine v_goto (tgt := 59) hz dX12_kept_55 (by decide) ?_
    obtain ⟨rfl, rfl⟩ := sp_inv h
    exact v_lret hz dX12_kept_59 (by decide) (by decide)
noncomputable def fX12_item (M : Mem) (a0 : Nat) (a1 : Int32) (a2 : Int32) (a3 : Int64) : Option (Int32 × Mem) :=
  bd (fX12_isTape M a1) fun x1 M1 => if x1 = 0 then (some ((-1 : Int32), M1)) else (ck (isK M1 a0 12) <| rb (mR M1 a0 41) fun b3 => ck (isK M1 b3 14) <| ck (inb a1 (mG M1 b3)) <| if 0 ≤ (mI M1 b3 a1.toNatClampNeg) then (rb (mR M1 a0 42) fun b6 => ck (isK M1 b6 14) <| ck (inb a1 (mG M1 b6)) <| bd (fX12_within M1 a2 (0 : Int32) ((mI M1 b6 a1.toNatClampNeg) - (1 : Int32))) fun x9 M9 => if x9 = 0 then (some ((-13 : Int32), M9)) else (ck (isK M9 a0 12) <| rb (mR M9 a0 43) fun b11 => rb (mR M9 a0 41) fun b12 => ck (isK M9 b12 14) <| ck (inb a1 (mG M9 b12)) <| bd (fX12_kept M9 (mI M9 b12 a1.toNatClampNeg) a3) fun x15 M15 => ck (isK M15 b11 15) <| ck (inb (((60 : Int32) * a1) + a2) (mG M15 b11)) <| some ((1 : Int32), (stL M15 b11 (((60 : Int32) * a1) + a2).toNatClampNeg x15)))) else (some ((-11 : Int32), M1)))
set_option maxRecDepth 100000 in
set_option maxHeartbeats 4000000 in
theorem tX12_item (r : Nat) {fx : Fx} {al : Bool} {M N : Mem} {a0 : Nat} {a1 : Int32} {a2 : Int32} {a3 : Int64} {xr : Int32}  (h : fX12_item M a0 a1 a2 a3 = some (xr, N)) : Ct fx yX12_item cX12_item 5 (some .int) (r + 2) 0 0 al [.ref a0, .int a1, .int a2, .long a3] M (some (.int xr)) N := by
  refine ct_of (lv := [some (.ref a0), some (.int a1), some (.int a2), some (.long a3), none]) (by decide) (Nat.le_of_ble_eq_true rfl) rfl rfl (fun z hz => ?_)
  unfold fX12_item at h
  refine v_iload_n hz rfl rfl dX12_item_0 ?_
  obtain ⟨x1, M1, e1, h⟩ := bd_inv h
  refine v_callS hz (As := [.int a1]) sl_X12_314 (tX12_isTape (r + 0) e1) rfl rfl rfl (Nat.le_of_ble_eq_true rfl) ⟨by decide, by decide⟩ dX12_item_1 ?_
  show V z 4 [some (.ref a0), some (.int a1), some (.int a2), some (.long a3), none] [.int x1] M1 0 0
  refine v_if_ne (tgt := 9) hz dX12_item_4 (by decide) (fun hc => ?_) (fun hc => ?_)
  · replace h := (if_neg hc).symm.trans h
    refine v_aload_n hz rfl rfl dX12_item_9 ?_
    obtain ⟨ck2, h⟩ := ck_inv h
    obtain ⟨ka2, kb2⟩ := isK_of ck2
    obtain ⟨b3, r3, h⟩ := rb_inv h
    refine v_getR hz fl_X12_91 rfl dX12_item_10 ka2 kb2 r3 ?_
    refine v_iload_n hz rfl rfl dX12_item_13 ?_
    obtain ⟨ck4, h⟩ := ck_inv h
    obtain ⟨ka4, kb4⟩ := isK_of ck4
    obtain ⟨g5, h⟩ := ck_inv h
    refine v_iaload hz dX12_item_14 ka4 kb4 g5 ?_
    refine v_if_ge (tgt := 21) hz dX12_item_15 (by decide) (fun hc => ?_) (fun hc => ?_)
    · replace h := (if_pos hc).symm.trans h
      refine v_iload_n hz rfl rfl dX12_item_21 ?_
      refine v_iconst hz (v := (0 : Int32)) (by decide) dX12_item_22 ?_
      refine v_aload_n hz rfl rfl dX12_item_23 ?_
      obtain ⟨b6, r6, h⟩ := rb_inv h
      refine v_getR hz fl_X12_94 rfl dX12_item_24 ka2 kb2 r6 ?_
      refine v_iload_n hz rfl rfl dX12_item_27 ?_
      obtain ⟨ck7, h⟩ := ck_inv h
      obtain ⟨ka7, kb7⟩ := isK_of ck7
      obtain ⟨g8, h⟩ := ck_inv h
      refine v_iaload hz dX12_item_28 ka7 kb7 g8 ?_
      refine v_iconst hz (v := (1 : Int32)) (by decide) dX12_item_29 ?_
      refine v_isub hz dX12_item_30 ?_
      obtain ⟨x9, M9, e9, h⟩ := bd_inv h
      refine v_callS hz (As := [.int a2, .int (0 : Int32), .int ((mI M1 b6 a1.toNatClampNeg) - (1 : Int32))]) sl_X12_108 (tX12_within (r + 1) e9) rfl rfl rfl (Nat.le_of_ble_eq_true rfl) ⟨by decide, by decide⟩ dX12_item_31 ?_
      show V z 34 [some (.ref a0), some (.int a1), some (.int a2), some (.long a3), none] [.int x9] M9 0 0
      refine v_if_ne (tgt := 40) hz dX12_item_34 (by decide) (fun hc => ?_) (fun hc => ?_)
      · replace h := (if_neg hc).symm.trans h
        refine v_aload_n hz rfl rfl dX12_item_40 ?_
        obtain ⟨ck10, h⟩ := ck_inv h
        obtain ⟨ka10, kb10⟩ := isK_of ck10
        obtain ⟨b11, r11, h⟩ := rb_inv h
        refine v_getR hz fl_X12_97 rfl dX12_item_41 ka10 kb10 r11 ?_
        refine v_bipush hz (v := (60 : Int32)) (by decide) dX12_item_44 ?_
        refine v_iload_n hz rfl rfl dX12_item_46 ?_
        refine v_imul hz dX12_item_47 ?_
        refine v_iload_n hz rfl rfl dX12_item_48 ?_
        refine v_iadd hz dX12_item_49 ?_
        refine v_aload_n hz rfl rfl dX12_item_50 ?_
        obtain ⟨b12, r12, h⟩ := rb_inv h
        refine v_getR hz fl_X12_91 rfl dX12_item_51 ka10 kb10 r12 ?_
        refine v_iload_n hz rfl rfl dX12_item_54 ?_
        obtain ⟨ck13, h⟩ := ck_inv h
        obtain ⟨ka13, kb13⟩ := isK_of ck13
        obtain ⟨g14, h⟩ := ck_inv h
        refine v_iaload hz dX12_item_55 ka13 kb13 g14 ?_
        refine v_lload_n hz rfl rfl dX12_item_56 ?_
        obtain ⟨x15, M15, e15, h⟩ := bd_inv h
        refine v_callS hz (As := [.int (mI M9 b12 a1.toNatClampNeg), .long a3]) sl_X12_317 (tX12_kept (r + 1) e15) rfl rfl rfl (Nat.le_of_ble_eq_true rfl) ⟨by decide, by decide⟩ dX12_item_57 ?_
        show V z 60 [some (.ref a0), some (.int a1), some (.int a2), some (.long a3), none] [.long x15, .int (((60 : Int32) * a1) + a2), .ref b11] M15 0 0
        obtain ⟨ck16, h⟩ := ck_inv h
        obtain ⟨ka16, kb16⟩ := isK_of ck16
        obtain ⟨g17, h⟩ := ck_inv h
        refine v_lastore hz dX12_item_60 ka16 kb16 g17 ?_
        refine v_iconst hz (v := (1 : Int32)) (by decide) dX12_item_61 ?_
        obtain ⟨rfl, rfl⟩ := sp_inv h
        exact v_iret hz dX12_item_62 (by decide) (by decide)
      · replace h := (if_pos hc).symm.trans h
        refine v_bipush hz (v := (-13 : Int32)) (by decide) dX12_item_37 ?_
        obtain ⟨rfl, rfl⟩ := sp_inv h
        exact v_iret hz dX12_item_39 (by decide) (by decide)
    · replace h := (if_neg hc).symm.trans h
      refine v_bipush hz (v := (-11 : Int32)) (by decide) dX12_item_18 ?_
      obtain ⟨rfl, rfl⟩ := sp_inv h
      exact v_iret hz dX12_item_20 (by decide) (by decide)
  · replace h := (if_pos hc).symm.trans h
    refine v_iconst hz (v := (-1 : Int32)) (by decide) dX12_item_7 ?_
    obtain ⟨rfl, rfl⟩ := sp_inv h
    exact v_iret hz dX12_item_8 (by decide) (by decide)
