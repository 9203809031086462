noncomputable def gX11_judge_43  : Nat → Mem → Nat → Int32 → Int32 → Int32 → Option (Int32 × Mem)
  | 0, _, _, _, _, _ => none
  | n + 1, M, l0, l1, l2, l3 => if (25 : Int32) ≤ l3 then (some ((-5 : Int32), M)) else (ck (isK M l0 11) <| rb (mR M l0 16) fun b8 => ck (isK M b8 14) <| ck (inb l1 (mG M b8)) <| if l2 < ((mI M b8 l1.toNatClampNeg) - l3) then (rb (mR M l0 17) fun b11 => ck (isK M b11 15) <| ck (inb (((l1 * (60 : Int32)) + l2) + l3) (mG M b11)) <| rb (mR M l0 0) fun b14 => ck (isK M b14 3) <| rb (mR M b14 3) fun b16 => ck (isK M b16 14) <| ck (inb l3 (mG M b16)) <| if (lg_cmp (mL M b11 (((l1 * (60 : Int32)) + l2) + l3).toNatClampNeg) ((mI M b16 l3.toNatClampNeg).toInt64)) = 0 then ((gX11_judge_43 n) M l0 l1 l2 (l3 + (1 : Int32))) else (some (l3, M))) else (some (((100 : Int32) + l3), M)))
noncomputable def fX11_judge (M : Mem) (a0 : Nat) (a1 : Int32) (a2 : Int32) : Option (Int32 × Mem) :=
  bd (fX11_isTape M a1) fun x1 M1 => if x1 = 0 then (some ((-1 : Int32), M1)) else (ck (isK M1 a0 11) <| rb (mR M1 a0 15) fun b3 => ck (isK M1 b3 14) <| ck (inb a1 (mG M1 b3)) <| if (mI M1 b3 a1.toNatClampNeg) = (-1 : Int32) then (some ((100 : Int32), M1)) else (ck (inb a1 (mG M1 b3)) <| if (mI M1 b3 a1.toNatClampNeg) = 0 then (if 0 ≤ a2 then (gX11_judge_43 FU M1 a0 a1 a2 (0 : Int32)) else (some ((100 : Int32), M1))) else (some ((-12 : Int32), M1))))
set_option maxRecDepth 100000 in
set_option maxHeartbeats 4000000 in
theorem gX11_judge_43_s  (n : Nat) (M : Mem) (l0 : Nat) (l1 : Int32) (l2 : Int32) (l3 : Int32) : gX11_judge_43  (n + 1) M l0 l1 l2 l3 = (if (25 : Int32) ≤ l3 then (some ((-5 : Int32), M)) else (ck (isK M l0 11) <| rb (mR M l0 16) fun b8 => ck (isK M b8 14) <| ck (inb l1 (mG M b8)) <| if l2 < ((mI M b8 l1.toNatClampNeg) - l3) then (rb (mR M l0 17) fun b11 => ck (isK M b11 15) <| ck (inb (((l1 * (60 : Int32)) + l2) + l3) (mG M b11)) <| rb (mR M l0 0) fun b14 => ck (isK M b14 3) <| rb (mR M b14 3) fun b16 => ck (isK M b16 14) <| ck (inb l3 (mG M b16)) <| if (lg_cmp (mL M b11 (((l1 * (60 : Int32)) + l2) + l3).toNatClampNeg) ((mI M b16 l3.toNatClampNeg).toInt64)) = 0 then ((gX11_judge_43 n) M l0 l1 l2 (l3 + (1 : Int32))) else (some (l3, M))) else (some (((100 : Int32) + l3), M)))) := rfl
set_option maxRecDepth 100000 in
set_option maxHeartbeats 4000000 in
theorem wX11_judge_43 {z : Zx} {fx : Fx} {al : Bool} {r : Nat} {N : Mem} {xr : Int32} (hz : Zok z fx al yX11_judge.cls yX11_judge.name cX11_judge (some .int) 4 (r + 1) 0 0 (some (.int xr)) N)    : ∀ {n : Nat} {M : Mem} {l0 : Nat} {l1 : Int32} {l2 : Int32} {l3 : Int32}, gX11_judge_43  n M l0 l1 l2 l3 = some (xr, N) → V z 43 [some (.ref l0), some (.int l1), some (.int l2), some (.int l3)] [] M 0 0 := by
  intro n
  induction n with
  | zero => intro M l0 l1 l2 l3 h; cases h
  | succ n ih =>
    intro M l0 l1 l2 l3 h
    replace h := (gX11_judge_43_s  n M l0 l1 l2 l3).symm.trans h
    refine v_iload_n hz rfl rfl dX11_judge_43 ?_
    refine v_bipush hz (v := (25 : Int32)) (by decide) dX11_judge_44 ?_
    refine v_icmp_ge (tgt := 101) hz dX11_judge_46 (by decide) (fun hc => ?_) (fun hc => ?_)
    · replace h := (if_pos hc).symm.trans h
      refine v_bipush hz (v := (-5 : Int32)) (by decide) dX11_judge_101 ?_
      obtain ⟨rfl, rfl⟩ := sp_inv h
      exact v_iret hz dX11_judge_103 (by decide) (by decide)
    · replace h := (if_neg hc).symm.trans h
      refine v_iload_n hz rfl rfl dX11_judge_49 ?_
      refine v_aload_n hz rfl rfl dX11_judge_50 ?_
      obtain ⟨ck7, h⟩ := ck_inv h
      obtain ⟨ka7, kb7⟩ := isK_of ck7
      obtain ⟨b8, r8, h⟩ := rb_inv h
      refine v_getR hz fl_X11_57 rfl dX11_judge_51 ka7 kb7 r8 ?_
      refine v_iload_n hz rfl rfl dX11_judge_54 ?_
      obtain ⟨ck9, h⟩ := ck_inv h
      obtain ⟨ka9, kb9⟩ := isK_of ck9
      obtain ⟨g10, h⟩ := ck_inv h
      refine v_iaload hz dX11_judge_55 ka9 kb9 g10 ?_
      refine v_iload_n hz rfl rfl dX11_judge_56 ?_
      refine v_isub hz dX11_judge_57 ?_
      refine v_icmp_lt (tgt := 66) hz dX11_judge_58 (by decide) (fun hc => ?_) (fun hc => ?_)
      · replace h := (if_pos hc).symm.trans h
        refine v_aload_n hz rfl rfl dX11_judge_66 ?_
        obtain ⟨b11, r11, h⟩ := rb_inv h
        refine v_getR hz fl_X11_60 rfl dX11_judge_67 ka7 kb7 r11 ?_
        refine v_iload_n hz rfl rfl dX11_judge_70 ?_
        refine v_bipush hz (v := (60 : Int32)) (by decide) dX11_judge_71 ?_
        refine v_imul hz dX11_judge_73 ?_
        refine v_iload_n hz rfl rfl dX11_judge_74 ?_
        refine v_iadd hz dX11_judge_75 ?_
        refine v_iload_n hz rfl rfl dX11_judge_76 ?_
        refine v_iadd hz dX11_judge_77 ?_
        obtain ⟨ck12, h⟩ := ck_inv h
        obtain ⟨ka12, kb12⟩ := isK_of ck12
        obtain ⟨g13, h⟩ := ck_inv h
        refine v_laload hz dX11_judge_78 ka12 kb12 g13 ?_
        refine v_aload_n hz rfl rfl dX11_judge_79 ?_
        obtain ⟨b14, r14, h⟩ := rb_inv h
        refine v_getR hz fl_X11_90 rfl dX11_judge_80 ka7 kb7 r14 ?_
        obtain ⟨ck15, h⟩ := ck_inv h
        obtain ⟨ka15, kb15⟩ := isK_of ck15
        obtain ⟨b16, r16, h⟩ := rb_inv h
        refine v_getR hz fl_X11_143 rfl dX11_judge_83 ka15 kb15 r16 ?_
        refine v_iload_n hz rfl rfl dX11_judge_86 ?_
        obtain ⟨ck17, h⟩ := ck_inv h
        obtain ⟨ka17, kb17⟩ := isK_of ck17
        obtain ⟨g18, h⟩ := ck_inv h
        refine v_iaload hz dX11_judge_87 ka17 kb17 g18 ?_
        refine v_i2l hz dX11_judge_88 ?_
        refine v_lcmp hz dX11_judge_89 ?_
        refine v_if_eq (tgt := 95) hz dX11_judge_90 (by decide) (fun hc => ?_) (fun hc => ?_)
        · replace h := (if_pos hc).symm.trans h
          refine v_iinc hz (v := (l3 + (1 : Int32))) (lw := [some (.ref l0), some (.int l1), some (.int l2), some (.int (l3 + (1 : Int32)))]) rfl (congrArg (fun q => l3 + q) (show Int32.ofInt (1) = (1 : Int32) by decide)) rfl rfl dX11_judge_95 ?_
          refine v_goto (tgt := 43) hz dX11_judge_98 (by decide) ?_
          exact v_weak (lvle_s (lvle_s (lvle_s (lvle_s lvle_0)))) (ih h)
        · replace h := (if_neg hc).symm.trans h
          refine v_iload_n hz rfl rfl dX11_judge_93 ?_
          obtain ⟨rfl, rfl⟩ := sp_inv h
          exact v_iret hz dX11_judge_94 (by decide) (by decide)
      · replace h := (if_neg hc).symm.trans h
        refine v_bipush hz (v := (100 : Int32)) (by decide) dX11_judge_61 ?_
        refine v_iload_n hz rfl rfl dX11_judge_63 ?_
        refine v_iadd hz dX11_judge_64 ?_
        obtain ⟨rfl, rfl⟩ := sp_inv h
        exact v_iret hz dX11_judge_65 (by decide) (by decide)
set_option maxRecDepth 100000 in
set_option maxHeartbeats 4000000 in
theorem tX11_judge (r : Nat) {fx : Fx} {al : Bool} {M N : Mem} {a0 : Nat} {a1 : Int32} {a2 : Int32} {xr : Int32}  (h : fX11_judge M a0 a1 a2 = some (xr, N)) : Ct fx yX11_judge cX11_judge 4 (some .int) (r + 1) 0 0 al [.ref a0, .int a1, .int a2] M (some (.int xr)) N := by
  refine ct_of (lv := [some (.ref a0), some (.int a1), some (.int a2), none]) (by decide) (Nat.le_of_ble_eq_true rfl) rfl rfl (fun z hz => ?_)
  unfold fX11_judge at h
  refine v_iload_n hz rfl rfl dX11_judge_0 ?_
  obtain ⟨x1, M1, e1, h⟩ := bd_inv h
  refine v_callS hz (As := [.int a1]) sl_X11_235 (tX11_isTape (r + 0) e1) rfl rfl rfl (Nat.le_of_ble_eq_true rfl) ⟨by decide, by decide⟩ dX11_judge_1 ?_
  show V z 4 [some (.ref a0), some (.int a1), some (.int a2), none] [.int x1] M1 0 0
  refine v_if_ne (tgt := 9) hz dX11_judge_4 (by decide) (fun hc => ?_) (fun hc => ?_)
  · replace h := (if_neg hc).symm.trans h
    refine v_aload_n hz rfl rfl dX11_judge_9 ?_
    obtain ⟨ck2, h⟩ := ck_inv h
    obtain ⟨ka2, kb2⟩ := isK_of ck2
    obtain ⟨b3, r3, h⟩ := rb_inv h
    refine v_getR hz fl_X11_53 rfl dX11_judge_10 ka2 kb2 r3 ?_
    refine v_iload_n hz rfl rfl dX11_judge_13 ?_
    obtain ⟨ck4, h⟩ := ck_inv h
    obtain ⟨ka4, kb4⟩ := isK_of ck4
    obtain ⟨g5, h⟩ := ck_inv h
    refine v_iaload hz dX11_judge_14 ka4 kb4 g5 ?_
    refine v_iconst hz (v := (-1 : Int32)) (by decide) dX11_judge_15 ?_
    refine v_icmp_ne (tgt := 22) hz dX11_judge_16 (by decide) (fun hc => ?_) (fun hc => ?_)
    · replace h := (if_neg hc).symm.trans h
      refine v_aload_n hz rfl rfl dX11_judge_22 ?_
      refine v_getR hz fl_X11_53 rfl dX11_judge_23 ka2 kb2 r3 ?_
      refine v_iload_n hz rfl rfl dX11_judge_26 ?_
      obtain ⟨g6, h⟩ := ck_inv h
      refine v_iaload hz dX11_judge_27 ka4 kb4 g6 ?_
      refine v_if_eq (tgt := 34) hz dX11_judge_28 (by decide) (fun hc => ?_) (fun hc => ?_)
      · replace h := (if_pos hc).symm.trans h
        refine v_iload_n hz rfl rfl dX11_judge_34 ?_
        refine v_if_ge (tgt := 41) hz dX11_judge_35 (by decide) (fun hc => ?_) (fun hc => ?_)
        · replace h := (if_pos hc).symm.trans h
          refine v_iconst hz (v := (0 : Int32)) (by decide) dX11_judge_41 ?_
          refine v_istore_n hz (lw := [some (.ref a0), some (.int a1), some (.int a2), some (.int (0 : Int32))]) rfl (Nat.le_of_ble_eq_true rfl) rfl rfl dX11_judge_42 ?_
          exact v_weak (lvle_s (lvle_s (lvle_s (lvle_s lvle_0)))) (wX11_judge_43 hz   h)
        · replace h := (if_neg hc).symm.trans h
          refine v_bipush hz (v := (100 : Int32)) (by decide) dX11_judge_38 ?_
          obtain ⟨rfl, rfl⟩ := sp_inv h
          exact v_iret hz dX11_judge_40 (by decide) (by decide)
      · replace h := (if_neg hc).symm.trans h
        refine v_bipush hz (v := (-12 : Int32)) (by decide) dX11_judge_31 ?_
        obtain ⟨rfl, rfl⟩ := sp_inv h
        exact v_iret hz dX11_judge_33 (by decide) (by decide)
    · replace h := (if_pos hc).symm.trans h
      refine v_bipush hz (v := (100 : Int32)) (by decide) dX11_judge_19 ?_
      obtain ⟨rfl, rfl⟩ := sp_inv h
      exact v_iret hz dX11_judge_21 (by decide) (by decide)
  · replace h := (if_pos hc).symm.trans h
    refine v_iconst hz (v := (-1 : Int32)) (by decide) dX11_judge_7 ?_
    obtain ⟨rfl, rfl⟩ := sp_inv h
    exact v_iret hz dX11_judge_8 (by decide) (by decide)
noncomputable def fX11_image (M : Mem) (a0 : Nat) : Option (Int32 × Mem) :=
  ck (isK M a0 11) <| rb (mR (stI M a0 5 (1 : Int32)) a0 6) fun b2 => rb (mR (stI M a0 5 (1 : Int32)) a0 0) fun b3 => ck (isK M b2 3) <| bd (fX3_take (stI M a0 5 (1 : Int32)) b2 b3) fun x5 M5 => ck (isK M5 a0 11) <| rb (mR M5 a0 7) fun b7 => rb (mR M5 a0 2) fun b8 => ck (isK M5 b7 5) <| bd (fX5_take M5 b7 b8) fun x10 M10 => ck (isK M10 a0 11) <| rb (mR M10 a0 8) fun b12 => rb (mR M10 a0 3) fun b13 => ck (isK M10 b12 5) <| bd (fX5_take M10 b12 b13) fun x15 M15 => ck (isK M15 a0 11) <| rb (mR M15 a0 9) fun b17 => rb (mR M15 a0 4) fun b18 => ck (isK M15 b17 5) <| bd (fX5_take M15 b17 b18) fun x20 M20 => ck (isK M20 a0 11) <| rb (mR M20 a0 0) fun b22 => ck (isK M20 b22 3) <| some ((mI M20 b22 4), M20)
set_option maxRecDepth 100000 in
set_option maxHeartbeats 4000000 in
theorem tX11_image (r : Nat) {fx : Fx} {al : Bool} {M N : Mem} {a0 : Nat} {xr : Int32}  (h : fX11_image M a0 = some (xr, N)) : Ct fx yX11_image cX11_image 1 (some .int) (r + 2) 0 0 al [.ref a0] M (some (.int xr)) N := by
  refine ct_of (lv := [some (.ref a0)]) (by decide) (Nat.le_of_ble_eq_true rfl) rfl rfl (fun z hz => ?_)
  unfold fX11_image at h
  refine v_aload_n hz rfl rfl dX11_image_0 ?_
  refine v_iconst hz (v := (1 : Int32)) (by decide) dX11_image_1 ?_
  obtain ⟨ck1, h⟩ := ck_inv h
  obtain ⟨ka1, kb1⟩ := isK_of ck1
  refine v_putI hz fl_X11_238 ft_11_5 (by decide) rfl rfl rfl dX11_image_2 ka1 kb1 ?_
  refine v_aload_n hz rfl rfl dX11_image_5 ?_
  obtain ⟨b2, r2, h⟩ := rb_inv h
  refine v_getR hz fl_X11_97 rfl dX11_image_6 ka1 kb1 r2 ?_
  refine v_aload_n hz rfl rfl dX11_image_9 ?_
  obtain ⟨b3, r3, h⟩ := rb_inv h
  refine v_getR hz fl_X11_90 rfl dX11_image_10 ka1 kb1 r3 ?_
  obtain ⟨ck4, h⟩ := ck_inv h
  obtain ⟨ka4, kb4⟩ := isK_of ck4
  obtain ⟨x5, M5, e5, h⟩ := bd_inv h
  refine v_callV hz (As := [.ref b3]) vl_X11_187 (tX3_take (r + 0) e5) rfl (by decide) ka4 kb4 rfl rfl rfl (Nat.le_of_ble_eq_true rfl) ⟨by decide, by decide⟩ dX11_image_13 ?_
  show V z 16 [some (.ref a0)] [] M5 0 0
  refine v_aload_n hz rfl rfl dX11_image_16 ?_
  obtain ⟨ck6, h⟩ := ck_inv h
  obtain ⟨ka6, kb6⟩ := isK_of ck6
  obtain ⟨b7, r7, h⟩ := rb_inv h
  refine v_getR hz fl_X11_26 rfl dX11_image_17 ka6 kb6 r7 ?_
  refine v_aload_n hz rfl rfl dX11_image_20 ?_
  obtain ⟨b8, r8, h⟩ := rb_inv h
  refine v_getR hz fl_X11_16 rfl dX11_image_21 ka6 kb6 r8 ?_
  obtain ⟨ck9, h⟩ := ck_inv h
  obtain ⟨ka9, kb9⟩ := isK_of ck9
  obtain ⟨x10, M10, e10, h⟩ := bd_inv h
  refine v_callV hz (As := [.ref b8]) vl_X11_242 (tX5_take (r + 0) e10) rfl (by decide) ka9 kb9 rfl rfl rfl (Nat.le_of_ble_eq_true rfl) ⟨by decide, by decide⟩ dX11_image_24 ?_
  show V z 27 [some (.ref a0)] [] M10 0 0
  refine v_aload_n hz rfl rfl dX11_image_27 ?_
  obtain ⟨ck11, h⟩ := ck_inv h
  obtain ⟨ka11, kb11⟩ := isK_of ck11
  obtain ⟨b12, r12, h⟩ := rb_inv h
  refine v_getR hz fl_X11_29 rfl dX11_image_28 ka11 kb11 r12 ?_
  refine v_aload_n hz rfl rfl dX11_image_31 ?_
  obtain ⟨b13, r13, h⟩ := rb_inv h
  refine v_getR hz fl_X11_20 rfl dX11_image_32 ka11 kb11 r13 ?_
  obtain ⟨ck14, h⟩ := ck_inv h
  obtain ⟨ka14, kb14⟩ := isK_of ck14
  obtain ⟨x15, M15, e15, h⟩ := bd_inv h
  refine v_callV hz (As := [.ref b13]) vl_X11_242 (tX5_take (r + 0) e15) rfl (by decide) ka14 kb14 rfl rfl rfl (Nat.le_of_ble_eq_true rfl) ⟨by decide, by decide⟩ dX11_image_35 ?_
  show V z 38 [some (.ref a0)] [] M15 0 0
  refine v_aload_n hz rfl rfl dX11_image_38 ?_
  obtain ⟨ck16, h⟩ := ck_inv h
  obtain ⟨ka16, kb16⟩ := isK_of ck16
  obtain ⟨b17, r17, h⟩ := rb_inv h
  refine v_getR hz fl_X11_32 rfl dX11_image_39 ka16 kb16 r17 ?_
  refine v_aload_n hz rfl rfl dX11_image_42 ?_
  obtain ⟨b18, r18, h⟩ := rb_inv h
  refine v_getR hz fl_X11_23 rfl dX11_image_43 ka16 kb16 r18 ?_
  obtain ⟨ck19, h⟩ := ck_inv h
  obtain ⟨ka19, kb19⟩ := isK_of ck19
  obtain ⟨x20, M20, e20, h⟩ := bd_inv h
  refine v_callV hz (As := [.ref b18]) vl_X11_242 (tX5_take (r + 0) e20) rfl (by decide) ka19 kb19 rfl rfl rfl (Nat.le_of_ble_eq_true rfl) ⟨by decide, by decide⟩ dX11_image_46 ?_
  show V z 49 [some (.ref a0)] [] M20 0 0
  refine v_aload_n hz rfl rfl dX11_image_49 ?_
  obtain ⟨ck21, h⟩ := ck_inv h
  obtain ⟨ka21, kb21⟩ := isK_of ck21
  obtain ⟨b22, r22, h⟩ := rb_inv h
  refine v_getR hz fl_X11_90 rfl dX11_image_50 ka21 kb21 r22 ?_
  obtain ⟨ck23, h⟩ := ck_inv h
  obtain ⟨ka23, kb23⟩ := isK_of ck23
  refine v_getI hz fl_X11_245 rfl dX11_image_53 ka23 kb23 ?_
  obtain ⟨rfl, rfl⟩ := sp_inv h
  exact v_iret hz dX11_image_56 (by decide) (by decide)
noncomputable def fX11_undo (M : Mem) (a0 : Nat) : Option (Int32 × Mem) :=
  ck (isK M a0 11) <| if (mI M a0 5) = 0 then (some ((-3 : Int32), M)) else (rb (mR M a0 0) fun b2 => rb (mR M a0 6) fun b3 => ck (isK M b2 3) <| bd (fX3_take M b2 b3) fun x5 M5 => ck (isK M5 a0 11) <| rb (mR M5 a0 2) fun b7 => rb (mR M5 a0 7) fun b8 => ck (isK M5 b7 5) <| bd (fX5_take M5 b7 b8) fun x10 M10 => ck (isK M10 a0 11) <| rb (mR M10 a0 3) fun b12 => rb (mR M10 a0 8) fun b13 => ck (isK M10 b12 5) <| bd (fX5_take M10 b12 b13) fun x15 M15 => ck (isK M15 a0 11) <| rb (mR M15 a0 4) fun b17 => rb (mR M15 a0 9) fun b18 => ck (isK M15 b17 5) <| bd (fX5_take M15 b17 b18) fun x20 M20 => ck (isK M20 a0 11) <| rb (mR M20 a0 0) fun b22 => ck (isK M20 b22 3) <| some ((mI M20 b22 4), M20))
set_option maxRecDepth 100000 in
set_option maxHeartbeats 4000000 in
theorem tX11_undo (r : Nat) {fx : Fx} {al : Bool} {M N : Mem} {a0 : Nat} {xr : Int32}  (h : fX11_undo M a0 = some (xr, N)) : Ct fx yX11_undo cX11_undo 1 (some .int) (r + 2) 0 0 al [.ref a0] M (some (.int xr)) N := by
  refine ct_of (lv := [some (.ref a0)]) (by decide) (Nat.le_of_ble_eq_true rfl) rfl rfl (fun z hz => ?_)
  unfold fX11_undo at h
  refine v_aload_n hz rfl rfl dX11_undo_0 ?_
  obtain ⟨ck1, h⟩ := ck_inv h
  obtain ⟨ka1, kb1⟩ := isK_of ck1
  refine v_getI hz fl_X11_238 rfl dX11_undo_1 ka1 kb1 ?_
  refine v_if_ne (tgt := 10) hz dX11_undo_4 (by decide) (fun hc => ?_) (fun hc => ?_)
  · replace h := (if_neg hc).symm.trans h
    refine v_aload_n hz rfl rfl dX11_undo_10 ?_
    obtain ⟨b2, r2, h⟩ := rb_inv h
    refine v_getR hz fl_X11_90 rfl dX11_undo_11 ka1 kb1 r2 ?_
    refine v_aload_n hz rfl rfl dX11_undo_14 ?_
    obtain ⟨b3, r3, h⟩ := rb_inv h
    refine v_getR hz fl_X11_97 rfl dX11_undo_15 ka1 kb1 r3 ?_
    obtain ⟨ck4, h⟩ := ck_inv h
    obtain ⟨ka4, kb4⟩ := isK_of ck4
    obtain ⟨x5, M5, e5, h⟩ := bd_inv h
    refine v_callV hz (As := [.ref b3]) vl_X11_187 (tX3_take (r + 0) e5) rfl (by decide) ka4 kb4 rfl rfl rfl (Nat.le_of_ble_eq_true rfl) ⟨by decide, by decide⟩ dX11_undo_18 ?_
    show V z 21 [some (.ref a0)] [] M5 0 0
    refine v_aload_n hz rfl rfl dX11_undo_21 ?_
    obtain ⟨ck6, h⟩ := ck_inv h
    obtain ⟨ka6, kb6⟩ := isK_of ck6
    obtain ⟨b7, r7, h⟩ := rb_inv h
    refine v_getR hz fl_X11_16 rfl dX11_undo_22 ka6 kb6 r7 ?_
    refine v_aload_n hz rfl rfl dX11_undo_25 ?_
    obtain ⟨b8, r8, h⟩ := rb_inv h
    refine v_getR hz fl_X11_26 rfl dX11_undo_26 ka6 kb6 r8 ?_
    obtain ⟨ck9, h⟩ := ck_inv h
    obtain ⟨ka9, kb9⟩ := isK_of ck9
    obtain ⟨x10, M10, e10, h⟩ := bd_inv h
    refine v_callV hz (As := [.ref b8]) vl_X11_242 (tX5_take (r + 0) e10) rfl (by decide) ka9 kb9 rfl rfl rfl (Nat.le_of_ble_eq_true rfl) ⟨by decide, by decide⟩ dX11_undo_29 ?_
    show V z 32 [some (.ref a0)] [] M10 0 0
    refine v_aload_n hz rfl rfl dX11_undo_32 ?_
    obtain ⟨ck11, h⟩ := ck_inv h
    obtain ⟨ka11, kb11⟩ := isK_of ck11
    obtain ⟨b12, r12, h⟩ := rb_inv h
    refine v_getR hz fl_X11_20 rfl dX11_undo_33 ka11 kb11 r12 ?_
    refine v_aload_n hz rfl rfl dX11_undo_36 ?_
    obtain ⟨b13, r13, h⟩ := rb_inv h
    refine v_getR hz fl_X11_29 rfl dX11_undo_37 ka11 kb11 r13 ?_
    obtain ⟨ck14, h⟩ := ck_inv h
    obtain ⟨ka14, kb14⟩ := isK_of ck14
    obtain ⟨x15, M15, e15, h⟩ := bd_inv h
    refine v_callV hz (As := [.ref b13]) vl_X11_242 (tX5_take (r + 0) e15) rfl (by decide) ka14 kb14 rfl rfl rfl (Nat.le_of_ble_eq_true rfl) ⟨by decide, by decide⟩ dX11_undo_40 ?_
    show V z 43 [some (.ref a0)] [] M15 0 0
    refine v_aload_n hz rfl rfl dX11_undo_43 ?_
    obtain ⟨ck16, h⟩ := ck_inv h
    obtain ⟨ka16, kb16⟩ := isK_of ck16
    obtain ⟨b17, r17, h⟩ := rb_inv h
    refine v_getR hz fl_X11_23 rfl dX11_undo_44 ka16 kb16 r17 ?_
    refine v_aload_n hz rfl rfl dX11_undo_47 ?_
    obtain ⟨b18, r18, h⟩ := rb_inv h
    refine v_getR hz fl_X11_32 rfl dX11_undo_48 ka16 kb16 r18 ?_
    obtain ⟨ck19, h⟩ := ck_inv h
    obtain ⟨ka19, kb19⟩ := isK_of ck19
    obtain ⟨x20, M20, e20, h⟩ := bd_inv h
    refine v_callV hz (As := [.ref b18]) vl_X11_242 (tX5_take (r + 0) e20) rfl (by decide) ka19 kb19 rfl rfl rfl (Nat.le_of_ble_eq_true rfl) ⟨by decide, by decide⟩ dX11_undo_51 ?_
    show V z 54 [some (.ref a0)] [] M20 0 0
    refine v_aload_n hz rfl rfl dX11_undo_54 ?_
    obtain ⟨ck21, h⟩ := ck_inv h
    obtain ⟨ka21, kb21⟩ := isK_of ck21
    obtain ⟨b22, r22, h⟩ := rb_inv h
    refine v_getR hz fl_X11_90 rfl dX11_undo_55 ka21 kb21 r22 ?_
    obtain ⟨ck23, h⟩ := ck_inv h
    obtain ⟨ka23, kb23⟩ := isK_of ck23
    refine v_getI hz fl_X11_245 rfl dX11_undo_58 ka23 kb23 ?_
    obtain ⟨rfl, rfl⟩ := sp_inv h
    exact v_iret hz dX11_undo_61 (by decide) (by decide)
  · replace h := (if_pos hc).symm.trans h
    refine v_bipush hz (v := (-3 : Int32)) (by decide) dX11_undo_7 ?_
    obtain ⟨rfl, rfl⟩ := sp_inv h
    exact v_iret hz dX11_undo_9 (by decide) (by decide)
noncomputable def vt10_tells (M : Mem) (a0 : Nat) (a1 : Nat) (a2 : Int32) : Option (Int32 × Mem) := ck (decide (a0 < mN M)) <| if mK M a0 = 0 then fX0_tells M a0 a1 a2 else if mK M a0 = 2 then fX10_tells M a0 a1 a2 else if mK M a0 = 4 then fX4_tells M a0 a1 a2 else if mK M a0 = 6 then fX10_tells M a0 a1 a2 else if mK M a0 = 8 then fX4_tells M a0 a1 a2 else if mK M a0 = 9 then fX10_tells M a0 a1 a2 else if mK M a0 = 10 then fX10_tells M a0 a1 a2 else none
noncomputable def fX11_act (M : Mem) (a0 : Nat) (a1 : Int32) (a2 : Int32) (a3 : Int32) : Option (Int32 × Mem) :=
  ck (isK M a0 11) <| rb (mR M a0 14) fun b2 => ck (isK M b2 1) <| bd (fX11_isPerson (stI M b2 2 (0 : Int32)) a0 a1) fun x4 M4 => if x4 = 0 then (some ((0 : Int32), M4)) else (ck (isK M4 a0 11) <| rb (mR M4 a0 14) fun b6 => ck (isK M4 b6 1) <| rb (mR (stI M4 b6 0 a1) a0 0) fun b8 => ck (isK M4 b8 3) <| rb (mR (stI M4 b6 0 a1) b8 6) fun b10 => ck (isK M4 b10 14) <| ck (inb a1 (mG M4 b10)) <| bd (fX3_kindOf (stI (stI M4 b6 0 a1) b6 1 (mI (stI M4 b6 0 a1) b10 a1.toNatClampNeg)) b8 a1) fun x13 M13 => if a2 = (0 : Int32) then (ck (isK M13 a0 11) <| rb (mR M13 a0 14) fun b16 => bd (vt10_bows M13 x13 b16 a3) fun x17 M17 => some (x17, M17)) else if a2 = (1 : Int32) then (ck (isK M13 a0 11) <| rb (mR M13 a0 14) fun b19 => bd (vt10_walks M13 x13 b19 a3) fun x20 M20 => some (x20, M20)) else if a2 = (2 : Int32) then (ck (isK M13 a0 11) <| rb (mR M13 a0 14) fun b22 => bd (vt10_tells M13 x13 b22 a3) fun x23 M23 => some (x23, M23)) else (some ((0 : Int32), M13)))
set_option maxRecDepth 100000 in
set_option maxHeartbeats 4000000 in
theorem tX11_act (r : Nat) {fx : Fx} {al : Bool} {M N : Mem} {a0 : Nat} {a1 : Int32} {a2 : Int32} {a3 : Int32} {xr : Int32}  (h : fX11_act M a0 a1 a2 a3 = some (xr, N)) : Ct fx yX11_act cX11_act 5 (some .int) (r + 8) 0 0 al [.ref a0, .int a1, .int a2, .int a3] M (some (.int xr)) N := by
  refine ct_of (lv := [some (.ref a0), some (.int a1), some (.int a2), some (.int a3), none]) (by decide) (Nat.le_of_ble_eq_true rfl) rfl rfl (fun z hz => ?_)
  unfold fX11_act at h
  refine v_aload_n hz rfl rfl dX11_act_0 ?_
  obtain ⟨ck1, h⟩ := ck_inv h
  obtain ⟨ka1, kb1⟩ := isK_of ck1
  obtain ⟨b2, r2, h⟩ := rb_inv h
  refine v_getR hz fl_X11_49 rfl dX11_act_1 ka1 kb1 r2 ?_
  refine v_iconst hz (v := (0 : Int32)) (by decide) dX11_act_4 ?_
  obtain ⟨ck3, h⟩ := ck_inv h
  obtain ⟨ka3, kb3⟩ := isK_of ck3
  refine v_putI hz fl_X11_248 ft_1_2 (by decide) rfl rfl rfl dX11_act_5 ka3 kb3 ?_
  refine v_aload_n hz rfl rfl dX11_act_8 ?_
  refine v_iload_n hz rfl rfl dX11_act_9 ?_
  obtain ⟨x4, M4, e4, h⟩ := bd_inv h
  refine v_callV hz (As := [.int a1]) vl_X11_111 (tX11_isPerson (r + 7) e4) rfl (by decide) ka1 kb1 rfl rfl rfl (Nat.le_of_ble_eq_true rfl) ⟨by decide, by decide⟩ dX11_act_10 ?_
  show V z 13 [some (.ref a0), some (.int a1), some (.int a2), some (.int a3), none] [.int x4] M4 0 0
  refine v_if_ne (tgt := 18) hz dX11_act_13 (by decide) (fun hc => ?_) (fun hc => ?_)
  · replace h := (if_neg hc).symm.trans h
    refine v_aload_n hz rfl rfl dX11_act_18 ?_
    obtain ⟨ck5, h⟩ := ck_inv h
    obtain ⟨ka5, kb5⟩ := isK_of ck5
    obtain ⟨b6, r6, h⟩ := rb_inv h
    refine v_getR hz fl_X11_49 rfl dX11_act_19 ka5 kb5 r6 ?_
    refine v_iload_n hz rfl rfl dX11_act_22 ?_
    obtain ⟨ck7, h⟩ := ck_inv h
    obtain ⟨ka7, kb7⟩ := isK_of ck7
    refine v_putI hz fl_X11_251 ft_1_0 (by decide) rfl rfl rfl dX11_act_23 ka7 kb7 ?_
    refine v_aload_n hz rfl rfl dX11_act_26 ?_
    refine v_getR hz fl_X11_49 rfl dX11_act_27 ka5 kb5 r6 ?_
    refine v_aload_n hz rfl rfl dX11_act_30 ?_
    obtain ⟨b8, r8, h⟩ := rb_inv h
    refine v_getR hz fl_X11_90 rfl dX11_act_31 ka5 kb5 r8 ?_
    obtain ⟨ck9, h⟩ := ck_inv h
    obtain ⟨ka9, kb9⟩ := isK_of ck9
    obtain ⟨b10, r10, h⟩ := rb_inv h
    refine v_getR hz fl_X11_117 rfl dX11_act_34 ka9 kb9 r10 ?_
    refine v_iload_n hz rfl rfl dX11_act_37 ?_
    obtain ⟨ck11, h⟩ := ck_inv h
    obtain ⟨ka11, kb11⟩ := isK_of ck11
    obtain ⟨g12, h⟩ := ck_inv h
    refine v_iaload hz dX11_act_38 ka11 kb11 g12 ?_
    refine v_putI hz fl_X11_254 ft_1_1 (by decide) rfl rfl rfl dX11_act_39 ka7 kb7 ?_
    refine v_aload_n hz rfl rfl dX11_act_42 ?_
    refine v_getR hz fl_X11_90 rfl dX11_act_43 ka5 kb5 r8 ?_
    refine v_iload_n hz rfl rfl dX11_act_46 ?_
    obtain ⟨x13, M13, e13, h⟩ := bd_inv h
    refine v_callV hz (As := [.int a1]) vl_X11_131 (tX3_kindOf (r + 7) e13) rfl (by decide) ka9 kb9 rfl rfl rfl (Nat.le_of_ble_eq_true rfl) ⟨by decide, by decide⟩ dX11_act_47 ?_
    show V z 50 [some (.ref a0), some (.int a1), some (.int a2), some (.int a3), none] [.ref x13] M13 0 0
    refine v_astore hz (lw := [some (.ref a0), some (.int a1), some (.int a2), some (.int a3), some (.ref x13)]) (Nat.le_of_ble_eq_true rfl) rfl rfl dX11_act_50 ?_
    refine v_iload_n hz rfl rfl dX11_act_52 ?_
    by_cases hs14_0 : a2 = (0 : Int32)
    · replace h := (if_pos hs14_0).symm.trans h
      refine v_tableAt (tgt := 80) hz hs14_0 dX11_act_53 (by decide) (by decide) (by decide) (by decide) ?_
      refine v_aload hz rfl dX11_act_80 ?_
      refine v_aload_n hz rfl rfl dX11_act_82 ?_
      obtain ⟨ck15, h⟩ := ck_inv h
      obtain ⟨ka15, kb15⟩ := isK_of ck15
      obtain ⟨b16, r16, h⟩ := rb_inv h
      refine v_getR hz fl_X11_49 rfl dX11_act_83 ka15 kb15 r16 ?_
      refine v_iload_n hz rfl rfl dX11_act_86 ?_
      obtain ⟨x17, M17, e17, h⟩ := bd_inv h
      have kk17 : V z 90 [some (.ref a0), some (.int a1), some (.int a2), some (.int a3), some (.ref x13)] [.int x17] M17 0 0 := by
        obtain ⟨rfl, rfl⟩ := sp_inv h
        exact v_iret hz dX11_act_90 (by decide) (by decide)
      obtain ⟨gq17, e17⟩ := ck_inv e17
      replace gq17 := of_decide_eq_true gq17
      by_cases hq17 : mK M13 x13 = 0
      · replace e17 := (if_pos hq17).symm.trans e17
        exact v_callU hz (As := [.ref b16, .int a3]) ul_X11_256_X0 (tX6_bows (r + 5) e17) rfl (by decide) gq17 hq17 rfl rfl rfl (Nat.le_of_ble_eq_true rfl) ⟨by decide, by decide⟩ dX11_act_87 kk17
      replace e17 := (if_neg hq17).symm.trans e17
      by_cases hq17 : mK M13 x13 = 2
      · replace e17 := (if_pos hq17).symm.trans e17
        exact v_callU hz (As := [.ref b16, .int a3]) ul_X11_256_X2 (tX2_bows (r + 5) e17) rfl (by decide) gq17 hq17 rfl rfl rfl (Nat.le_of_ble_eq_true rfl) ⟨by decide, by decide⟩ dX11_act_87 kk17
      replace e17 := (if_neg hq17).symm.trans e17
      by_cases hq17 : mK M13 x13 = 4
      · replace e17 := (if_pos hq17).symm.trans e17
        exact v_callU hz (As := [.ref b16, .int a3]) ul_X11_256_X4 (tX10_bows (r + 6) e17) rfl (by decide) gq17 hq17 rfl rfl rfl (Nat.le_of_ble_eq_true rfl) ⟨by decide, by decide⟩ dX11_act_87 kk17
      replace e17 := (if_neg hq17).symm.trans e17
      by_cases hq17 : mK M13 x13 = 6
      · replace e17 := (if_pos hq17).symm.trans e17
        exact v_callU hz (As := [.ref b16, .int a3]) ul_X11_256_X6 (tX6_bows (r + 5) e17) rfl (by decide) gq17 hq17 rfl rfl rfl (Nat.le_of_ble_eq_true rfl) ⟨by decide, by decide⟩ dX11_act_87 kk17
      replace e17 := (if_neg hq17).symm.trans e17
      by_cases hq17 : mK M13 x13 = 8
      · replace e17 := (if_pos hq17).symm.trans e17
        exact v_callU hz (As := [.ref b16, .int a3]) ul_X11_256_X8 (tX8_bows (r + 5) e17) rfl (by decide) gq17 hq17 rfl rfl rfl (Nat.le_of_ble_eq_true rfl) ⟨by decide, by decide⟩ dX11_act_87 kk17
      replace e17 := (if_neg hq17).symm.trans e17
      by_cases hq17 : mK M13 x13 = 9
      · replace e17 := (if_pos hq17).symm.trans e17
        exact v_callU hz (As := [.ref b16, .int a3]) ul_X11_256_X9 (tX10_bows (r + 6) e17) rfl (by decide) gq17 hq17 rfl rfl rfl (Nat.le_of_ble_eq_true rfl) ⟨by decide, by decide⟩ dX11_act_87 kk17
      replace e17 := (if_neg hq17).symm.trans e17
      by_cases hq17 : mK M13 x13 = 10
      · replace e17 := (if_pos hq17).symm.trans e17
        exact v_callU hz (As := [.ref b16, .int a3]) ul_X11_256_X10 (tX10_bows (r + 6) e17) rfl (by decide) gq17 hq17 rfl rfl rfl (Nat.le_of_ble_eq_true rfl) ⟨by decide, by decide⟩ dX11_act_87 kk17
      replace e17 := (if_neg hq17).symm.trans e17
      cases e17
    replace h := (if_neg hs14_0).symm.trans h
    by_cases hs14_1 : a2 = (1 : Int32)
    · replace h := (if_pos hs14_1).symm.trans h
      refine v_tableAt (tgt := 91) hz hs14_1 dX11_act_53 (by decide) (by decide) (by decide) (by decide) ?_
      refine v_aload hz rfl dX11_act_91 ?_
      refine v_aload_n hz rfl rfl dX11_act_93 ?_
      obtain ⟨ck18, h⟩ := ck_inv h
      obtain ⟨ka18, kb18⟩ := isK_of ck18
      obtain ⟨b19, r19, h⟩ := rb_inv h
      refine v_getR hz fl_X11_49 rfl dX11_act_94 ka18 kb18 r19 ?_
      refine v_iload_n hz rfl rfl dX11_act_97 ?_
      obtain ⟨x20, M20, e20, h⟩ := bd_inv h
      have kk20 : V z 101 [some (.ref a0), some (.int a1), some (.int a2), some (.int a3), some (.ref x13)] [.int x20] M20 0 0 := by
        obtain ⟨rfl, rfl⟩ := sp_inv h
        exact v_iret hz dX11_act_101 (by decide) (by decide)
      obtain ⟨gq20, e20⟩ := ck_inv e20
      replace gq20 := of_decide_eq_true gq20
      by_cases hq20 : mK M13 x13 = 0
      · replace e20 := (if_pos hq20).symm.trans e20
        exact v_callU hz (As := [.ref b19, .int a3]) ul_X11_260_X0 (tX10_walks (r + 4) e20) rfl (by decide) gq20 hq20 rfl rfl rfl (Nat.le_of_ble_eq_true rfl) ⟨by decide, by decide⟩ dX11_act_98 kk20
      replace e20 := (if_neg hq20).symm.trans e20
      by_cases hq20 : mK M13 x13 = 2
      · replace e20 := (if_pos hq20).symm.trans e20
        exact v_callU hz (As := [.ref b19, .int a3]) ul_X11_260_X2 (tX2_walks (r + 2) e20) rfl (by decide) gq20 hq20 rfl rfl rfl (Nat.le_of_ble_eq_true rfl) ⟨by decide, by decide⟩ dX11_act_98 kk20
      replace e20 := (if_neg hq20).symm.trans e20
      by_cases hq20 : mK M13 x13 = 4
      · replace e20 := (if_pos hq20).symm.trans e20
        exact v_callU hz (As := [.ref b19, .int a3]) ul_X11_260_X4 (tX10_walks (r + 4) e20) rfl (by decide) gq20 hq20 rfl rfl rfl (Nat.le_of_ble_eq_true rfl) ⟨by decide, by decide⟩ dX11_act_98 kk20
      replace e20 := (if_neg hq20).symm.trans e20
      by_cases hq20 : mK M13 x13 = 6
      · replace e20 := (if_pos hq20).symm.trans e20
        exact v_callU hz (As := [.ref b19, .int a3]) ul_X11_260_X6 (tX10_walks (r + 4) e20) rfl (by decide) gq20 hq20 rfl rfl rfl (Nat.le_of_ble_eq_true rfl) ⟨by decide, by decide⟩ dX11_act_98 kk20
      replace e20 := (if_neg hq20).symm.trans e20
      by_cases hq20 : mK M13 x13 = 8
      · replace e20 := (if_pos hq20).symm.trans e20
        exact v_callU hz (As := [.ref b19, .int a3]) ul_X11_260_X8 (tX8_walks (r + 3) e20) rfl (by decide) gq20 hq20 rfl rfl rfl (Nat.le_of_ble_eq_true rfl) ⟨by decide, by decide⟩ dX11_act_98 kk20
      replace e20 := (if_neg hq20).symm.trans e20
      by_cases hq20 : mK M13 x13 = 9
      · replace e20 := (if_pos hq20).symm.trans e20
        exact v_callU hz (As := [.ref b19, .int a3]) ul_X11_260_X9 (tX9_walks (r + 3) e20) rfl (by decide) gq20 hq20 rfl rfl rfl (Nat.le_of_ble_eq_true rfl) ⟨by decide, by decide⟩ dX11_act_98 kk20
      replace e20 := (if_neg hq20).symm.trans e20
      by_cases hq20 : mK M13 x13 = 10
      · replace e20 := (if_pos hq20).symm.trans e20
        exact v_callU hz (As := [.ref b19, .int a3]) ul_X11_260_X10 (tX10_walks (r + 4) e20) rfl (by decide) gq20 hq20 rfl rfl rfl (Nat.le_of_ble_eq_true rfl) ⟨by decide, by decide⟩ dX11_act_98 kk20
      replace e20 := (if_neg hq20).symm.trans e20
      cases e20
    replace h := (if_neg hs14_1).symm.trans h
    by_cases hs14_2 : a2 = (2 : Int32)
    · replace h := (if_pos hs14_2).symm.trans h
      refine v_tableAt (tgt := 102) hz hs14_2 dX11_act_53 (by decide) (by decide) (by decide) (by decide) ?_
      refine v_aload hz rfl dX11_act_102 ?_
      refine v_aload_n hz rfl rfl dX11_act_104 ?_
      obtain ⟨ck21, h⟩ := ck_inv h
      obtain ⟨ka21, kb21⟩ := isK_of ck21
      obtain ⟨b22, r22, h⟩ := rb_inv h
      refine v_getR hz fl_X11_49 rfl dX11_act_105 ka21 kb21 r22 ?_
      refine v_iload_n hz rfl rfl dX11_act_108 ?_
      obtain ⟨x23, M23, e23, h⟩ := bd_inv h
      have kk23 : V z 112 [some (.ref a0), some (.int a1), some (.int a2), some (.int a3), some (.ref x13)] [.int x23] M23 0 0 := by
        obtain ⟨rfl, rfl⟩ := sp_inv h
        exact v_iret hz dX11_act_112 (by decide) (by decide)
      obtain ⟨gq23, e23⟩ := ck_inv e23
      replace gq23 := of_decide_eq_true gq23
      by_cases hq23 : mK M13 x13 = 0
      · replace e23 := (if_pos hq23).symm.trans e23
        exact v_callU hz (As := [.ref b22, .int a3]) ul_X11_263_X0 (tX0_tells (r + 0) e23) rfl (by decide) gq23 hq23 rfl rfl rfl (Nat.le_of_ble_eq_true rfl) ⟨by decide, by decide⟩ dX11_act_109 kk23
      replace e23 := (if_neg hq23).symm.trans e23
      by_cases hq23 : mK M13 x13 = 2
      · replace e23 := (if_pos hq23).symm.trans e23
        exact v_callU hz (As := [.ref b22, .int a3]) ul_X11_263_X2 (tX10_tells (r + 1) e23) rfl (by decide) gq23 hq23 rfl rfl rfl (Nat.le_of_ble_eq_true rfl) ⟨by decide, by decide⟩ dX11_act_109 kk23
      replace e23 := (if_neg hq23).symm.trans e23
      by_cases hq23 : mK M13 x13 = 4
      · replace e23 := (if_pos hq23).symm.trans e23
        exact v_callU hz (As := [.ref b22, .int a3]) ul_X11_263_X4 (tX4_tells (r + 0) e23) rfl (by decide) gq23 hq23 rfl rfl rfl (Nat.le_of_ble_eq_true rfl) ⟨by decide, by decide⟩ dX11_act_109 kk23
      replace e23 := (if_neg hq23).symm.trans e23
      by_cases hq23 : mK M13 x13 = 6
      · replace e23 := (if_pos hq23).symm.trans e23
        exact v_callU hz (As := [.ref b22, .int a3]) ul_X11_263_X6 (tX10_tells (r + 1) e23) rfl (by decide) gq23 hq23 rfl rfl rfl (Nat.le_of_ble_eq_true rfl) ⟨by decide, by decide⟩ dX11_act_109 kk23
      replace e23 := (if_neg hq23).symm.trans e23
      by_cases hq23 : mK M13 x13 = 8
      · replace e23 := (if_pos hq23).symm.trans e23
        exact v_callU hz (As := [.ref b22, .int a3]) ul_X11_263_X8 (tX4_tells (r + 0) e23) rfl (by decide) gq23 hq23 rfl rfl rfl (Nat.le_of_ble_eq_true rfl) ⟨by decide, by decide⟩ dX11_act_109 kk23
      replace e23 := (if_neg hq23).symm.trans e23
      by_cases hq23 : mK M13 x13 = 9
      · replace e23 := (if_pos hq23).symm.trans e23
        exact v_callU hz (As := [.ref b22, .int a3]) ul_X11_263_X9 (tX10_tells (r + 1) e23) rfl (by decide) gq23 hq23 rfl rfl rfl (Nat.le_of_ble_eq_true rfl) ⟨by decide, by decide⟩ dX11_act_109 kk23
      replace e23 := (if_neg hq23).symm.trans e23
      by_cases hq23 : mK M13 x13 = 10
      · replace e23 := (if_pos hq23).symm.trans e23
        exact v_callU hz (As := [.ref b22, .int a3]) ul_X11_263_X10 (tX10_tells (r + 1) e23) rfl (by decide) gq23 hq23 rfl rfl rfl (Nat.le_of_ble_eq_true rfl) ⟨by decide, by decide⟩ dX11_act_109 kk23
      replace e23 := (if_neg hq23).symm.trans e23
      cases e23
    replace h := (if_neg hs14_2).symm.trans h
    refine v_tableOut (tgt := 113) hz dX11_act_53 (by have q0 := lv_neT hs14_0 (show ((0 : Int32)).toInt = 0 by decide); have q1 := lv_neT hs14_1 (show ((1 : Int32)).toInt = 1 by decide); have q2 := lv_neT hs14_2 (show ((2 : Int32)).toInt = 2 by decide); omega) (by decide) ?_
    refine v_iconst hz (v := (0 : Int32)) (by decide) dX11_act_113 ?_
    obtain ⟨rfl, rfl⟩ := sp_inv h
    exact v_iret hz dX11_act_114 (by decide) (by decide)
  · replace h := (if_pos hc).symm.trans h
    refine v_iconst hz (v := (0 : Int32)) (by decide) dX11_act_16 ?_
    obtain ⟨rfl, rfl⟩ := sp_inv h
    exact v_iret hz dX11_act_17 (by decide) (by decide)
noncomputable def fX11_trace (M : Mem) (a0 : Nat) (a1 : Int32) : Option (Int32 × Mem) :=
  if a1 < 0 then (some ((-1 : Int32), M)) else (ck (isK M a0 11) <| rb (mR M a0 14) fun b2 => ck (isK M b2 1) <| if (mI M b2 2) ≤ a1 then (some ((-1 : Int32), M)) else (if a1 < (20 : Int32) then (rb (mR M b2 3) fun b4 => ck (isK M b4 14) <| ck (inb a1 (mG M b4)) <| some ((mI M b4 a1.toNatClampNeg), M)) else (some ((-1 : Int32), M))))
set_option maxRecDepth 100000 in
set_option maxHeartbeats 4000000 in
theorem tX11_trace (r : Nat) {fx : Fx} {al : Bool} {M N : Mem} {a0 : Nat} {a1 : Int32} {xr : Int32}  (h : fX11_trace M a0 a1 = some (xr, N)) : Ct fx yX11_trace cX11_trace 2 (some .int) (r + 0) 0 0 al [.ref a0, .int a1] M (some (.int xr)) N := by
  refine ct_of (lv := [some (.ref a0), some (.int a1)]) (by decide) (Nat.le_of_ble_eq_true rfl) rfl rfl (fun z hz => ?_)
  unfold fX11_trace at h
  refine v_iload_n hz rfl rfl dX11_trace_0 ?_
  refine v_if_lt (tgt := 21) hz dX11_trace_1 (by decide) (fun hc => ?_) (fun hc => ?_)
  · replace h := (if_pos hc).symm.trans h
    refine v_iconst hz (v := (-1 : Int32)) (by decide) dX11_trace_21 ?_
    obtain ⟨rfl, rfl⟩ := sp_inv h
    exact v_iret hz dX11_trace_22 (by decide) (by decide)
  · replace h := (if_neg hc).symm.trans h
    refine v_iload_n hz rfl rfl dX11_trace_4 ?_
    refine v_aload_n hz rfl rfl dX11_trace_5 ?_
    obtain ⟨ck1, h⟩ := ck_inv h
    obtain ⟨ka1, kb1⟩ := isK_of ck1
    obtain ⟨b2, r2, h⟩ := rb_inv h
    refine v_getR hz fl_X11_49 rfl dX11_trace_6 ka1 kb1 r2 ?_
    obtain ⟨ck3, h⟩ := ck_inv h
    obtain ⟨ka3, kb3⟩ := isK_of ck3
    refine v_getI hz fl_X11_248 rfl dX11_trace_9 ka3 kb3 ?_
    refine v_icmp_ge (tgt := 21) hz dX11_trace_12 (by decide) (fun hc => ?_) (fun hc => ?_)
    · replace h := (if_pos hc).symm.trans h
      refine v_iconst hz (v := (-1 : Int32)) (by decide) dX11_trace_21 ?_
      obtain ⟨rfl, rfl⟩ := sp_inv h
      exact v_iret hz dX11_trace_22 (by decide) (by decide)
    · replace h := (if_neg hc).symm.trans h
      refine v_iload_n hz rfl rfl dX11_trace_15 ?_
      refine v_bipush hz (v := (20 : Int32)) (by decide) dX11_trace_16 ?_
      refine v_icmp_lt (tgt := 23) hz dX11_trace_18 (by decide) (fun hc => ?_) (fun hc => ?_)
      · replace h := (if_pos hc).symm.trans h
        refine v_aload_n hz rfl rfl dX11_trace_23 ?_
        refine v_getR hz fl_X11_49 rfl dX11_trace_24 ka1 kb1 r2 ?_
        obtain ⟨b4, r4, h⟩ := rb_inv h
        refine v_getR hz fl_X11_266 rfl dX11_trace_27 ka3 kb3 r4 ?_
        refine v_iload_n hz rfl rfl dX11_trace_30 ?_
        obtain ⟨ck5, h⟩ := ck_inv h
        obtain ⟨ka5, kb5⟩ := isK_of ck5
        obtain ⟨g6, h⟩ := ck_inv h
        refine v_iaload hz dX11_trace_31 ka5 kb5 g6 ?_
        obtain ⟨rfl, rfl⟩ := sp_inv h
        exact v_iret hz dX11_trace_32 (by decide) (by decide)
      · replace h := (if_neg hc).symm.trans h
        refine v_iconst hz (v := (-1 : Int32)) (by decide) dX11_trace_21 ?_
        obtain ⟨rfl, rfl⟩ := sp_inv h
        exact v_iret hz dX11_trace_22 (by decide) (by decide)
noncomputable def gX11_taken_40  : Nat → Mem → Int32 → Int32 → Int32 → Int32 → Option (Int32 × Mem)
  | 0, _, _, _, _, _ => none
  | n + 1, M, l2, l3, l4, l5 => if (7 : Int32) ≤ l5 then (some ((-12 : Int32), M)) else (if l4 < 0 then (some ((-12 : Int32), M)) else (if l4 = l2 then (some (l3, M)) else (ck (inb l4 7) <| (gX11_taken_40 n) M l2 l3 (xAbove.getD l4.toNatClampNeg 0) (l5 + (1 : Int32)))))
noncomputable def fX11_taken (M : Mem) (a0 : Nat) (a1 : Int32) (a2 : Int32) : Option (Int32 × Mem) :=
  if a2 < 0 then (some ((-2 : Int32), M)) else (if a2 < (7 : Int32) then (ck (isK M a0 11) <| bd (fX11_isPerson M a0 a1) fun x2 M2 => if x2 = 0 then (some ((-11 : Int32), M2)) else (ck (isK M2 a0 11) <| rb (mR M2 a0 0) fun b4 => ck (isK M2 b4 3) <| rb (mR M2 b4 5) fun b6 => ck (isK M2 b6 14) <| ck (inb a1 (mG M2 b6)) <| gX11_taken_40 FU M2 a2 (mI M2 b6 a1.toNatClampNeg) (mI M2 b6 a1.toNatClampNeg) (0 : Int32))) else (some ((-2 : Int32), M)))
set_option maxRecDepth 100000 in
set_option maxHeartbeats 4000000 in
theorem gX11_taken_40_s  (n : Nat) (M : Mem) (l2 : Int32) (l3 : Int32) (l4 : Int32) (l5 : Int32) : gX11_taken_40  (n + 1) M l2 l3 l4 l5 = (if (7 : Int32) ≤ l5 then (some ((-12 : Int32), M)) else (if l4 < 0 then (some ((-12 : Int32), M)) else (if l4 = l2 then (some (l3, M)) else (ck (inb l4 7) <| (gX11_taken_40 n) M l2 l3 (xAbove.getD l4.toNatClampNeg 0) (l5 + (1 : Int32)))))) := rfl
set_option maxRecDepth 100000 in
set_option maxHeartbeats 4000000 in
theorem wX11_taken_40 {z : Zx} {fx : Fx} {al : Bool} {r : Nat} {N : Mem} {xr : Int32} (hz : Zok z fx al yX11_taken.cls yX11_taken.name cX11_taken (some .int) 6 (r + 1) 0 0 (some (.int xr)) N)    : ∀ {n : Nat} {M : Mem} {l2 : Int32} {l3 : Int32} {l4 : Int32} {l5 : Int32}, gX11_taken_40  n M l2 l3 l4 l5 = some (xr, N) → V z 40 [none, none, some (.int l2), some (.int l3), some (.int l4), some (.int l5)] [] M 0 0 := by
  intro n
  induction n with
  | zero => intro M l2 l3 l4 l5 h; cases h
  | succ n ih =>
    intro M l2 l3 l4 l5 h
    replace h := (gX11_taken_40_s  n M l2 l3 l4 l5).symm.trans h
    refine v_iload hz rfl dX11_taken_40 ?_
    refine v_bipush hz (v := (7 : Int32)) (by decide) dX11_taken_42 ?_
    refine v_icmp_ge (tgt := 74) hz dX11_taken_44 (by decide) (fun hc => ?_) (fun hc => ?_)
    · replace h := (if_pos hc).symm.trans h
      refine v_bipush hz (v := (-12 : Int32)) (by decide) dX11_taken_74 ?_
      obtain ⟨rfl, rfl⟩ := sp_inv h
      exact v_iret hz dX11_taken_76 (by decide) (by decide)
    · replace h := (if_neg hc).symm.trans h
      refine v_iload hz rfl dX11_taken_47 ?_
      refine v_if_lt (tgt := 74) hz dX11_taken_49 (by decide) (fun hc => ?_) (fun hc => ?_)
      · replace h := (if_pos hc).symm.trans h
        refine v_bipush hz (v := (-12 : Int32)) (by decide) dX11_taken_74 ?_
        obtain ⟨rfl, rfl⟩ := sp_inv h
        exact v_iret hz dX11_taken_76 (by decide) (by decide)
      · replace h := (if_neg hc).symm.trans h
        refine v_iload hz rfl dX11_taken_52 ?_
        refine v_iload_n hz rfl rfl dX11_taken_54 ?_
        refine v_icmp_ne (tgt := 60) hz dX11_taken_55 (by decide) (fun hc => ?_) (fun hc => ?_)
        · replace h := (if_neg hc).symm.trans h
          refine v_getKA hz wq_855 dX11_taken_60 ?_
          refine v_iload hz rfl dX11_taken_63 ?_
          obtain ⟨g9, h⟩ := ck_inv h
          refine v_kaload hz dX11_taken_65 g9 ?_
          refine v_istore hz (lw := [none, none, some (.int l2), some (.int l3), some (.int (xAbove.getD l4.toNatClampNeg 0)), some (.int l5)]) (Nat.le_of_ble_eq_true rfl) rfl rfl dX11_taken_66 ?_
          refine v_iinc hz (v := (l5 + (1 : Int32))) (lw := [none, none, some (.int l2), some (.int l3), some (.int (xAbove.getD l4.toNatClampNeg 0)), some (.int (l5 + (1 : Int32)))]) rfl (congrArg (fun q => l5 + q) (show Int32.ofInt (1) = (1 : Int32) by decide)) rfl rfl dX11_taken_68 ?_
          refine v_goto (tgt := 40) hz dX11_taken_71 (by decide) ?_
          exact v_weak (lvle_n (lvle_n (lvle_s (lvle_s (lvle_s (lvle_s lvle_0)))))) (ih h)
        · replace h := (if_pos hc).symm.trans h
          refine v_iload_n hz rfl rfl dX11_taken_58 ?_
          obtain ⟨rfl, rfl⟩ := sp_inv h
          exact v_iret hz dX11_taken_59 (by decide) (by decide)
set_option maxRecDepth 100000 in
set_option maxHeartbeats 4000000 in
theorem tX11_taken (r : Nat) {fx : Fx} {al : Bool} {M N : Mem} {a0 : Nat} {a1 : Int32} {a2 : Int32} {xr : Int32}  (h : fX11_taken M a0 a1 a2 = some (xr, N)) : Ct fx yX11_taken cX11_taken 6 (some .int) (r + 1) 0 0 al [.ref a0, .int a1, .int a2] M (some (.int xr)) N := by
  refine ct_of (lv := [some (.ref a0), some (.int a1), some (.int a2), none, none, none]) (by decide) (Nat.le_of_ble_eq_true rfl) rfl rfl (fun z hz => ?_)
  unfold fX11_taken at h
  refine v_iload_n hz rfl rfl dX11_taken_0 ?_
  refine v_if_lt (tgt := 10) hz dX11_taken_1 (by decide) (fun hc => ?_) (fun hc => ?_)
  · replace h := (if_pos hc).symm.trans h
    refine v_bipush hz (v := (-2 : Int32)) (by decide) dX11_taken_10 ?_
    obtain ⟨rfl, rfl⟩ := sp_inv h
    exact v_iret hz dX11_taken_12 (by decide) (by decide)
  · replace h := (if_neg hc).symm.trans h
    refine v_iload_n hz rfl rfl dX11_taken_4 ?_
    refine v_bipush hz (v := (7 : Int32)) (by decide) dX11_taken_5 ?_
    refine v_icmp_lt (tgt := 13) hz dX11_taken_7 (by decide) (fun hc => ?_) (fun hc => ?_)
    · replace h := (if_pos hc).symm.trans h
      refine v_aload_n hz rfl rfl dX11_taken_13 ?_
      refine v_iload_n hz rfl rfl dX11_taken_14 ?_
      obtain ⟨ck1, h⟩ := ck_inv h
      obtain ⟨ka1, kb1⟩ := isK_of ck1
      obtain ⟨x2, M2, e2, h⟩ := bd_inv h
      refine v_callV hz (As := [.int a1]) vl_X11_111 (tX11_isPerson (r + 0) e2) rfl (by decide) ka1 kb1 rfl rfl rfl (Nat.le_of_ble_eq_true rfl) ⟨by decide, by decide⟩ dX11_taken_15 ?_
      show V z 18 [some (.ref a0), some (.int a1), some (.int a2), none, none, none] [.int x2] M2 0 0
      refine v_if_ne (tgt := 24) hz dX11_taken_18 (by decide) (fun hc => ?_) (fun hc => ?_)
      · replace h := (if_neg hc).symm.trans h
        refine v_aload_n hz rfl rfl dX11_taken_24 ?_
        obtain ⟨ck3, h⟩ := ck_inv h
        obtain ⟨ka3, kb3⟩ := isK_of ck3
        obtain ⟨b4, r4, h⟩ := rb_inv h
        refine v_getR hz fl_X11_90 rfl dX11_taken_25 ka3 kb3 r4 ?_
        obtain ⟨ck5, h⟩ := ck_inv h
        obtain ⟨ka5, kb5⟩ := isK_of ck5
        obtain ⟨b6, r6, h⟩ := rb_inv h
        refine v_getR hz fl_X11_114 rfl dX11_taken_28 ka5 kb5 r6 ?_
        refine v_iload_n hz rfl rfl dX11_taken_31 ?_
        obtain ⟨ck7, h⟩ := ck_inv h
        obtain ⟨ka7, kb7⟩ := isK_of ck7
        obtain ⟨g8, h⟩ := ck_inv h
        refine v_iaload hz dX11_taken_32 ka7 kb7 g8 ?_
        refine v_istore_n hz (lw := [some (.ref a0), some (.int a1), some (.int a2), some (.int (mI M2 b6 a1.toNatClampNeg)), none, none]) rfl (Nat.le_of_ble_eq_true rfl) rfl rfl dX11_taken_33 ?_
        refine v_iload_n hz rfl rfl dX11_taken_34 ?_
        refine v_istore hz (lw := [some (.ref a0), some (.int a1), some (.int a2), some (.int (mI M2 b6 a1.toNatClampNeg)), some (.int (mI M2 b6 a1.toNatClampNeg)), none]) (Nat.le_of_ble_eq_true rfl) rfl rfl dX11_taken_35 ?_
        refine v_iconst hz (v := (0 : Int32)) (by decide) dX11_taken_37 ?_
        refine v_istore hz (lw := [some (.ref a0), some (.int a1), some (.int a2), some (.int (mI M2 b6 a1.toNatClampNeg)), some (.int (mI M2 b6 a1.toNatClampNeg)), some (.int (0 : Int32))]) (Nat.le_of_ble_eq_true rfl) rfl rfl dX11_taken_38 ?_
        exact v_weak (lvle_n (lvle_n (lvle_s (lvle_s (lvle_s (lvle_s lvle_0)))))) (wX11_taken_40 hz   h)
      · replace h := (if_pos hc).symm.trans h
        refine v_bipush hz (v := (-11 : Int32)) (by decide) dX11_taken_21 ?_
        obtain ⟨rfl, rfl⟩ := sp_inv h
        exact v_iret hz dX11_taken_23 (by decide) (by decide)
    · replace h := (if_neg hc).symm.trans h
      refine v_bipush hz (v := (-2 : Int32)) (by decide) dX11_taken_10 ?_
      obtain ⟨rfl, rfl⟩ := sp_inv h
      exact v_iret hz dX11_taken_12 (by decide) (by decide)
noncomputable def fX11_count (M : Mem) (a0 : Nat) (a1 : Int32) : Option (Int32 × Mem) :=
  if a1 = (0 : Int32) then (ck (isK M a0 11) <| rb (mR M a0 0) fun b3 => ck (isK M b3 3) <| some ((mI M b3 4), M)) else if a1 = (1 : Int32) then (ck (isK M a0 11) <| some ((mI M a0 13), M)) else if a1 = (2 : Int32) then (ck (isK M a0 11) <| rb (mR M a0 2) fun b7 => ck (isK M b7 5) <| some ((mI M b7 2), M)) else if a1 = (3 : Int32) then (ck (isK M a0 11) <| rb (mR M a0 3) fun b10 => ck (isK M b10 5) <| some ((mI M b10 2), M)) else if a1 = (4 : Int32) then (ck (isK M a0 11) <| rb (mR M a0 4) fun b13 => ck (isK M b13 5) <| some ((mI M b13 2), M)) else if a1 = (5 : Int32) then (ck (isK M a0 11) <| some ((mI M a0 11), M)) else if a1 = (6 : Int32) then (ck (isK M a0 11) <| rb (mR M a0 14) fun b17 => ck (isK M b17 1) <| some ((mI M b17 2), M)) else (some ((-2 : Int32), M))
set_option maxRecDepth 100000 in
set_option maxHeartbeats 4000000 in
theorem tX11_count (r : Nat) {fx : Fx} {al : Bool} {M N : Mem} {a0 : Nat} {a1 : Int32} {xr : Int32}  (h : fX11_count M a0 a1 = some (xr, N)) : Ct fx yX11_count cX11_count 2 (some .int) (r + 0) 0 0 al [.ref a0, .int a1] M (some (.int xr)) N := by
  refine ct_of (lv := [some (.ref a0), some (.int a1)]) (by decide) (Nat.le_of_ble_eq_true rfl) rfl rfl (fun z hz => ?_)
  unfold fX11_count at h
  refine v_iload_n hz rfl rfl dX11_count_0 ?_
  by_cases hs1_0 : a1 = (0 : Int32)
  · replace h := (if_pos hs1_0).symm.trans h
    refine v_tableAt (tgt := 44) hz hs1_0 dX11_count_1 (by decide) (by decide) (by decide) (by decide) ?_
    refine v_aload_n hz rfl rfl dX11_count_44 ?_
    obtain ⟨ck2, h⟩ := ck_inv h
    obtain ⟨ka2, kb2⟩ := isK_of ck2
    obtain ⟨b3, r3, h⟩ := rb_inv h
    refine v_getR hz fl_X11_90 rfl dX11_count_45 ka2 kb2 r3 ?_
    obtain ⟨ck4, h⟩ := ck_inv h
    obtain ⟨ka4, kb4⟩ := isK_of ck4
    refine v_getI hz fl_X11_245 rfl dX11_count_48 ka4 kb4 ?_
    obtain ⟨rfl, rfl⟩ := sp_inv h
    exact v_iret hz dX11_count_51 (by decide) (by decide)
  replace h := (if_neg hs1_0).symm.trans h
  by_cases hs1_1 : a1 = (1 : Int32)
  · replace h := (if_pos hs1_1).symm.trans h
    refine v_tableAt (tgt := 52) hz hs1_1 dX11_count_1 (by decide) (by decide) (by decide) (by decide) ?_
    refine v_aload_n hz rfl rfl dX11_count_52 ?_
    obtain ⟨ck5, h⟩ := ck_inv h
    obtain ⟨ka5, kb5⟩ := isK_of ck5
    refine v_getI hz fl_X11_153 rfl dX11_count_53 ka5 kb5 ?_
    obtain ⟨rfl, rfl⟩ := sp_inv h
    exact v_iret hz dX11_count_56 (by decide) (by decide)
  replace h := (if_neg hs1_1).symm.trans h
  by_cases hs1_2 : a1 = (2 : Int32)
  · replace h := (if_pos hs1_2).symm.trans h
    refine v_tableAt (tgt := 57) hz hs1_2 dX11_count_1 (by decide) (by decide) (by decide) (by decide) ?_
    refine v_aload_n hz rfl rfl dX11_count_57 ?_
    obtain ⟨ck6, h⟩ := ck_inv h
    obtain ⟨ka6, kb6⟩ := isK_of ck6
    obtain ⟨b7, r7, h⟩ := rb_inv h
    refine v_getR hz fl_X11_16 rfl dX11_count_58 ka6 kb6 r7 ?_
    obtain ⟨ck8, h⟩ := ck_inv h
    obtain ⟨ka8, kb8⟩ := isK_of ck8
    refine v_getI hz fl_X11_226 rfl dX11_count_61 ka8 kb8 ?_
    obtain ⟨rfl, rfl⟩ := sp_inv h
    exact v_iret hz dX11_count_64 (by decide) (by decide)
  replace h := (if_neg hs1_2).symm.trans h
  by_cases hs1_3 : a1 = (3 : Int32)
  · replace h := (if_pos hs1_3).symm.trans h
    refine v_tableAt (tgt := 65) hz hs1_3 dX11_count_1 (by decide) (by decide) (by decide) (by decide) ?_
    refine v_aload_n hz rfl rfl dX11_count_65 ?_
    obtain ⟨ck9, h⟩ := ck_inv h
    obtain ⟨ka9, kb9⟩ := isK_of ck9
    obtain ⟨b10, r10, h⟩ := rb_inv h
    refine v_getR hz fl_X11_20 rfl dX11_count_66 ka9 kb9 r10 ?_
    obtain ⟨ck11, h⟩ := ck_inv h
    obtain ⟨ka11, kb11⟩ := isK_of ck11
    refine v_getI hz fl_X11_226 rfl dX11_count_69 ka11 kb11 ?_
    obtain ⟨rfl, rfl⟩ := sp_inv h
    exact v_iret hz dX11_count_72 (by decide) (by decide)
  replace h := (if_neg hs1_3).symm.trans h
  by_cases hs1_4 : a1 = (4 : Int32)
  · replace h := (if_pos hs1_4).symm.trans h
    refine v_tableAt (tgt := 73) hz hs1_4 dX11_count_1 (by decide) (by decide) (by decide) (by decide) ?_
    refine v_aload_n hz rfl rfl dX11_count_73 ?_
    obtain ⟨ck12, h⟩ := ck_inv h
    obtain ⟨ka12, kb12⟩ := isK_of ck12
    obtain ⟨b13, r13, h⟩ := rb_inv h
    refine v_getR hz fl_X11_23 rfl dX11_count_74 ka12 kb12 r13 ?_
    obtain ⟨ck14, h⟩ := ck_inv h
    obtain ⟨ka14, kb14⟩ := isK_of ck14
    refine v_getI hz fl_X11_226 rfl dX11_count_77 ka14 kb14 ?_
    obtain ⟨rfl, rfl⟩ := sp_inv h
    exact v_iret hz dX11_count_80 (by decide) (by decide)
  replace h := (if_neg hs1_4).symm.trans h
  by_cases hs1_5 : a1 = (5 : Int32)
  · replace h := (if_pos hs1_5).symm.trans h
    refine v_tableAt (tgt := 81) hz hs1_5 dX11_count_1 (by decide) (by decide) (by decide) (by decide) ?_
    refine v_aload_n hz rfl rfl dX11_count_81 ?_
    obtain ⟨ck15, h⟩ := ck_inv h
    obtain ⟨ka15, kb15⟩ := isK_of ck15
    refine v_getI hz fl_X11_149 rfl dX11_count_82 ka15 kb15 ?_
    obtain ⟨rfl, rfl⟩ := sp_inv h
    exact v_iret hz dX11_count_85 (by decide) (by decide)
  replace h := (if_neg hs1_5).symm.trans h
  by_cases hs1_6 : a1 = (6 : Int32)
  · replace h := (if_pos hs1_6).symm.trans h
    refine v_tableAt (tgt := 86) hz hs1_6 dX11_count_1 (by decide) (by decide) (by decide) (by decide) ?_
    refine v_aload_n hz rfl rfl dX11_count_86 ?_
    obtain ⟨ck16, h⟩ := ck_inv h
    obtain ⟨ka16, kb16⟩ := isK_of ck16
    obtain ⟨b17, r17, h⟩ := rb_inv h
    refine v_getR hz fl_X11_49 rfl dX11_count_87 ka16 kb16 r17 ?_
    obtain ⟨ck18, h⟩ := ck_inv h
    obtain ⟨ka18, kb18⟩ := isK_of ck18
    refine v_getI hz fl_X11_248 rfl dX11_count_90 ka18 kb18 ?_
    obtain ⟨rfl, rfl⟩ := sp_inv h
    exact v_iret hz dX11_count_93 (by decide) (by decide)
  replace h := (if_neg hs1_6).symm.trans h
  refine v_tableOut (tgt := 94) hz dX11_count_1 (by have q0 := lv_neT hs1_0 (show ((0 : Int32)).toInt = 0 by decide); have q1 := lv_neT hs1_1 (show ((1 : Int32)).toInt = 1 by decide); have q2 := lv_neT hs1_2 (show ((2 : Int32)).toInt = 2 by decide); have q3 := lv_neT hs1_3 (show ((3 : Int32)).toInt = 3 by decide); have q4 := lv_neT hs1_4 (show ((4 : Int32)).toInt = 4 by decide); have q5 := lv_neT hs1_5 (show ((5 : Int32)).toInt = 5 by decide); have q6 := lv_neT hs1_6 (show ((6 : Int32)).toInt = 6 by decide); omega) (by decide) ?_
  refine v_bipush hz (v := (-2 : Int32)) (by decide) dX11_count_94 ?_
  obtain ⟨rfl, rfl⟩ := sp_inv h
  exact v_iret hz dX11_count_96 (by decide) (by decide)
