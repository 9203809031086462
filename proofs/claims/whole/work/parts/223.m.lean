noncomputable def gX12_judge_35  : Nat → Mem → Nat → Int32 → Int32 → Int32 → Option (Int32 × Mem)
  | 0, _, _, _, _, _ => none
  | n + 1, M, l0, l1, l2, l3 => if (25 : Int32) ≤ l3 then (some ((-5 : Int32), M)) else (ck (isK M l0 12) <| rb (mR M l0 41) fun b7 => ck (isK M b7 14) <| ck (inb l1 (mG M b7)) <| if (mI M b7 l1.toNatClampNeg) = (-1 : Int32) then (some (((100 : Int32) + l3), M)) else (if l2 < 0 then (some (((100 : Int32) + l3), M)) else (rb (mR M l0 42) fun b10 => ck (isK M b10 14) <| ck (inb l1 (mG M b10)) <| if (lg_cmp (l2.toInt64 + l3.toInt64) ((mI M b10 l1.toNatClampNeg).toInt64)) < 0 then (rb (mR M l0 43) fun b13 => ck (isK M b13 15) <| ck (inb ((((60 : Int32) * l1) + l2) + l3) (mG M b13)) <| rb (mR M l0 0) fun b16 => ck (isK M b16 14) <| ck (inb l3 (mG M b16)) <| if (lg_cmp (mL M b13 ((((60 : Int32) * l1) + l2) + l3).toNatClampNeg) ((mI M b16 l3.toNatClampNeg).toInt64)) = 0 then ((gX12_judge_35 n) M l0 l1 l2 (l3 + (1 : Int32))) else (some (l3, M))) else (some (((100 : Int32) + l3), M)))))
noncomputable def gX12_judge_33  (M : Mem) (l0 : Nat) (l1 : Int32) (l2 : Int32) : Option (Int32 × Mem) :=
  gX12_judge_35 FU M l0 l1 l2 (0 : Int32)
noncomputable def fX12_judge (M : Mem) (a0 : Nat) (a1 : Int32) (a2 : Int32) : Option (Int32 × Mem) :=
  bd (fX12_within M a1 (0 : Int32) (5 : Int32)) fun x1 M1 => if x1 = 0 then (some ((-1 : Int32), M1)) else (ck (isK M1 a0 12) <| rb (mR M1 a0 41) fun b3 => ck (isK M1 b3 14) <| ck (inb a1 (mG M1 b3)) <| if (mI M1 b3 a1.toNatClampNeg) = (-1 : Int32) then (gX12_judge_33 M1 a0 a1 a2) else (ck (inb a1 (mG M1 b3)) <| if (mI M1 b3 a1.toNatClampNeg) = 0 then (gX12_judge_33 M1 a0 a1 a2) else (some ((-12 : Int32), M1))))
set_option maxRecDepth 100000 in
set_option maxHeartbeats 4000000 in
theorem gX12_judge_35_s  (n : Nat) (M : Mem) (l0 : Nat) (l1 : Int32) (l2 : Int32) (l3 : Int32) : gX12_judge_35  (n + 1) M l0 l1 l2 l3 = (if (25 : Int32) ≤ l3 then (some ((-5 : Int32), M)) else (ck (isK M l0 12) <| rb (mR M l0 41) fun b7 => ck (isK M b7 14) <| ck (inb l1 (mG M b7)) <| if (mI M b7 l1.toNatClampNeg) = (-1 : Int32) then (some (((100 : Int32) + l3), M)) else (if l2 < 0 then (some (((100 : Int32) + l3), M)) else (rb (mR M l0 42) fun b10 => ck (isK M b10 14) <| ck (inb l1 (mG M b10)) <| if (lg_cmp (l2.toInt64 + l3.toInt64) ((mI M b10 l1.toNatClampNeg).toInt64)) < 0 then (rb (mR M l0 43) fun b13 => ck (isK M b13 15) <| ck (inb ((((60 : Int32) * l1) + l2) + l3) (mG M b13)) <| rb (mR M l0 0) fun b16 => ck (isK M b16 14) <| ck (inb l3 (mG M b16)) <| if (lg_cmp (mL M b13 ((((60 : Int32) * l1) + l2) + l3).toNatClampNeg) ((mI M b16 l3.toNatClampNeg).toInt64)) = 0 then ((gX12_judge_35 n) M l0 l1 l2 (l3 + (1 : Int32))) else (some (l3, M))) else (some (((100 : Int32) + l3), M)))))) := rfl
set_option maxRecDepth 100000 in
set_option maxHeartbeats 4000000 in
theorem wX12_judge_35 {z : Zx} {fx : Fx} {al : Bool} {r : Nat} {N : Mem} {xr : Int32} (hz : Zok z fx al yX12_judge.cls yX12_judge.name cX12_judge (some .int) 4 (r + 1) 0 0 (some (.int xr)) N)    : ∀ {n : Nat} {M : Mem} {l0 : Nat} {l1 : Int32} {l2 : Int32} {l3 : Int32}, gX12_judge_35  n M l0 l1 l2 l3 = some (xr, N) → V z 35 [some (.ref l0), some (.int l1), some (.int l2), some (.int l3)] [] M 0 0 := by
  intro n
  induction n with
  | zero => intro M l0 l1 l2 l3 h; cases h
  | succ n ih =>
    intro M l0 l1 l2 l3 h
    replace h := (gX12_judge_35_s  n M l0 l1 l2 l3).symm.trans h
    refine v_iload_n hz rfl rfl dX12_judge_35 ?_
    refine v_bipush hz (v := (25 : Int32)) (by decide) dX12_judge_36 ?_
    refine v_icmp_ge (tgt := 108) hz dX12_judge_38 (by decide) (fun hc => ?_) (fun hc => ?_)
    · replace h := (if_pos hc).symm.trans h
      refine v_bipush hz (v := (-5 : Int32)) (by decide) dX12_judge_108 ?_
      obtain ⟨rfl, rfl⟩ := sp_inv h
      exact v_iret hz dX12_judge_110 (by decide) (by decide)
    · replace h := (if_neg hc).symm.trans h
      refine v_aload_n hz rfl rfl dX12_judge_41 ?_
      obtain ⟨ck6, h⟩ := ck_inv h
      obtain ⟨ka6, kb6⟩ := isK_of ck6
      obtain ⟨b7, r7, h⟩ := rb_inv h
      refine v_getR hz fl_X12_91 rfl dX12_judge_42 ka6 kb6 r7 ?_
      refine v_iload_n hz rfl rfl dX12_judge_45 ?_
      obtain ⟨ck8, h⟩ := ck_inv h
      obtain ⟨ka8, kb8⟩ := isK_of ck8
      obtain ⟨g9, h⟩ := ck_inv h
      refine v_iaload hz dX12_judge_46 ka8 kb8 g9 ?_
      refine v_iconst hz (v := (-1 : Int32)) (by decide) dX12_judge_47 ?_
      refine v_icmp_eq (tgt := 71) hz dX12_judge_48 (by decide) (fun hc => ?_) (fun hc => ?_)
      · replace h := (if_pos hc).symm.trans h
        refine v_bipush hz (v := (100 : Int32)) (by decide) dX12_judge_71 ?_
        refine v_iload_n hz rfl rfl dX12_judge_73 ?_
        refine v_iadd hz dX12_judge_74 ?_
        obtain ⟨rfl, rfl⟩ := sp_inv h
        exact v_iret hz dX12_judge_75 (by decide) (by decide)
      · replace h := (if_neg hc).symm.trans h
        refine v_iload_n hz rfl rfl dX12_judge_51 ?_
        refine v_if_lt (tgt := 71) hz dX12_judge_52 (by decide) (fun hc => ?_) (fun hc => ?_)
        · replace h := (if_pos hc).symm.trans h
          refine v_bipush hz (v := (100 : Int32)) (by decide) dX12_judge_71 ?_
          refine v_iload_n hz rfl rfl dX12_judge_73 ?_
          refine v_iadd hz dX12_judge_74 ?_
          obtain ⟨rfl, rfl⟩ := sp_inv h
          exact v_iret hz dX12_judge_75 (by decide) (by decide)
        · replace h := (if_neg hc).symm.trans h
          refine v_iload_n hz rfl rfl dX12_judge_55 ?_
          refine v_i2l hz dX12_judge_56 ?_
          refine v_iload_n hz rfl rfl dX12_judge_57 ?_
          refine v_i2l hz dX12_judge_58 ?_
          refine v_ladd hz dX12_judge_59 ?_
          refine v_aload_n hz rfl rfl dX12_judge_60 ?_
          obtain ⟨b10, r10, h⟩ := rb_inv h
          refine v_getR hz fl_X12_94 rfl dX12_judge_61 ka6 kb6 r10 ?_
          refine v_iload_n hz rfl rfl dX12_judge_64 ?_
          obtain ⟨ck11, h⟩ := ck_inv h
          obtain ⟨ka11, kb11⟩ := isK_of ck11
          obtain ⟨g12, h⟩ := ck_inv h
          refine v_iaload hz dX12_judge_65 ka11 kb11 g12 ?_
          refine v_i2l hz dX12_judge_66 ?_
          refine v_lcmp hz dX12_judge_67 ?_
          refine v_if_lt (tgt := 76) hz dX12_judge_68 (by decide) (fun hc => ?_) (fun hc => ?_)
          · replace h := (if_pos hc).symm.trans h
            refine v_aload_n hz rfl rfl dX12_judge_76 ?_
            obtain ⟨b13, r13, h⟩ := rb_inv h
            refine v_getR hz fl_X12_97 rfl dX12_judge_77 ka6 kb6 r13 ?_
            refine v_bipush hz (v := (60 : Int32)) (by decide) dX12_judge_80 ?_
            refine v_iload_n hz rfl rfl dX12_judge_82 ?_
            refine v_imul hz dX12_judge_83 ?_
            refine v_iload_n hz rfl rfl dX12_judge_84 ?_
            refine v_iadd hz dX12_judge_85 ?_
            refine v_iload_n hz rfl rfl dX12_judge_86 ?_
            refine v_iadd hz dX12_judge_87 ?_
            obtain ⟨ck14, h⟩ := ck_inv h
            obtain ⟨ka14, kb14⟩ := isK_of ck14
            obtain ⟨g15, h⟩ := ck_inv h
            refine v_laload hz dX12_judge_88 ka14 kb14 g15 ?_
            refine v_aload_n hz rfl rfl dX12_judge_89 ?_
            obtain ⟨b16, r16, h⟩ := rb_inv h
            refine v_getR hz fl_X12_9 rfl dX12_judge_90 ka6 kb6 r16 ?_
            refine v_iload_n hz rfl rfl dX12_judge_93 ?_
            obtain ⟨ck17, h⟩ := ck_inv h
            obtain ⟨ka17, kb17⟩ := isK_of ck17
            obtain ⟨g18, h⟩ := ck_inv h
            refine v_iaload hz dX12_judge_94 ka17 kb17 g18 ?_
            refine v_i2l hz dX12_judge_95 ?_
            refine v_lcmp hz dX12_judge_96 ?_
            refine v_if_eq (tgt := 102) hz dX12_judge_97 (by decide) (fun hc => ?_) (fun hc => ?_)
            · replace h := (if_pos hc).symm.trans h
              refine v_iinc hz (v := (l3 + (1 : Int32))) (lw := [some (.ref l0), some (.int l1), some (.int l2), some (.int (l3 + (1 : Int32)))]) rfl (congrArg (fun q => l3 + q) (show Int32.ofInt (1) = (1 : Int32) by decide)) rfl rfl dX12_judge_102 ?_
              refine v_goto (tgt := 35) hz dX12_judge_105 (by decide) ?_
              exact v_weak (lvle_s (lvle_s (lvle_s (lvle_s lvle_0)))) (ih h)
            · replace h := (if_neg hc).symm.trans h
              refine v_iload_n hz rfl rfl dX12_judge_100 ?_
              obtain ⟨rfl, rfl⟩ := sp_inv h
              exact v_iret hz dX12_judge_101 (by decide) (by decide)
          · replace h := (if_neg hc).symm.trans h
            refine v_bipush hz (v := (100 : Int32)) (by decide) dX12_judge_71 ?_
            refine v_iload_n hz rfl rfl dX12_judge_73 ?_
            refine v_iadd hz dX12_judge_74 ?_
            obtain ⟨rfl, rfl⟩ := sp_inv h
            exact v_iret hz dX12_judge_75 (by decide) (by decide)
set_option maxRecDepth 100000 in
set_option maxHeartbeats 4000000 in
theorem wX12_judge_33 {z : Zx} {fx : Fx} {al : Bool} {r : Nat} {N : Mem} {xr : Int32} (hz : Zok z fx al yX12_judge.cls yX12_judge.name cX12_judge (some .int) 4 (r + 1) 0 0 (some (.int xr)) N)    {M : Mem} {l0 : Nat} {l1 : Int32} {l2 : Int32} (h : gX12_judge_33  M l0 l1 l2 = some (xr, N)) : V z 33 [some (.ref l0), some (.int l1), some (.int l2), none] [] M 0 0 := by
  unfold gX12_judge_33 at h
  refine v_iconst hz (v := (0 : Int32)) (by decide) dX12_judge_33 ?_
  refine v_istore_n hz (lw := [some (.ref l0), some (.int l1), some (.int l2), some (.int (0 : Int32))]) rfl (Nat.le_of_ble_eq_true rfl) rfl rfl dX12_judge_34 ?_
  exact v_weak (lvle_s (lvle_s (lvle_s (lvle_s lvle_0)))) (wX12_judge_35 hz   h)
set_option maxRecDepth 100000 in
set_option maxHeartbeats 4000000 in
theorem tX12_judge (r : Nat) {fx : Fx} {al : Bool} {M N : Mem} {a0 : Nat} {a1 : Int32} {a2 : Int32} {xr : Int32}  (h : fX12_judge M a0 a1 a2 = some (xr, N)) : Ct fx yX12_judge cX12_judge 4 (some .int) (r + 1) 0 0 al [.ref a0, .int a1, .int a2] M (some (.int xr)) N := by
  refine ct_of (lv := [some (.ref a0), some (.int a1), some (.int a2), none]) (by decide) (Nat.le_of_ble_eq_true rfl) rfl rfl (fun z hz => ?_)
  unfold fX12_judge at h
  refine v_iload_n hz rfl rfl dX12_judge_0 ?_
  refine v_iconst hz (v := (0 : Int32)) (by decide) dX12_judge_1 ?_
  refine v_iconst hz (v := (5 : Int32)) (by decide) dX12_judge_2 ?_
  obtain ⟨x1, M1, e1, h⟩ := bd_inv h
  refine v_callS hz (As := [.int a1, .int (0 : Int32), .int (5 : Int32)]) sl_X12_108 (tX12_within (r + 0) e1) rfl rfl rfl (Nat.le_of_ble_eq_true rfl) ⟨by decide, by decide⟩ dX12_judge_3 ?_
  show V z 6 [some (.ref a0), some (.int a1), some (.int a2), none] [.int x1] M1 0 0
  refine v_if_ne (tgt := 11) hz dX12_judge_6 (by decide) (fun hc => ?_) (fun hc => ?_)
  · replace h := (if_neg hc).symm.trans h
    refine v_aload_n hz rfl rfl dX12_judge_11 ?_
    obtain ⟨ck2, h⟩ := ck_inv h
    obtain ⟨ka2, kb2⟩ := isK_of ck2
    obtain ⟨b3, r3, h⟩ := rb_inv h
    refine v_getR hz fl_X12_91 rfl dX12_judge_12 ka2 kb2 r3 ?_
    refine v_iload_n hz rfl rfl dX12_judge_15 ?_
    obtain ⟨ck4, h⟩ := ck_inv h
    obtain ⟨ka4, kb4⟩ := isK_of ck4
    obtain ⟨g5, h⟩ := ck_inv h
    refine v_iaload hz dX12_judge_16 ka4 kb4 g5 ?_
    refine v_iconst hz (v := (-1 : Int32)) (by decide) dX12_judge_17 ?_
    refine v_icmp_eq (tgt := 33) hz dX12_judge_18 (by decide) (fun hc => ?_) (fun hc => ?_)
    · replace h := (if_pos hc).symm.trans h
      exact v_weak (lvle_s (lvle_s (lvle_s (lvle_n lvle_0)))) (wX12_judge_33 hz   h)
    · replace h := (if_neg hc).symm.trans h
      refine v_aload_n hz rfl rfl dX12_judge_21 ?_
      refine v_getR hz fl_X12_91 rfl dX12_judge_22 ka2 kb2 r3 ?_
      refine v_iload_n hz rfl rfl dX12_judge_25 ?_
      obtain ⟨g19, h⟩ := ck_inv h
      refine v_iaload hz dX12_judge_26 ka4 kb4 g19 ?_
      refine v_if_eq (tgt := 33) hz dX12_judge_27 (by decide) (fun hc => ?_) (fun hc => ?_)
      · replace h := (if_pos hc).symm.trans h
        exact v_weak (lvle_s (lvle_s (lvle_s (lvle_n lvle_0)))) (wX12_judge_33 hz   h)
      · replace h := (if_neg hc).symm.trans h
        refine v_bipush hz (v := (-12 : Int32)) (by decide) dX12_judge_30 ?_
        obtain ⟨rfl, rfl⟩ := sp_inv h
        exact v_iret hz dX12_judge_32 (by decide) (by decide)
  · replace h := (if_pos hc).symm.trans h
    refine v_iconst hz (v := (-1 : Int32)) (by decide) dX12_judge_9 ?_
    obtain ⟨rfl, rfl⟩ := sp_inv h
    exact v_iret hz dX12_judge_10 (by decide) (by decide)
noncomputable def fX12_image (M : Mem) (a0 : Nat) : Option (Int32 × Mem) :=
  ck (isK M a0 12) <| rb (mR (stI M a0 36 (1 : Int32)) a0 37) fun b2 => bd (fX12_keep (stI M a0 36 (1 : Int32)) a0 b2) fun x3 M3 => ck (isK M3 a0 12) <| some ((mI M3 a0 1), M3)
set_option maxRecDepth 100000 in
set_option maxHeartbeats 4000000 in
theorem tX12_image (r : Nat) {fx : Fx} {al : Bool} {M N : Mem} {a0 : Nat} {xr : Int32}  (h : fX12_image M a0 = some (xr, N)) : Ct fx yX12_image cX12_image 1 (some .int) (r + 1) 0 0 al [.ref a0] M (some (.int xr)) N := by
  refine ct_of (lv := [some (.ref a0)]) (by decide) (Nat.le_of_ble_eq_true rfl) rfl rfl (fun z hz => ?_)
  unfold fX12_image at h
  refine v_aload_n hz rfl rfl dX12_image_0 ?_
  refine v_iconst hz (v := (1 : Int32)) (by decide) dX12_image_1 ?_
  obtain ⟨ck1, h⟩ := ck_inv h
  obtain ⟨ka1, kb1⟩ := isK_of ck1
  refine v_putI hz fl_X12_291 ft_12_36 (by decide) rfl rfl rfl dX12_image_2 ka1 kb1 ?_
  refine v_aload_n hz rfl rfl dX12_image_5 ?_
  refine v_aload_n hz rfl rfl dX12_image_6 ?_
  obtain ⟨b2, r2, h⟩ := rb_inv h
  refine v_getR hz fl_X12_79 rfl dX12_image_7 ka1 kb1 r2 ?_
  obtain ⟨x3, M3, e3, h⟩ := bd_inv h
  refine v_callV hz (As := [.ref b2]) vl_X12_253 (tX12_keep (r + 0) e3) rfl (by decide) ka1 kb1 rfl rfl rfl (Nat.le_of_ble_eq_true rfl) ⟨by decide, by decide⟩ dX12_image_10 ?_
  show V z 13 [some (.ref a0)] [] M3 0 0
  refine v_aload_n hz rfl rfl dX12_image_13 ?_
  obtain ⟨ck4, h⟩ := ck_inv h
  obtain ⟨ka4, kb4⟩ := isK_of ck4
  refine v_getI hz fl_X12_105 rfl dX12_image_14 ka4 kb4 ?_
  obtain ⟨rfl, rfl⟩ := sp_inv h
  exact v_iret hz dX12_image_17 (by decide) (by decide)
noncomputable def fX12_undo (M : Mem) (a0 : Nat) : Option (Int32 × Mem) :=
  ck (isK M a0 12) <| if (mI M a0 36) = 0 then (some ((-3 : Int32), M)) else (rb (mR M a0 37) fun b2 => bd (fX12_again M a0 b2) fun x3 M3 => ck (isK M3 a0 12) <| some ((mI M3 a0 1), M3))
set_option maxRecDepth 100000 in
set_option maxHeartbeats 4000000 in
theorem tX12_undo (r : Nat) {fx : Fx} {al : Bool} {M N : Mem} {a0 : Nat} {xr : Int32}  (h : fX12_undo M a0 = some (xr, N)) : Ct fx yX12_undo cX12_undo 1 (some .int) (r + 1) 0 0 al [.ref a0] M (some (.int xr)) N := by
  refine ct_of (lv := [some (.ref a0)]) (by decide) (Nat.le_of_ble_eq_true rfl) rfl rfl (fun z hz => ?_)
  unfold fX12_undo at h
  refine v_aload_n hz rfl rfl dX12_undo_0 ?_
  obtain ⟨ck1, h⟩ := ck_inv h
  obtain ⟨ka1, kb1⟩ := isK_of ck1
  refine v_getI hz fl_X12_291 rfl dX12_undo_1 ka1 kb1 ?_
  refine v_if_ne (tgt := 10) hz dX12_undo_4 (by decide) (fun hc => ?_) (fun hc => ?_)
  · replace h := (if_neg hc).symm.trans h
    refine v_aload_n hz rfl rfl dX12_undo_10 ?_
    refine v_aload_n hz rfl rfl dX12_undo_11 ?_
    obtain ⟨b2, r2, h⟩ := rb_inv h
    refine v_getR hz fl_X12_79 rfl dX12_undo_12 ka1 kb1 r2 ?_
    obtain ⟨x3, M3, e3, h⟩ := bd_inv h
    refine v_callV hz (As := [.ref b2]) vl_X12_257 (tX12_again (r + 0) e3) rfl (by decide) ka1 kb1 rfl rfl rfl (Nat.le_of_ble_eq_true rfl) ⟨by decide, by decide⟩ dX12_undo_15 ?_
    show V z 18 [some (.ref a0)] [] M3 0 0
    refine v_aload_n hz rfl rfl dX12_undo_18 ?_
    obtain ⟨ck4, h⟩ := ck_inv h
    obtain ⟨ka4, kb4⟩ := isK_of ck4
    refine v_getI hz fl_X12_105 rfl dX12_undo_19 ka4 kb4 ?_
    obtain ⟨rfl, rfl⟩ := sp_inv h
    exact v_iret hz dX12_undo_22 (by decide) (by decide)
  · replace h := (if_pos hc).symm.trans h
    refine v_bipush hz (v := (-3 : Int32)) (by decide) dX12_undo_7 ?_
    obtain ⟨rfl, rfl⟩ := sp_inv h
    exact v_iret hz dX12_undo_9 (by decide) (by decide)
noncomputable def gX12_ran_19  (M : Mem) (l0 : Nat) : Option (Unit × Mem) :=
  ck (isK M l0 12) <| some ((), (stI M l0 34 ((mI M l0 34) + (1 : Int32))))
noncomputable def fX12_ran (M : Mem) (a0 : Nat) (a1 : Int32) : Option (Unit × Mem) :=
  ck (isK M a0 12) <| if (20 : Int32) ≤ (mI M a0 34) then (gX12_ran_19 M a0) else (rb (mR M a0 35) fun b3 => ck (isK M b3 14) <| ck (inb (mI M a0 34) (mG M b3)) <| gX12_ran_19 (stI M b3 (mI M a0 34).toNatClampNeg a1) a0)
set_option maxRecDepth 100000 in
set_option maxHeartbeats 4000000 in
theorem wX12_ran_19 {z : Zx} {fx : Fx} {al : Bool} {r : Nat} {N : Mem} (hz : Zok z fx al yX12_ran.cls yX12_ran.name cX12_ran none 2 (r + 0) 0 0 none N)    {M : Mem} {l0 : Nat} (h : gX12_ran_19  M l0 = some ((), N)) : V z 19 [some (.ref l0), none] [] M 0 0 := by
  unfold gX12_ran_19 at h
  refine v_aload_n hz rfl rfl dX12_ran_19 ?_
  refine v_dup hz rfl dX12_ran_20 ?_
  obtain ⟨ck2, h⟩ := ck_inv h
  obtain ⟨ka2, kb2⟩ := isK_of ck2
  refine v_getI hz fl_X12_295 rfl dX12_ran_21 ka2 kb2 ?_
  refine v_iconst hz (v := (1 : Int32)) (by decide) dX12_ran_24 ?_
  refine v_iadd hz dX12_ran_25 ?_
  refine v_putI hz fl_X12_295 ft_12_34 (by decide) rfl rfl rfl dX12_ran_26 ka2 kb2 ?_
  obtain ⟨-, rfl⟩ := sp_inv h
  exact v_vret hz dX12_ran_29 (by decide) (by decide)
set_option maxRecDepth 100000 in
set_option maxHeartbeats 4000000 in
theorem tX12_ran (r : Nat) {fx : Fx} {al : Bool} {M N : Mem} {a0 : Nat} {a1 : Int32}  (h : fX12_ran M a0 a1 = some ((), N)) : Ct fx yX12_ran cX12_ran 2 none (r + 0) 0 0 al [.ref a0, .int a1] M none N := by
  refine ct_of (lv := [some (.ref a0), some (.int a1)]) (by decide) (Nat.le_of_ble_eq_true rfl) rfl rfl (fun z hz => ?_)
  unfold fX12_ran at h
  refine v_aload_n hz rfl rfl dX12_ran_0 ?_
  obtain ⟨ck1, h⟩ := ck_inv h
  obtain ⟨ka1, kb1⟩ := isK_of ck1
  refine v_getI hz fl_X12_295 rfl dX12_ran_1 ka1 kb1 ?_
  refine v_bipush hz (v := (20 : Int32)) (by decide) dX12_ran_4 ?_
  refine v_icmp_ge (tgt := 19) hz dX12_ran_6 (by decide) (fun hc => ?_) (fun hc => ?_)
  · replace h := (if_pos hc).symm.trans h
    exact v_weak (lvle_s (lvle_n lvle_0)) (wX12_ran_19 hz   h)
  · replace h := (if_neg hc).symm.trans h
    refine v_aload_n hz rfl rfl dX12_ran_9 ?_
    obtain ⟨b3, r3, h⟩ := rb_inv h
    refine v_getR hz fl_X12_76 rfl dX12_ran_10 ka1 kb1 r3 ?_
    refine v_aload_n hz rfl rfl dX12_ran_13 ?_
    refine v_getI hz fl_X12_295 rfl dX12_ran_14 ka1 kb1 ?_
    refine v_iload_n hz rfl rfl dX12_ran_17 ?_
    obtain ⟨ck4, h⟩ := ck_inv h
    obtain ⟨ka4, kb4⟩ := isK_of ck4
    obtain ⟨g5, h⟩ := ck_inv h
    refine v_iastore hz dX12_ran_18 ka4 kb4 g5 ?_
    exact v_weak (lvle_s (lvle_n lvle_0)) (wX12_ran_19 hz   h)
noncomputable def fX12_above (M : Mem) (a0 : Int32) : Option (Int32 × Mem) :=
  if a0 = (4 : Int32) then (some ((1 : Int32), M)) else (if a0 = (5 : Int32) then (some ((2 : Int32), M)) else (if a0 = (6 : Int32) then (some ((3 : Int32), M)) else (some ((0 : Int32), M))))
set_option maxRecDepth 100000 in
set_option maxHeartbeats 4000000 in
theorem tX12_above (r : Nat) {fx : Fx} {al : Bool} {M N : Mem} {a0 : Int32} {xr : Int32}  (h : fX12_above M a0 = some (xr, N)) : Ct fx yX12_above cX12_above 1 (some .int) (r + 0) 0 0 al [.int a0] M (some (.int xr)) N := by
  refine ct_of (lv := [some (.int a0)]) (by decide) (Nat.le_of_ble_eq_true rfl) rfl rfl (fun z hz => ?_)
  unfold fX12_above at h
  refine v_iload_n hz rfl rfl dX12_above_0 ?_
  refine v_iconst hz (v := (4 : Int32)) (by decide) dX12_above_1 ?_
  refine v_icmp_ne (tgt := 9) hz dX12_above_2 (by decide) (fun hc => ?_) (fun hc => ?_)
  · replace h := (if_neg hc).symm.trans h
    refine v_iload_n hz rfl rfl dX12_above_9 ?_
    refine v_iconst hz (v := (5 : Int32)) (by decide) dX12_above_10 ?_
    refine v_icmp_ne (tgt := 18) hz dX12_above_11 (by decide) (fun hc => ?_) (fun hc => ?_)
    · replace h := (if_neg hc).symm.trans h
      refine v_iload_n hz rfl rfl dX12_above_18 ?_
      refine v_bipush hz (v := (6 : Int32)) (by decide) dX12_above_19 ?_
      refine v_icmp_ne (tgt := 28) hz dX12_above_21 (by decide) (fun hc => ?_) (fun hc => ?_)
      · replace h := (if_neg hc).symm.trans h
        refine v_iconst hz (v := (0 : Int32)) (by decide) dX12_above_28 ?_
        obtain ⟨rfl, rfl⟩ := sp_inv h
        exact v_iret hz dX12_above_29 (by decide) (by decide)
      · replace h := (if_pos hc).symm.trans h
        refine v_iconst hz (v := (3 : Int32)) (by decide) dX12_above_24 ?_
        refine v_goto (tgt := 29) hz dX12_above_25 (by decide) ?_
        obtain ⟨rfl, rfl⟩ := sp_inv h
        exact v_iret hz dX12_above_29 (by decide) (by decide)
    · replace h := (if_pos hc).symm.trans h
      refine v_iconst hz (v := (2 : Int32)) (by decide) dX12_above_14 ?_
      refine v_goto (tgt := 29) hz dX12_above_15 (by decide) ?_
      obtain ⟨rfl, rfl⟩ := sp_inv h
      exact v_iret hz dX12_above_29 (by decide) (by decide)
  · replace h := (if_pos hc).symm.trans h
    refine v_iconst hz (v := (1 : Int32)) (by decide) dX12_above_5 ?_
    refine v_goto (tgt := 29) hz dX12_above_6 (by decide) ?_
    obtain ⟨rfl, rfl⟩ := sp_inv h
    exact v_iret hz dX12_above_29 (by decide) (by decide)
noncomputable def bX12_bows (F0 : Mem → Nat → Int32 → Int32 → Int32 → Option (Int32 × Mem)) (M : Mem) (a0 : Nat) (a1 : Int32) (a2 : Int32) (a3 : Int32) : Option (Int32 × Mem) :=
  if a2 = (0 : Int32) then (ck (isK M a0 12) <| bd (fX12_ran M a0 (10 : Int32)) fun x3 M3 => some ((a3 + a1), M3)) else if a2 = (1 : Int32) then (bd (fX12_above M a2) fun x4 M4 => ck (isK M4 a0 12) <| bd (F0 M4 a0 a1 x4 a3) fun x6 M6 => some (x6, M6)) else if a2 = (2 : Int32) then (ck (isK M a0 12) <| bd (fX12_ran M a0 (30 : Int32)) fun x8 M8 => ck (isK M8 a0 12) <| bd (F0 M8 a0 a1 (0 : Int32) (a3 * (3 : Int32))) fun x10 M10 => some (x10, M10)) else if a2 = (3 : Int32) then (bd (fX12_above M a2) fun x11 M11 => ck (isK M11 a0 12) <| bd (F0 M11 a0 a1 x11 a3) fun x13 M13 => some (x13, M13)) else if a2 = (4 : Int32) then (ck (isK M a0 12) <| bd (fX12_ran M a0 (50 : Int32)) fun x15 M15 => ck (isK M15 a0 12) <| bd (F0 M15 a0 a1 (1 : Int32) a3) fun x17 M17 => some ((-x17), M17)) else if a2 = (5 : Int32) then (bd (fX12_above M a2) fun x18 M18 => ck (isK M18 a0 12) <| bd (F0 M18 a0 a1 x18 a3) fun x20 M20 => some (x20, M20)) else if a2 = (6 : Int32) then (ck (isK M a0 12) <| bd (fX12_ran M a0 (71 : Int32)) fun x22 M22 => ck (isK M22 a0 12) <| bd (F0 M22 a0 a1 (3 : Int32) a3) fun x24 M24 => ck (isK M24 a0 12) <| rb (mR M24 a0 3) fun b26 => ck (isK M24 b26 14) <| ck (inb a1 (mG M24 b26)) <| some ((x24 ^^^ (mI M24 b26 a1.toNatClampNeg)), M24)) else (bd (fX12_above M a2) fun x29 M29 => ck (isK M29 a0 12) <| bd (F0 M29 a0 a1 x29 a3) fun x31 M31 => some (x31, M31))
set_option maxRecDepth 100000 in
set_option maxHeartbeats 4000000 in
theorem tX12_bows_b (r : Nat) {fx : Fx} {al : Bool} {M N : Mem} {a0 : Nat} {a1 : Int32} {a2 : Int32} {a3 : Int32} {xr : Int32} {F0 : Mem → Nat → Int32 → Int32 → Int32 → Option (Int32 × Mem)} (hF0 : ∀ {M N : Mem} {a0 : Nat} {a1 : Int32} {a2 : Int32} {a3 : Int32} {xr : Int32}, F0 M a0 a1 a2 a3 = some (xr, N) → Ct fx yX12_bows cX12_bows 4 (some .int) (r + 0) 0 0 al [.ref a0, .int a1, .int a2, .int a3] M (some (.int xr)) N) (h : bX12_bows F0 M a0 a1 a2 a3 = some (xr, N)) : Ct fx yX12_bows cX12_bows 4 (some .int) (r + 1) 0 0 al [.ref a0, .int a1, .int a2, .int a3] M (some (.int xr)) N := by
  refine ct_of (lv := [some (.ref a0), some (.int a1), some (.int a2), some (.int a3)]) (by decide) (Nat.le_of_ble_eq_true rfl) rfl rfl (fun z hz => ?_)
  unfold bX12_bows at h
  refine v_iload_n hz rfl rfl dX12_bows_0 ?_
  by_cases hs1_0 : a2 = (0 : Int32)
  · replace h := (if_pos hs1_0).symm.trans h
    refine v_tableAt (tgt := 96) hz hs1_0 dX12_bows_1 (by decide) (by decide) (by decide) (by decide) ?_
    refine v_aload_n hz rfl rfl dX12_bows_96 ?_
    refine v_bipush hz (v := (10 : Int32)) (by decide) dX12_bows_97 ?_
    obtain ⟨ck2, h⟩ := ck_inv h
    obtain ⟨ka2, kb2⟩ := isK_of ck2
    obtain ⟨x3, M3, e3, h⟩ := bd_inv h
    refine v_callV hz (As := [.int (10 : Int32)]) vl_X12_298 (tX12_ran (r + 0) e3) rfl (by decide) ka2 kb2 rfl rfl rfl (Nat.le_of_ble_eq_true rfl) ⟨by decide, by decide⟩ dX12_bows_99 ?_
    show V z 102 [some (.ref a0), some (.int a1), some (.int a2), some (.int a3)] [] M3 0 0
    refine v_iload_n hz rfl rfl dX12_bows_102 ?_
    refine v_iload_n hz rfl rfl dX12_bows_103 ?_
    refine v_iadd hz dX12_bows_104 ?_
    obtain ⟨rfl, rfl⟩ := sp_inv h
    exact v_iret hz dX12_bows_105 (by decide) (by decide)
  replace h := (if_neg hs1_0).symm.trans h
  by_cases hs1_1 : a2 = (1 : Int32)
  · replace h := (if_pos hs1_1).symm.trans h
    refine v_tableAt (tgt := 106) hz hs1_1 dX12_bows_1 (by decide) (by decide) (by decide) (by decide) ?_
    refine v_aload_n hz rfl rfl dX12_bows_106 ?_
    refine v_iload_n hz rfl rfl dX12_bows_107 ?_
    refine v_iload_n hz rfl rfl dX12_bows_108 ?_
    obtain ⟨x4, M4, e4, h⟩ := bd_inv h
    refine v_callS hz (As := [.int a2]) sl_X12_305 (tX12_above (r + 0) e4) rfl rfl rfl (Nat.le_of_ble_eq_true rfl) ⟨by decide, by decide⟩ dX12_bows_109 ?_
    show V z 112 [some (.ref a0), some (.int a1), some (.int a2), some (.int a3)] [.int x4, .int a1, .ref a0] M4 0 0
    refine v_iload_n hz rfl rfl dX12_bows_112 ?_
    obtain ⟨ck5, h⟩ := ck_inv h
    obtain ⟨ka5, kb5⟩ := isK_of ck5
    obtain ⟨x6, M6, e6, h⟩ := bd_inv h
    refine v_callV hz (As := [.int a1, .int x4, .int a3]) vl_X12_302 (hF0 e6) rfl (by decide) ka5 kb5 rfl rfl rfl (Nat.le_of_ble_eq_true rfl) ⟨by decide, by decide⟩ dX12_bows_113 ?_
    show V z 116 [some (.ref a0), some (.int a1), some (.int a2), some (.int a3)] [.int x6] M6 0 0
    obtain ⟨rfl, rfl⟩ := sp_inv h
    exact v_iret hz dX12_bows_116 (by decide) (by decide)
  replace h := (if_neg hs1_1).symm.trans h
  by_cases hs1_2 : a2 = (2 : Int32)
  · replace h := (if_pos hs1_2).symm.trans h
    refine v_tableAt (tgt := 44) hz hs1_2 dX12_bows_1 (by decide) (by decide) (by decide) (by decide) ?_
    refine v_aload_n hz rfl rfl dX12_bows_44 ?_
    refine v_bipush hz (v := (30 : Int32)) (by decide) dX12_bows_45 ?_
    obtain ⟨ck7, h⟩ := ck_inv h
    obtain ⟨ka7, kb7⟩ := isK_of ck7
    obtain ⟨x8, M8, e8, h⟩ := bd_inv h
    refine v_callV hz (As := [.int (30 : Int32)]) vl_X12_298 (tX12_ran (r + 0) e8) rfl (by decide) ka7 kb7 rfl rfl rfl (Nat.le_of_ble_eq_true rfl) ⟨by decide, by decide⟩ dX12_bows_47 ?_
    show V z 50 [some (.ref a0), some (.int a1), some (.int a2), some (.int a3)] [] M8 0 0
    refine v_aload_n hz rfl rfl dX12_bows_50 ?_
    refine v_iload_n hz rfl rfl dX12_bows_51 ?_
    refine v_iconst hz (v := (0 : Int32)) (by decide) dX12_bows_52 ?_
    refine v_iload_n hz rfl rfl dX12_bows_53 ?_
    refine v_iconst hz (v := (3 : Int32)) (by decide) dX12_bows_54 ?_
    refine v_imul hz dX12_bows_55 ?_
    obtain ⟨ck9, h⟩ := ck_inv h
    obtain ⟨ka9, kb9⟩ := isK_of ck9
    obtain ⟨x10, M10, e10, h⟩ := bd_inv h
    refine v_callV hz (As := [.int a1, .int (0 : Int32), .int (a3 * (3 : Int32))]) vl_X12_302 (hF0 e10) rfl (by decide) ka9 kb9 rfl rfl rfl (Nat.le_of_ble_eq_true rfl) ⟨by decide, by decide⟩ dX12_bows_56 ?_
    show V z 59 [some (.ref a0), some (.int a1), some (.int a2), some (.int a3)] [.int x10] M10 0 0
    obtain ⟨rfl, rfl⟩ := sp_inv h
    exact v_iret hz dX12_bows_59 (by decide) (by decide)
  replace h := (if_neg hs1_2).symm.trans h
  by_cases hs1_3 : a2 = (3 : Int32)
  · replace h := (if_pos hs1_3).symm.trans h
    refine v_tableAt (tgt := 106) hz hs1_3 dX12_bows_1 (by decide) (by decide) (by decide) (by decide) ?_
    refine v_aload_n hz rfl rfl dX12_bows_106 ?_
    refine v_iload_n hz rfl rfl dX12_bows_107 ?_
    refine v_iload_n hz rfl rfl dX12_bows_108 ?_
    obtain ⟨x11, M11, e11, h⟩ := bd_inv h
    refine v_callS hz (As := [.int a2]) sl_X12_305 (tX12_above (r + 0) e11) rfl rfl rfl (Nat.le_of_ble_eq_true rfl) ⟨by decide, by decide⟩ dX12_bows_109 ?_
    show V z 112 [some (.ref a0), some (.int a1), some (.int a2), some (.int a3)] [.int x11, .int a1, .ref a0] M11 0 0
    refine v_iload_n hz rfl rfl dX12_bows_112 ?_
    obtain ⟨ck12, h⟩ := ck_inv h
    obtain ⟨ka12, kb12⟩ := isK_of ck12
    obtain ⟨x13, M13, e13, h⟩ := bd_inv h
    refine v_callV hz (As := [.int a1, .int x11, .int a3]) vl_X12_302 (hF0 e13) rfl (by decide) ka12 kb12 rfl rfl rfl (Nat.le_of_ble_eq_true rfl) ⟨by decide, by decide⟩ dX12_bows_113 ?_
    show V z 116 [some (.ref a0), some (.int a1), some (.int a2), some (.int a3)] [.int x13] M13 0 0
    obtain ⟨rfl, rfl⟩ := sp_inv h
    exact v_iret hz dX12_bows_116 (by decide) (by decide)
  replace h := (if_neg hs1_3).symm.trans h
  by_cases hs1_4 : a2 = (4 : Int32)
  · replace h := (if_pos hs1_4).symm.trans h
    refine v_tableAt (tgt := 60) hz hs1_4 dX12_bows_1 (by decide) (by decide) (by decide) (by decide) ?_
    refine v_aload_n hz rfl rfl dX12_bows_60 ?_
    refine v_bipush hz (v := (50 : Int32)) (by decide) dX12_bows_61 ?_
    obtain ⟨ck14, h⟩ := ck_inv h
    obtain ⟨ka14, kb14⟩ := isK_of ck14
    obtain ⟨x15, M15, e15, h⟩ := bd_inv h
    refine v_callV hz (As := [.int (50 : Int32)]) vl_X12_298 (tX12_ran (r + 0) e15) rfl (by decide) ka14 kb14 rfl rfl rfl (Nat.le_of_ble_eq_true rfl) ⟨by decide, by decide⟩ dX12_bows_63 ?_
    show V z 66 [some (.ref a0), some (.int a1), some (.int a2), some (.int a3)] [] M15 0 0
    refine v_aload_n hz rfl rfl dX12_bows_66 ?_
    refine v_iload_n hz rfl rfl dX12_bows_67 ?_
    refine v_iconst hz (v := (1 : Int32)) (by decide) dX12_bows_68 ?_
    refine v_iload_n hz rfl rfl dX12_bows_69 ?_
    obtain ⟨ck16, h⟩ := ck_inv h
    obtain ⟨ka16, kb16⟩ := isK_of ck16
    obtain ⟨x17, M17, e17, h⟩ := bd_inv h
    refine v_callV hz (As := [.int a1, .int (1 : Int32), .int a3]) vl_X12_302 (hF0 e17) rfl (by decide) ka16 kb16 rfl rfl rfl (Nat.le_of_ble_eq_true rfl) ⟨by decide, by decide⟩ dX12_bows_70 ?_
    show V z 73 [some (.ref a0), some (.int a1), some (.int a2), some (.int a3)] [.int x17] M17 0 0
    refine v_ineg hz dX12_bows_73 ?_
    obtain ⟨rfl, rfl⟩ := sp_inv h
    exact v_iret hz dX12_bows_74 (by decide) (by decide)
  replace h := (if_neg hs1_4).symm.trans h
  by_cases hs1_5 : a2 = (5 : Int32)
  · replace h := (if_pos hs1_5).symm.trans h
    refine v_tableAt (tgt := 106) hz hs1_5 dX12_bows_1 (by decide) (by decide) (by decide) (by decide) ?_
    refine v_aload_n hz rfl rfl dX12_bows_106 ?_
    refine v_iload_n hz rfl rfl dX12_bows_107 ?_
    refine v_iload_n hz rfl rfl dX12_bows_108 ?_
    obtain ⟨x18, M18, e18, h⟩ := bd_inv h
    refine v_callS hz (As := [.int a2]) sl_X12_305 (tX12_above (r + 0) e18) rfl rfl rfl (Nat.le_of_ble_eq_true rfl) ⟨by decide, by decide⟩ dX12_bows_109 ?_
    show V z 112 [some (.ref a0), some (.int a1), some (.int a2), some (.int a3)] [.int x18, .int a1, .ref a0] M18 0 0
    refine v_iload_n hz rfl rfl dX12_bows_112 ?_
    obtain ⟨ck19, h⟩ := ck_inv h
    obtain ⟨ka19, kb19⟩ := isK_of ck19
    obtain ⟨x20, M20, e20, h⟩ := bd_inv h
    refine v_callV hz (As := [.int a1, .int x18, .int a3]) vl_X12_302 (hF0 e20) rfl (by decide) ka19 kb19 rfl rfl rfl (Nat.le_of_ble_eq_true rfl) ⟨by decide, by decide⟩ dX12_bows_113 ?_
    show V z 116 [some (.ref a0), some (.int a1), some (.int a2), some (.int a3)] [.int x20] M20 0 0
    obtain ⟨rfl, rfl⟩ := sp_inv h
    exact v_iret hz dX12_bows_116 (by decide) (by decide)
  replace h := (if_neg hs1_5).symm.trans h
  by_cases hs1_6 : a2 = (6 : Int32)
  · replace h := (if_pos hs1_6).symm.trans h
    refine v_tableAt (tgt := 75) hz hs1_6 dX12_bows_1 (by decide) (by decide) (by decide) (by decide) ?_
    refine v_aload_n hz rfl rfl dX12_bows_75 ?_
    refine v_bipush hz (v := (71 : Int32)) (by decide) dX12_bows_76 ?_
    obtain ⟨ck21, h⟩ := ck_inv h
    obtain ⟨ka21, kb21⟩ := isK_of ck21
    obtain ⟨x22, M22, e22, h⟩ := bd_inv h
    refine v_callV hz (As := [.int (71 : Int32)]) vl_X12_298 (tX12_ran (r + 0) e22) rfl (by decide) ka21 kb21 rfl rfl rfl (Nat.le_of_ble_eq_true rfl) ⟨by decide, by decide⟩ dX12_bows_78 ?_
    show V z 81 [some (.ref a0), some (.int a1), some (.int a2), some (.int a3)] [] M22 0 0
    refine v_aload_n hz rfl rfl dX12_bows_81 ?_
    refine v_iload_n hz rfl rfl dX12_bows_82 ?_
    refine v_iconst hz (v := (3 : Int32)) (by decide) dX12_bows_83 ?_
    refine v_iload_n hz rfl rfl dX12_bows_84 ?_
    obtain ⟨ck23, h⟩ := ck_inv h
    obtain ⟨ka23, kb23⟩ := isK_of ck23
    obtain ⟨x24, M24, e24, h⟩ := bd_inv h
    refine v_callV hz (As := [.int a1, .int (3 : Int32), .int a3]) vl_X12_302 (hF0 e24) rfl (by decide) ka23 kb23 rfl rfl rfl (Nat.le_of_ble_eq_true rfl) ⟨by decide, by decide⟩ dX12_bows_85 ?_
    show V z 88 [some (.ref a0), some (.int a1), some (.int a2), some (.int a3)] [.int x24] M24 0 0
    refine v_aload_n hz rfl rfl dX12_bows_88 ?_
    obtain ⟨ck25, h⟩ := ck_inv h
    obtain ⟨ka25, kb25⟩ := isK_of ck25
    obtain ⟨b26, r26, h⟩ := rb_inv h
    refine v_getR hz fl_X12_18 rfl dX12_bows_89 ka25 kb25 r26 ?_
    refine v_iload_n hz rfl rfl dX12_bows_92 ?_
    obtain ⟨ck27, h⟩ := ck_inv h
    obtain ⟨ka27, kb27⟩ := isK_of ck27
    obtain ⟨g28, h⟩ := ck_inv h
    refine v_iaload hz dX12_bows_93 ka27 kb27 g28 ?_
    refine v_ixor hz dX12_bows_94 ?_
    obtain ⟨rfl, rfl⟩ := sp_inv h
    exact v_iret hz dX12_bows_95 (by decide) (by decide)
  replace h := (if_neg hs1_6).symm.trans h
  refine v_tableOut (tgt := 106) hz dX12_bows_1 (by have q0 := lv_neT hs1_0 (show ((0 : Int32)).toInt = 0 by decide); have q1 := lv_neT hs1_1 (show ((1 : Int32)).toInt = 1 by decide); have q2 := lv_neT hs1_2 (show ((2 : Int32)).toInt = 2 by decide); have q3 := lv_neT hs1_3 (show ((3 : Int32)).toInt = 3 by decide); have q4 := lv_neT hs1_4 (show ((4 : Int32)).toInt = 4 by decide); have q5 := lv_neT hs1_5 (show ((5 : Int32)).toInt = 5 by decide); have q6 := lv_neT hs1_6 (show ((6 : Int32)).toInt = 6 by decide); omega) (by decide) ?_
  refine v_aload_n hz rfl rfl dX12_bows_106 ?_
  refine v_iload_n hz rfl rfl dX12_bows_107 ?_
  refine v_iload_n hz rfl rfl dX12_bows_108 ?_
  obtain ⟨x29, M29, e29, h⟩ := bd_inv h
  refine v_callS hz (As := [.int a2]) sl_X12_305 (tX12_above (r + 0) e29) rfl rfl rfl (Nat.le_of_ble_eq_true rfl) ⟨by decide, by decide⟩ dX12_bows_109 ?_
  show V z 112 [some (.ref a0), some (.int a1), some (.int a2), some (.int a3)] [.int x29, .int a1, .ref a0] M29 0 0
  refine v_iload_n hz rfl rfl dX12_bows_112 ?_
  obtain ⟨ck30, h⟩ := ck_inv h
  obtain ⟨ka30, kb30⟩ := isK_of ck30
  obtain ⟨x31, M31, e31, h⟩ := bd_inv h
  refine v_callV hz (As := [.int a1, .int x29, .int a3]) vl_X12_302 (hF0 e31) rfl (by decide) ka30 kb30 rfl rfl rfl (Nat.le_of_ble_eq_true rfl) ⟨by decide, by decide⟩ dX12_bows_113 ?_
  show V z 116 [some (.ref a0), some (.int a1), some (.int a2), some (.int a3)] [.int x31] M31 0 0
  obtain ⟨rfl, rfl⟩ := sp_inv h
  exact v_iret hz dX12_bows_116 (by decide) (by decide)
noncomputable def rgC : Nat → Nat → Mem → Nat → Int32 → Int32 → Int32 → Option (Int32 × Mem)
  | 0, _, _, _, _, _, _ => none
  | n + 1, _, M, a0, a1, a2, a3 => bX12_bows (rgC n 0) M a0 a1 a2 a3
set_option maxRecDepth 100000 in
theorem rgC_c {fx : Fx} {al : Bool} (r : Nat) : ∀ n : Nat, (∀ {M N : Mem} {a0 : Nat} {a1 : Int32} {a2 : Int32} {a3 : Int32} {xr : Int32}, rgC n 0 M a0 a1 a2 a3 = some (xr, N) → Ct fx yX12_bows cX12_bows 4 (some .int) (r + n + 0) 0 0 al [.ref a0, .int a1, .int a2, .int a3] M (some (.int xr)) N) := by
  intro n
  induction n with
  | zero => exact fun h => by cases (show (none : Option (Int32 × Mem)) = some _ from h)
  | succ n ih => exact fun h => tX12_bows_b (r + n) ih h
noncomputable def fX12_bows (M : Mem) (a0 : Nat) (a1 : Int32) (a2 : Int32) (a3 : Int32) : Option (Int32 × Mem) := rgC 24 0 M a0 a1 a2 a3
theorem tX12_bows (r : Nat) {fx : Fx} {al : Bool} {M N : Mem} {a0 : Nat} {a1 : Int32} {a2 : Int32} {a3 : Int32} {xr : Int32} (h : fX12_bows M a0 a1 a2 a3 = some (xr, N)) : Ct fx yX12_bows cX12_bows 4 (some .int) (r + 24) 0 0 al [.ref a0, .int a1, .int a2, .int a3] M (some (.int xr)) N := (rgC_c (fx := fx) (al := al) r 24) h
noncomputable def bX12_walks (F0 : Mem → Nat → Int32 → Int32 → Int32 → Option (Int32 × Mem)) (M : Mem) (a0 : Nat) (a1 : Int32) (a2 : Int32) (a3 : Int32) : Option (Int32 × Mem) :=
  if a2 = (0 : Int32) then (ck (isK M a0 12) <| bd (fX12_ran M a0 (11 : Int32)) fun x3 M3 => ck (isK M3 a0 12) <| rb (mR M3 a0 2) fun b5 => ck (isK M3 b5 14) <| ck (inb a1 (mG M3 b5)) <| bd (fX12_bows M3 a0 a1 (mI M3 b5 a1.toNatClampNeg) a3) fun x8 M8 => ck (isK M8 a0 12) <| rb (mR M8 a0 3) fun b10 => ck (isK M8 b10 14) <| ck (inb a1 (mG M8 b10)) <| some ((x8 - (mI M8 b10 a1.toNatClampNeg)), M8)) else if a2 = (1 : Int32) then (ck (isK M a0 12) <| bd (fX12_ran M a0 (20 : Int32)) fun x14 M14 => ck (isK M14 a0 12) <| bd (F0 M14 a0 a1 (0 : Int32) a3) fun x16 M16 => some ((x16 ^^^ (6 : Int32)), M16)) else if a2 = (2 : Int32) then (bd (fX12_above M a2) fun x17 M17 => ck (isK M17 a0 12) <| bd (F0 M17 a0 a1 x17 a3) fun x19 M19 => some (x19, M19)) else if a2 = (3 : Int32) then (bd (fX12_above M a2) fun x20 M20 => ck (isK M20 a0 12) <| bd (F0 M20 a0 a1 x20 a3) fun x22 M22 => some (x22, M22)) else if a2 = (4 : Int32) then (ck (isK M a0 12) <| bd (fX12_ran M a0 (51 : Int32)) fun x24 M24 => ck (isK M24 a0 12) <| bd (F0 M24 a0 a1 (1 : Int32) (a3 + (1 : Int32))) fun x26 M26 => some (x26, M26)) else if a2 = (5 : Int32) then (bd (fX12_above M a2) fun x27 M27 => ck (isK M27 a0 12) <| bd (F0 M27 a0 a1 x27 a3) fun x29 M29 => some (x29, M29)) else if a2 = (6 : Int32) then (ck (isK M a0 12) <| bd (fX12_ran M a0 (70 : Int32)) fun x31 M31 => ck (isK M31 a0 12) <| bd (F0 M31 a0 a1 (3 : Int32) a3) fun x33 M33 => ck (isK M33 a0 12) <| bd (fX12_bows M33 a0 a1 (3 : Int32) (2 : Int32)) fun x35 M35 => some ((x33 + x35), M35)) else (bd (fX12_above M a2) fun x36 M36 => ck (isK M36 a0 12) <| bd (F0 M36 a0 a1 x36 a3) fun x38 M38 => some (x38, M38))
set_option maxRecDepth 100000 in
set_option maxHeartbeats 4000000 in
theorem tX12_walks_b (r : Nat) {fx : Fx} {al : Bool} {M N : Mem} {a0 : Nat} {a1 : Int32} {a2 : Int32} {a3 : Int32} {xr : Int32} {F0 : Mem → Nat → Int32 → Int32 → Int32 → Option (Int32 × Mem)} (hF0 : ∀ {M N : Mem} {a0 : Nat} {a1 : Int32} {a2 : Int32} {a3 : Int32} {xr : Int32}, F0 M a0 a1 a2 a3 = some (xr, N) → Ct fx yX12_walks cX12_walks 5 (some .int) (r + 24) 0 0 al [.ref a0, .int a1, .int a2, .int a3] M (some (.int xr)) N) (h : bX12_walks F0 M a0 a1 a2 a3 = some (xr, N)) : Ct fx yX12_walks cX12_walks 5 (some .int) (r + 25) 0 0 al [.ref a0, .int a1, .int a2, .int a3] M (some (.int xr)) N := by
  refine ct_of (lv := [some (.ref a0), some (.int a1), some (.int a2), some (.int a3), none]) (by decide) (Nat.le_of_ble_eq_true rfl) rfl rfl (fun z hz => ?_)
  unfold bX12_walks at h
  refine v_iload_n hz rfl rfl dX12_walks_0 ?_
  by_cases hs1_0 : a2 = (0 : Int32)
  · replace h := (if_pos hs1_0).symm.trans h
    refine v_tableAt (tgt := 103) hz hs1_0 dX12_walks_1 (by decide) (by decide) (by decide) (by decide) ?_
    refine v_aload_n hz rfl rfl dX12_walks_103 ?_
    refine v_bipush hz (v := (11 : Int32)) (by decide) dX12_walks_104 ?_
    obtain ⟨ck2, h⟩ := ck_inv h
    obtain ⟨ka2, kb2⟩ := isK_of ck2
    obtain ⟨x3, M3, e3, h⟩ := bd_inv h
    refine v_callV hz (As := [.int (11 : Int32)]) vl_X12_298 (tX12_ran (r + 24) e3) rfl (by decide) ka2 kb2 rfl rfl rfl (Nat.le_of_ble_eq_true rfl) ⟨by decide, by decide⟩ dX12_walks_106 ?_
    show V z 109 [some (.ref a0), some (.int a1), some (.int a2), some (.int a3), none] [] M3 0 0
    refine v_aload_n hz rfl rfl dX12_walks_109 ?_
    refine v_iload_n hz rfl rfl dX12_walks_110 ?_
    refine v_aload_n hz rfl rfl dX12_walks_111 ?_
    obtain ⟨ck4, h⟩ := ck_inv h
    obtain ⟨ka4, kb4⟩ := isK_of ck4
    obtain ⟨b5, r5, h⟩ := rb_inv h
    refine v_getR hz fl_X12_15 rfl dX12_walks_112 ka4 kb4 r5 ?_
    refine v_iload_n hz rfl rfl dX12_walks_115 ?_
    obtain ⟨ck6, h⟩ := ck_inv h
    obtain ⟨ka6, kb6⟩ := isK_of ck6
    obtain ⟨g7, h⟩ := ck_inv h
    refine v_iaload hz dX12_walks_116 ka6 kb6 g7 ?_
    refine v_iload_n hz rfl rfl dX12_walks_117 ?_
    obtain ⟨x8, M8, e8, h⟩ := bd_inv h
    refine v_callV hz (As := [.int a1, .int (mI M3 b5 a1.toNatClampNeg), .int a3]) vl_X12_302 (tX12_bows (r + 0) e8) rfl (by decide) ka4 kb4 rfl rfl rfl (Nat.le_of_ble_eq_true rfl) ⟨by decide, by decide⟩ dX12_walks_118 ?_
    show V z 121 [some (.ref a0), some (.int a1), some (.int a2), some (.int a3), none] [.int x8] M8 0 0
    refine v_aload_n hz rfl rfl dX12_walks_121 ?_
    obtain ⟨ck9, h⟩ := ck_inv h
    obtain ⟨ka9, kb9⟩ := isK_of ck9
    obtain ⟨b10, r10, h⟩ := rb_inv h
    refine v_getR hz fl_X12_18 rfl dX12_walks_122 ka9 kb9 r10 ?_
    refine v_iload_n hz rfl rfl dX12_walks_125 ?_
    obtain ⟨ck11, h⟩ := ck_inv h
    obtain ⟨ka11, kb11⟩ := isK_of ck11
    obtain ⟨g12, h⟩ := ck_inv h
    refine v_iaload hz dX12_walks_126 ka11 kb11 g12 ?_
    refine v_isub hz dX12_walks_127 ?_
    obtain ⟨rfl, rfl⟩ := sp_inv h
    exact v_iret hz dX12_walks_128 (by decide) (by decide)
  replace h := (if_neg hs1_0).symm.trans h
  by_cases hs1_1 : a2 = (1 : Int32)
  · replace h := (if_pos hs1_1).symm.trans h
    refine v_tableAt (tgt := 44) hz hs1_1 dX12_walks_1 (by decide) (by decide) (by decide) (by decide) ?_
    refine v_aload_n hz rfl rfl dX12_walks_44 ?_
    refine v_bipush hz (v := (20 : Int32)) (by decide) dX12_walks_45 ?_
    obtain ⟨ck13, h⟩ := ck_inv h
    obtain ⟨ka13, kb13⟩ := isK_of ck13
    obtain ⟨x14, M14, e14, h⟩ := bd_inv h
    refine v_callV hz (As := [.int (20 : Int32)]) vl_X12_298 (tX12_ran (r + 24) e14) rfl (by decide) ka13 kb13 rfl rfl rfl (Nat.le_of_ble_eq_true rfl) ⟨by decide, by decide⟩ dX12_walks_47 ?_
    show V z 50 [some (.ref a0), some (.int a1), some (.int a2), some (.int a3), none] [] M14 0 0
    refine v_aload_n hz rfl rfl dX12_walks_50 ?_
    refine v_iload_n hz rfl rfl dX12_walks_51 ?_
    refine v_iconst hz (v := (0 : Int32)) (by decide) dX12_walks_52 ?_
    refine v_iload_n hz rfl rfl dX12_walks_53 ?_
    obtain ⟨ck15, h⟩ := ck_inv h
    obtain ⟨ka15, kb15⟩ := isK_of ck15
    obtain ⟨x16, M16, e16, h⟩ := bd_inv h
    refine v_callV hz (As := [.int a1, .int (0 : Int32), .int a3]) vl_X12_308 (hF0 e16) rfl (by decide) ka15 kb15 rfl rfl rfl (Nat.le_of_ble_eq_true rfl) ⟨by decide, by decide⟩ dX12_walks_54 ?_
    show V z 57 [some (.ref a0), some (.int a1), some (.int a2), some (.int a3), none] [.int x16] M16 0 0
    refine v_bipush hz (v := (6 : Int32)) (by decide) dX12_walks_57 ?_
    refine v_ixor hz dX12_walks_59 ?_
    obtain ⟨rfl, rfl⟩ := sp_inv h
    exact v_iret hz dX12_walks_60 (by decide) (by decide)
  replace h := (if_neg hs1_1).symm.trans h
  by_cases hs1_2 : a2 = (2 : Int32)
  · replace h := (if_pos hs1_2).symm.trans h
    refine v_tableAt (tgt := 129) hz hs1_2 dX12_walks_1 (by decide) (by decide) (by decide) (by decide) ?_
    refine v_aload_n hz rfl rfl dX12_walks_129 ?_
    refine v_iload_n hz rfl rfl dX12_walks_130 ?_
    refine v_iload_n hz rfl rfl dX12_walks_131 ?_
    obtain ⟨x17, M17, e17, h⟩ := bd_inv h
    refine v_callS hz (As := [.int a2]) sl_X12_305 (tX12_above (r + 24) e17) rfl rfl rfl (Nat.le_of_ble_eq_true rfl) ⟨by decide, by decide⟩ dX12_walks_132 ?_
    show V z 135 [some (.ref a0), some (.int a1), some (.int a2), some (.int a3), none] [.int x17, .int a1, .ref a0] M17 0 0
    refine v_iload_n hz rfl rfl dX12_walks_135 ?_
    obtain ⟨ck18, h⟩ := ck_inv h
    obtain ⟨ka18, kb18⟩ := isK_of ck18
    obtain ⟨x19, M19, e19, h⟩ := bd_inv h
    refine v_callV hz (As := [.int a1, .int x17, .int a3]) vl_X12_308 (hF0 e19) rfl (by decide) ka18 kb18 rfl rfl rfl (Nat.le_of_ble_eq_true rfl) ⟨by decide, by decide⟩ dX12_walks_136 ?_
    show V z 139 [some (.ref a0), some (.int a1), some (.int a2), some (.int a3), none] [.int x19] M19 0 0
    obtain ⟨rfl, rfl⟩ := sp_inv h
    exact v_iret hz dX12_walks_139 (by decide) (by decide)
  replace h := (if_neg hs1_2).symm.trans h
  by_cases hs1_3 : a2 = (3 : Int32)
  · replace h := (if_pos hs1_3).symm.trans h
    refine v_tableAt (tgt := 129) hz hs1_3 dX12_walks_1 (by decide) (by decide) (by decide) (by decide) ?_
    refine v_aload_n hz rfl rfl dX12_walks_129 ?_
    refine v_iload_n hz rfl rfl dX12_walks_130 ?_
    refine v_iload_n hz rfl rfl dX12_walks_131 ?_
    obtain ⟨x20, M20, e20, h⟩ := bd_inv h
    refine v_callS hz (As := [.int a2]) sl_X12_305 (tX12_above (r + 24) e20) rfl rfl rfl (Nat.le_of_ble_eq_true rfl) ⟨by decide, by decide⟩ dX12_walks_132 ?_
    show V z 135 [some (.ref a0), some (.int a1), some (.int a2), some (.int a3), none] [.int x20, .int a1, .ref a0] M20 0 0
    refine v_iload_n hz rfl rfl dX12_walks_135 ?_
    obtain ⟨ck21, h⟩ := ck_inv h
    obtain ⟨ka21, kb21⟩ := isK_of ck21
    obtain ⟨x22, M22, e22, h⟩ := bd_inv h
    refine v_callV hz (As := [.int a1, .int x20, .int a3]) vl_X12_308 (hF0 e22) rfl (by decide) ka21 kb21 rfl rfl rfl (Nat.le_of_ble_eq_true rfl) ⟨by decide, by decide⟩ dX12_walks_136 ?_
    show V z 139 [some (.ref a0), some (.int a1), some (.int a2), some (.int a3), none] [.int x22] M22 0 0
    obtain ⟨rfl, rfl⟩ := sp_inv h
    exact v_iret hz dX12_walks_139 (by decide) (by decide)
  replace h := (if_neg hs1_3).symm.trans h
  by_cases hs1_4 : a2 = (4 : Int32)
  · replace h := (if_pos hs1_4).symm.trans h
    refine v_tableAt (tgt := 61) hz hs1_4 dX12_walks_1 (by decide) (by decide) (by decide) (by decide) ?_
    refine v_aload_n hz rfl rfl dX12_walks_61 ?_
    refine v_bipush hz (v := (51 : Int32)) (by decide) dX12_walks_62 ?_
    obtain ⟨ck23, h⟩ := ck_inv h
    obtain ⟨ka23, kb23⟩ := isK_of ck23
    obtain ⟨x24, M24, e24, h⟩ := bd_inv h
    refine v_callV hz (As := [.int (51 : Int32)]) vl_X12_298 (tX12_ran (r + 24) e24) rfl (by decide) ka23 kb23 rfl rfl rfl (Nat.le_of_ble_eq_true rfl) ⟨by decide, by decide⟩ dX12_walks_64 ?_
    show V z 67 [some (.ref a0), some (.int a1), some (.int a2), some (.int a3), none] [] M24 0 0
    refine v_aload_n hz rfl rfl dX12_walks_67 ?_
    refine v_iload_n hz rfl rfl dX12_walks_68 ?_
    refine v_iconst hz (v := (1 : Int32)) (by decide) dX12_walks_69 ?_
    refine v_iload_n hz rfl rfl dX12_walks_70 ?_
    refine v_iconst hz (v := (1 : Int32)) (by decide) dX12_walks_71 ?_
    refine v_iadd hz dX12_walks_72 ?_
    obtain ⟨ck25, h⟩ := ck_inv h
    obtain ⟨ka25, kb25⟩ := isK_of ck25
    obtain ⟨x26, M26, e26, h⟩ := bd_inv h
    refine v_callV hz (As := [.int a1, .int (1 : Int32), .int (a3 + (1 : Int32))]) vl_X12_308 (hF0 e26) rfl (by decide) ka25 kb25 rfl rfl rfl (Nat.le_of_ble_eq_true rfl) ⟨by decide, by decide⟩ dX12_walks_73 ?_
    show V z 76 [some (.ref a0), some (.int a1), some (.int a2), some (.int a3), none] [.int x26] M26 0 0
    obtain ⟨rfl, rfl⟩ := sp_inv h
    exact v_iret hz dX12_walks_76 (by decide) (by decide)
  replace h := (if_neg hs1_4).symm.trans h
  by_cases hs1_5 : a2 = (5 : Int32)
  · replace h := (if_pos hs1_5).symm.trans h
    refine v_tableAt (tgt := 129) hz hs1_5 dX12_walks_1 (by decide) (by decide) (by decide) (by decide) ?_
    refine v_aload_n hz rfl rfl dX12_walks_129 ?_
    refine v_iload_n hz rfl rfl dX12_walks_130 ?_
    refine v_iload_n hz rfl rfl dX12_walks_131 ?_
    obtain ⟨x27, M27, e27, h⟩ := bd_inv h
    refine v_callS hz (As := [.int a2]) sl_X12_305 (tX12_above (r + 24) e27) rfl rfl rfl (Nat.le_of_ble_eq_true rfl) ⟨by decide, by decide⟩ dX12_walks_132 ?_
    show V z 135 [some (.ref a0), some (.int a1), some (.int a2), some (.int a3), none] [.int x27, .int a1, .ref a0] M27 0 0
    refine v_iload_n hz rfl rfl dX12_walks_135 ?_
    obtain ⟨ck28, h⟩ := ck_inv h
    obtain ⟨ka28, kb28⟩ := isK_of ck28
    obtain ⟨x29, M29, e29, h⟩ := bd_inv h
    refine v_callV hz (As := [.int a1, .int x27, .int a3]) vl_X12_308 (hF0 e29) rfl (by decide) ka28 kb28 rfl rfl rfl (Nat.le_of_ble_eq_true rfl) ⟨by decide, by decide⟩ dX12_walks_136 ?_
    show V z 139 [some (.ref a0), some (.int a1), some (.int a2), some (.int a3), none] [.int x29] M29 0 0
    obtain ⟨rfl, rfl⟩ := sp_inv h
    exact v_iret hz dX12_walks_139 (by decide) (by decide)
  replace h := (if_neg hs1_5).symm.trans h
  by_cases hs1_6 : a2 = (6 : Int32)
  · replace h := (if_pos hs1_6).symm.trans h
    refine v_tableAt (tgt := 77) hz hs1_6 dX12_walks_1 (by decide) (by decide) (by decide) (by decide) ?_
    refine v_aload_n hz rfl rfl dX12_walks_77 ?_
    refine v_bipush hz (v := (70 : Int32)) (by decide) dX12_walks_78 ?_
    obtain ⟨ck30, h⟩ := ck_inv h
    obtain ⟨ka30, kb30⟩ := isK_of ck30
    obtain ⟨x31, M31, e31, h⟩ := bd_inv h
    refine v_callV hz (As := [.int (70 : Int32)]) vl_X12_298 (tX12_ran (r + 24) e31) rfl (by decide) ka30 kb30 rfl rfl rfl (Nat.le_of_ble_eq_true rfl) ⟨by decide, by decide⟩ dX12_walks_80 ?_
    show V z 83 [some (.ref a0), some (.int a1), some (.int a2), some (.int a3), none] [] M31 0 0
    refine v_aload_n hz rfl rfl dX12_walks_83 ?_
    refine v_iload_n hz rfl rfl dX12_walks_84 ?_
    refine v_iconst hz (v := (3 : Int32)) (by decide) dX12_walks_85 ?_
    refine v_iload_n hz rfl rfl dX12_walks_86 ?_
    obtain ⟨ck32, h⟩ := ck_inv h
    obtain ⟨ka32, kb32⟩ := isK_of ck32
    obtain ⟨x33, M33, e33, h⟩ := bd_inv h
    refine v_callV hz (As := [.int a1, .int (3 : Int32), .int a3]) vl_X12_308 (hF0 e33) rfl (by decide) ka32 kb32 rfl rfl rfl (Nat.le_of_ble_eq_true rfl) ⟨by decide, by decide⟩ dX12_walks_87 ?_
    show V z 90 [some (.ref a0), some (.int a1), some (.int a2), some (.int a3), none] [.int x33] M33 0 0
    refine v_istore hz (lw := [some (.ref a0), some (.int a1), some (.int a2), some (.int a3), some (.int x33)]) (Nat.le_of_ble_eq_true rfl) rfl rfl dX12_walks_90 ?_
    refine v_iload hz rfl dX12_walks_92 ?_
    refine v_aload_n hz rfl rfl dX12_walks_94 ?_
    refine v_iload_n hz rfl rfl dX12_walks_95 ?_
    refine v_iconst hz (v := (3 : Int32)) (by decide) dX12_walks_96 ?_
    refine v_iconst hz (v := (2 : Int32)) (by decide) dX12_walks_97 ?_
    obtain ⟨ck34, h⟩ := ck_inv h
    obtain ⟨ka34, kb34⟩ := isK_of ck34
    obtain ⟨x35, M35, e35, h⟩ := bd_inv h
    refine v_callV hz (As := [.int a1, .int (3 : Int32), .int (2 : Int32)]) vl_X12_302 (tX12_bows (r + 0) e35) rfl (by decide) ka34 kb34 rfl rfl rfl (Nat.le_of_ble_eq_true rfl) ⟨by decide, by decide⟩ dX12_walks_98 ?_
    show V z 101 [some (.ref a0), some (.int a1), some (.int a2), some (.int a3), some (.int x33)] [.int x35, .int x33] M35 0 0
    refine v_iadd hz dX12_walks_101 ?_
    obtain ⟨rfl, rfl⟩ := sp_inv h
    exact v_iret hz dX12_walks_102 (by decide) (by decide)
  replace h := (if_neg hs1_6).symm.trans h
  refine v_tableOut (tgt := 129) hz dX12_walks_1 (by have q0 := lv_neT hs1_0 (show ((0 : Int32)).toInt = 0 by decide); have q1 := lv_neT hs1_1 (show ((1 : Int32)).toInt = 1 by decide); have q2 := lv_neT hs1_2 (show ((2 : Int32)).toInt = 2 by decide); have q3 := lv_neT hs1_3 (show ((3 : Int32)).toInt = 3 by decide); have q4 := lv_neT hs1_4 (show ((4 : Int32)).toInt = 4 by decide); have q5 := lv_neT hs1_5 (show ((5 : Int32)).toInt = 5 by decide); have q6 := lv_neT hs1_6 (show ((6 : Int32)).toInt = 6 by decide); omega) (by decide) ?_
  refine v_aload_n hz rfl rfl dX12_walks_129 ?_
  refine v_iload_n hz rfl rfl dX12_walks_130 ?_
  refine v_iload_n hz rfl rfl dX12_walks_131 ?_
  obtain ⟨x36, M36, e36, h⟩ := bd_inv h
  refine v_callS hz (As := [.int a2]) sl_X12_305 (tX12_above (r + 24) e36) rfl rfl rfl (Nat.le_of_ble_eq_true rfl) ⟨by decide, by decide⟩ dX12_walks_132 ?_
  show V z 135 [some (.ref a0), some (.int a1), some (.int a2), some (.int a3), none] [.int x36, .int a1, .ref a0] M36 0 0
  refine v_iload_n hz rfl rfl dX12_walks_135 ?_
  obtain ⟨ck37, h⟩ := ck_inv h
  obtain ⟨ka37, kb37⟩ := isK_of ck37
  obtain ⟨x38, M38, e38, h⟩ := bd_inv h
  refine v_callV hz (As := [.int a1, .int x36, .int a3]) vl_X12_308 (hF0 e38) rfl (by decide) ka37 kb37 rfl rfl rfl (Nat.le_of_ble_eq_true rfl) ⟨by decide, by decide⟩ dX12_walks_136 ?_
  show V z 139 [some (.ref a0), some (.int a1), some (.int a2), some (.int a3), none] [.int x38] M38 0 0
  obtain ⟨rfl, rfl⟩ := sp_inv h
  exact v_iret hz dX12_walks_139 (by decide) (by decide)
noncomputable def rgD : Nat → Nat → Mem → Nat → Int32 → Int32 → Int32 → Option (Int32 × Mem)
  | 0, _, _, _, _, _, _ => none
  | n + 1, _, M, a0, a1, a2, a3 => bX12_walks (rgD n 0) M a0 a1 a2 a3
set_option maxRecDepth 100000 in
theorem rgD_c {fx : Fx} {al : Bool} (r : Nat) : ∀ n : Nat, (∀ {M N : Mem} {a0 : Nat} {a1 : Int32} {a2 : Int32} {a3 : Int32} {xr : Int32}, rgD n 0 M a0 a1 a2 a3 = some (xr, N) → Ct fx yX12_walks cX12_walks 5 (some .int) (r + n + 24) 0 0 al [.ref a0, .int a1, .int a2, .int a3] M (some (.int xr)) N) := by
  intro n
  induction n with
  | zero => exact fun h => by cases (show (none : Option (Int32 × Mem)) = some _ from h)
  | succ n ih => exact fun h => tX12_walks_b (r + n) ih h
noncomputable def fX12_walks (M : Mem) (a0 : Nat) (a1 : Int32) (a2 : Int32) (a3 : Int32) : Option (Int32 × Mem) := rgD 24 0 M a0 a1 a2 a3
theorem tX12_walks (r : Nat) {fx : Fx} {al : Bool} {M N : Mem} {a0 : Nat} {a1 : Int32} {a2 : Int32} {a3 : Int32} {xr : Int32} (h : fX12_walks M a0 a1 a2 a3 = some (xr, N)) : Ct fx yX12_walks cX12_walks 5 (some .int) (r + 48) 0 0 al [.ref a0, .int a1, .int a2, .int a3] M (some (.int xr)) N := (rgD_c (fx := fx) (al := al) r 24) h
