noncomputable def gX11_tape_65  : Nat → Mem → Nat → Int32 → Int32 → Int32 → Option (Int32 × Mem)
  | 0, _, _, _, _, _ => none
  | n + 1, M, l0, l1, l3, l4 => if l3 ≤ l4 then (some ((1 : Int32), M)) else (ck (isK M l0 11) <| rb (mR M l0 17) fun b10 => ck (isK M b10 15) <| ck (inb ((l1 * (60 : Int32)) + l4) (mG M b10)) <| (gX11_tape_65 n) (stL M b10 ((l1 * (60 : Int32)) + l4).toNatClampNeg (0 : Int64)) l0 l1 l3 (l4 + (1 : Int32)))
noncomputable def fX11_tape (M : Mem) (a0 : Nat) (a1 : Int32) (a2 : Int32) (a3 : Int32) : Option (Int32 × Mem) :=
  bd (fX11_isTape M a1) fun x1 M1 => if x1 = 0 then (some ((-1 : Int32), M1)) else (if a2 = (-1 : Int32) then (ck (isK M1 a0 11) <| rb (mR M1 a0 15) fun b14 => ck (isK M1 b14 14) <| ck (inb a1 (mG M1 b14)) <| some ((1 : Int32), (stI M1 b14 a1.toNatClampNeg (-1 : Int32)))) else (if a2 < 0 then (some ((-2 : Int32), M1)) else (if (5 : Int32) ≤ a2 then (some ((-2 : Int32), M1)) else (if a3 ≤ (60 : Int32) then (if 0 ≤ a3 then (ck (isK M1 a0 11) <| rb (mR M1 a0 15) fun b3 => ck (isK M1 b3 14) <| ck (inb a1 (mG M1 b3)) <| rb (mR (stI M1 b3 a1.toNatClampNeg a2) a0 16) fun b6 => ck (isK M1 b6 14) <| ck (inb a1 (mG M1 b6)) <| gX11_tape_65 FU (stI (stI M1 b3 a1.toNatClampNeg a2) b6 a1.toNatClampNeg a3) a0 a1 a3 (0 : Int32)) else (some ((-14 : Int32), M1))) else (some ((-2 : Int32), M1))))))
set_option maxRecDepth 100000 in
set_option maxHeartbeats 4000000 in
theorem gX11_tape_65_s  (n : Nat) (M : Mem) (l0 : Nat) (l1 : Int32) (l3 : Int32) (l4 : Int32) : gX11_tape_65  (n + 1) M l0 l1 l3 l4 = (if l3 ≤ l4 then (some ((1 : Int32), M)) else (ck (isK M l0 11) <| rb (mR M l0 17) fun b10 => ck (isK M b10 15) <| ck (inb ((l1 * (60 : Int32)) + l4) (mG M b10)) <| (gX11_tape_65 n) (stL M b10 ((l1 * (60 : Int32)) + l4).toNatClampNeg (0 : Int64)) l0 l1 l3 (l4 + (1 : Int32)))) := rfl
set_option maxRecDepth 100000 in
set_option maxHeartbeats 4000000 in
theorem wX11_tape_65 {z : Zx} {fx : Fx} {al : Bool} {r : Nat} {N : Mem} {xr : Int32} (hz : Zok z fx al yX11_tape.cls yX11_tape.name cX11_tape (some .int) 5 (r + 1) 0 0 (some (.int xr)) N)    : ∀ {n : Nat} {M : Mem} {l0 : Nat} {l1 : Int32} {l3 : Int32} {l4 : Int32}, gX11_tape_65  n M l0 l1 l3 l4 = some (xr, N) → V z 65 [some (.ref l0), some (.int l1), none, some (.int l3), some (.int l4)] [] M 0 0 := by
  intro n
  induction n with
  | zero => intro M l0 l1 l3 l4 h; cases h
  | succ n ih =>
    intro M l0 l1 l3 l4 h
    replace h := (gX11_tape_65_s  n M l0 l1 l3 l4).symm.trans h
    refine v_iload hz rfl dX11_tape_65 ?_
    refine v_iload_n hz rfl rfl dX11_tape_67 ?_
    refine v_icmp_ge (tgt := 90) hz dX11_tape_68 (by decide) (fun hc => ?_) (fun hc => ?_)
    · replace h := (if_pos hc).symm.trans h
      refine v_iconst hz (v := (1 : Int32)) (by decide) dX11_tape_90 ?_
      obtain ⟨rfl, rfl⟩ := sp_inv h
      exact v_iret hz dX11_tape_91 (by decide) (by decide)
    · replace h := (if_neg hc).symm.trans h
      refine v_aload_n hz rfl rfl dX11_tape_71 ?_
      obtain ⟨ck9, h⟩ := ck_inv h
      obtain ⟨ka9, kb9⟩ := isK_of ck9
      obtain ⟨b10, r10, h⟩ := rb_inv h
      refine v_getR hz fl_X11_60 rfl dX11_tape_72 ka9 kb9 r10 ?_
      refine v_iload_n hz rfl rfl dX11_tape_75 ?_
      refine v_bipush hz (v := (60 : Int32)) (by decide) dX11_tape_76 ?_
      refine v_imul hz dX11_tape_78 ?_
      refine v_iload hz rfl dX11_tape_79 ?_
      refine v_iadd hz dX11_tape_81 ?_
      refine v_lconst hz (v := (0 : Int64)) (by decide) dX11_tape_82 ?_
      obtain ⟨ck11, h⟩ := ck_inv h
      obtain ⟨ka11, kb11⟩ := isK_of ck11
      obtain ⟨g12, h⟩ := ck_inv h
      refine v_lastore hz dX11_tape_83 ka11 kb11 g12 ?_
      refine v_iinc hz (v := (l4 + (1 : Int32))) (lw := [some (.ref l0), some (.int l1), none, some (.int l3), some (.int (l4 + (1 : Int32)))]) rfl (congrArg (fun q => l4 + q) (show Int32.ofInt (1) = (1 : Int32) by decide)) rfl rfl dX11_tape_84 ?_
      refine v_goto (tgt := 65) hz dX11_tape_87 (by decide) ?_
      exact v_weak (lvle_s (lvle_s (lvle_n (lvle_s (lvle_s lvle_0))))) (ih h)
set_option maxRecDepth 100000 in
set_option maxHeartbeats 4000000 in
theorem tX11_tape (r : Nat) {fx : Fx} {al : Bool} {M N : Mem} {a0 : Nat} {a1 : Int32} {a2 : Int32} {a3 : Int32} {xr : Int32}  (h : fX11_tape M a0 a1 a2 a3 = some (xr, N)) : Ct fx yX11_tape cX11_tape 5 (some .int) (r + 1) 0 0 al [.ref a0, .int a1, .int a2, .int a3] M (some (.int xr)) N := by
  refine ct_of (lv := [some (.ref a0), some (.int a1), some (.int a2), some (.int a3), none]) (by decide) (Nat.le_of_ble_eq_true rfl) rfl rfl (fun z hz => ?_)
  unfold fX11_tape at h
  refine v_iload_n hz rfl rfl dX11_tape_0 ?_
  obtain ⟨x1, M1, e1, h⟩ := bd_inv h
  refine v_callS hz (As := [.int a1]) sl_X11_235 (tX11_isTape (r + 0) e1) rfl rfl rfl (Nat.le_of_ble_eq_true rfl) ⟨by decide, by decide⟩ dX11_tape_1 ?_
  show V z 4 [some (.ref a0), some (.int a1), some (.int a2), some (.int a3), none] [.int x1] M1 0 0
  refine v_if_ne (tgt := 9) hz dX11_tape_4 (by decide) (fun hc => ?_) (fun hc => ?_)
  · replace h := (if_neg hc).symm.trans h
    refine v_iload_n hz rfl rfl dX11_tape_9 ?_
    refine v_iconst hz (v := (-1 : Int32)) (by decide) dX11_tape_10 ?_
    refine v_icmp_ne (tgt := 23) hz dX11_tape_11 (by decide) (fun hc => ?_) (fun hc => ?_)
    · replace h := (if_neg hc).symm.trans h
      refine v_iload_n hz rfl rfl dX11_tape_23 ?_
      refine v_if_lt (tgt := 38) hz dX11_tape_24 (by decide) (fun hc => ?_) (fun hc => ?_)
      · replace h := (if_pos hc).symm.trans h
        refine v_bipush hz (v := (-2 : Int32)) (by decide) dX11_tape_38 ?_
        obtain ⟨rfl, rfl⟩ := sp_inv h
        exact v_iret hz dX11_tape_40 (by decide) (by decide)
      · replace h := (if_neg hc).symm.trans h
        refine v_iload_n hz rfl rfl dX11_tape_27 ?_
        refine v_iconst hz (v := (5 : Int32)) (by decide) dX11_tape_28 ?_
        refine v_icmp_ge (tgt := 38) hz dX11_tape_29 (by decide) (fun hc => ?_) (fun hc => ?_)
        · replace h := (if_pos hc).symm.trans h
          refine v_bipush hz (v := (-2 : Int32)) (by decide) dX11_tape_38 ?_
          obtain ⟨rfl, rfl⟩ := sp_inv h
          exact v_iret hz dX11_tape_40 (by decide) (by decide)
        · replace h := (if_neg hc).symm.trans h
          refine v_iload_n hz rfl rfl dX11_tape_32 ?_
          refine v_bipush hz (v := (60 : Int32)) (by decide) dX11_tape_33 ?_
          refine v_icmp_le (tgt := 41) hz dX11_tape_35 (by decide) (fun hc => ?_) (fun hc => ?_)
          · replace h := (if_pos hc).symm.trans h
            refine v_iload_n hz rfl rfl dX11_tape_41 ?_
            refine v_if_ge (tgt := 48) hz dX11_tape_42 (by decide) (fun hc => ?_) (fun hc => ?_)
            · replace h := (if_pos hc).symm.trans h
              refine v_aload_n hz rfl rfl dX11_tape_48 ?_
              obtain ⟨ck2, h⟩ := ck_inv h
              obtain ⟨ka2, kb2⟩ := isK_of ck2
              obtain ⟨b3, r3, h⟩ := rb_inv h
              refine v_getR hz fl_X11_53 rfl dX11_tape_49 ka2 kb2 r3 ?_
              refine v_iload_n hz rfl rfl dX11_tape_52 ?_
              refine v_iload_n hz rfl rfl dX11_tape_53 ?_
              obtain ⟨ck4, h⟩ := ck_inv h
              obtain ⟨ka4, kb4⟩ := isK_of ck4
              obtain ⟨g5, h⟩ := ck_inv h
              refine v_iastore hz dX11_tape_54 ka4 kb4 g5 ?_
              refine v_aload_n hz rfl rfl dX11_tape_55 ?_
              obtain ⟨b6, r6, h⟩ := rb_inv h
              refine v_getR hz fl_X11_57 rfl dX11_tape_56 ka2 kb2 r6 ?_
              refine v_iload_n hz rfl rfl dX11_tape_59 ?_
              refine v_iload_n hz rfl rfl dX11_tape_60 ?_
              obtain ⟨ck7, h⟩ := ck_inv h
              obtain ⟨ka7, kb7⟩ := isK_of ck7
              obtain ⟨g8, h⟩ := ck_inv h
              refine v_iastore hz dX11_tape_61 ka7 kb7 g8 ?_
              refine v_iconst hz (v := (0 : Int32)) (by decide) dX11_tape_62 ?_
              refine v_istore hz (lw := [some (.ref a0), some (.int a1), some (.int a2), some (.int a3), some (.int (0 : Int32))]) (Nat.le_of_ble_eq_true rfl) rfl rfl dX11_tape_63 ?_
              exact v_weak (lvle_s (lvle_s (lvle_n (lvle_s (lvle_s lvle_0))))) (wX11_tape_65 hz   h)
            · replace h := (if_neg hc).symm.trans h
              refine v_bipush hz (v := (-14 : Int32)) (by decide) dX11_tape_45 ?_
              obtain ⟨rfl, rfl⟩ := sp_inv h
              exact v_iret hz dX11_tape_47 (by decide) (by decide)
          · replace h := (if_neg hc).symm.trans h
            refine v_bipush hz (v := (-2 : Int32)) (by decide) dX11_tape_38 ?_
            obtain ⟨rfl, rfl⟩ := sp_inv h
            exact v_iret hz dX11_tape_40 (by decide) (by decide)
    · replace h := (if_pos hc).symm.trans h
      refine v_aload_n hz rfl rfl dX11_tape_14 ?_
      obtain ⟨ck13, h⟩ := ck_inv h
      obtain ⟨ka13, kb13⟩ := isK_of ck13
      obtain ⟨b14, r14, h⟩ := rb_inv h
      refine v_getR hz fl_X11_53 rfl dX11_tape_15 ka13 kb13 r14 ?_
      refine v_iload_n hz rfl rfl dX11_tape_18 ?_
      refine v_iconst hz (v := (-1 : Int32)) (by decide) dX11_tape_19 ?_
      obtain ⟨ck15, h⟩ := ck_inv h
      obtain ⟨ka15, kb15⟩ := isK_of ck15
      obtain ⟨g16, h⟩ := ck_inv h
      refine v_iastore hz dX11_tape_20 ka15 kb15 g16 ?_
      refine v_iconst hz (v := (1 : Int32)) (by decide) dX11_tape_21 ?_
      obtain ⟨rfl, rfl⟩ := sp_inv h
      exact v_iret hz dX11_tape_22 (by decide) (by decide)
  · replace h := (if_pos hc).symm.trans h
    refine v_iconst hz (v := (-1 : Int32)) (by decide) dX11_tape_7 ?_
    obtain ⟨rfl, rfl⟩ := sp_inv h
    exact v_iret hz dX11_tape_8 (by decide) (by decide)
noncomputable def fX11_asItem (M : Mem) (a0 : Int32) (a1 : Int64) : Option (Int64 × Mem) :=
  if a0 = (0 : Int32) then (some (a1.toInt32.toInt8.toInt32.toInt64, M)) else if a0 = (1 : Int32) then (some (a1.toInt32.toInt16.toInt32.toInt64, M)) else if a0 = (2 : Int32) then (some (a1.toInt32.toInt64, M)) else if a0 = (3 : Int32) then (some (a1, M)) else if a0 = (4 : Int32) then (if (lg_cmp a1 (0 : Int64)) = 0 then (some ((0 : Int64), M)) else (some ((1 : Int64), M))) else (some (a1, M))
set_option maxRecDepth 100000 in
set_option maxHeartbeats 4000000 in
theorem tX11_asItem (r : Nat) {fx : Fx} {al : Bool} {M N : Mem} {a0 : Int32} {a1 : Int64} {xr : Int64}  (h : fX11_asItem M a0 a1 = some (xr, N)) : Ct fx yX11_asItem cX11_asItem 3 (some .long) (r + 0) 0 0 al [.int a0, .long a1] M (some (.long xr)) N := by
  refine ct_of (lv := [some (.int a0), some (.long a1), none]) (by decide) (Nat.le_of_ble_eq_true rfl) rfl rfl (fun z hz => ?_)
  unfold fX11_asItem at h
  refine v_iload_n hz rfl rfl dX11_asItem_0 ?_
  by_cases hs1_0 : a0 = (0 : Int32)
  · replace h := (if_pos hs1_0).symm.trans h
    refine v_tableAt (tgt := 36) hz hs1_0 dX11_asItem_1 (by decide) (by decide) (by decide) (by decide) ?_
    refine v_lload_n hz rfl rfl dX11_asItem_36 ?_
    refine v_l2i hz dX11_asItem_37 ?_
    refine v_i2b hz dX11_asItem_38 ?_
    refine v_i2l hz dX11_asItem_39 ?_
    obtain ⟨rfl, rfl⟩ := sp_inv h
    exact v_lret hz dX11_asItem_40 (by decide) (by decide)
  replace h := (if_neg hs1_0).symm.trans h
  by_cases hs1_1 : a0 = (1 : Int32)
  · replace h := (if_pos hs1_1).symm.trans h
    refine v_tableAt (tgt := 41) hz hs1_1 dX11_asItem_1 (by decide) (by decide) (by decide) (by decide) ?_
    refine v_lload_n hz rfl rfl dX11_asItem_41 ?_
    refine v_l2i hz dX11_asItem_42 ?_
    refine v_i2s hz dX11_asItem_43 ?_
    refine v_i2l hz dX11_asItem_44 ?_
    obtain ⟨rfl, rfl⟩ := sp_inv h
    exact v_lret hz dX11_asItem_45 (by decide) (by decide)
  replace h := (if_neg hs1_1).symm.trans h
  by_cases hs1_2 : a0 = (2 : Int32)
  · replace h := (if_pos hs1_2).symm.trans h
    refine v_tableAt (tgt := 46) hz hs1_2 dX11_asItem_1 (by decide) (by decide) (by decide) (by decide) ?_
    refine v_lload_n hz rfl rfl dX11_asItem_46 ?_
    refine v_l2i hz dX11_asItem_47 ?_
    refine v_i2l hz dX11_asItem_48 ?_
    obtain ⟨rfl, rfl⟩ := sp_inv h
    exact v_lret hz dX11_asItem_49 (by decide) (by decide)
  replace h := (if_neg hs1_2).symm.trans h
  by_cases hs1_3 : a0 = (3 : Int32)
  · replace h := (if_pos hs1_3).symm.trans h
    refine v_tableAt (tgt := 62) hz hs1_3 dX11_asItem_1 (by decide) (by decide) (by decide) (by decide) ?_
    refine v_lload_n hz rfl rfl dX11_asItem_62 ?_
    obtain ⟨rfl, rfl⟩ := sp_inv h
    exact v_lret hz dX11_asItem_63 (by decide) (by decide)
  replace h := (if_neg hs1_3).symm.trans h
  by_cases hs1_4 : a0 = (4 : Int32)
  · replace h := (if_pos hs1_4).symm.trans h
    refine v_tableAt (tgt := 50) hz hs1_4 dX11_asItem_1 (by decide) (by decide) (by decide) (by decide) ?_
    refine v_lload_n hz rfl rfl dX11_asItem_50 ?_
    refine v_lconst hz (v := (0 : Int64)) (by decide) dX11_asItem_51 ?_
    refine v_lcmp hz dX11_asItem_52 ?_
    refine v_if_eq (tgt := 60) hz dX11_asItem_53 (by decide) (fun hc => ?_) (fun hc => ?_)
    · replace h := (if_pos hc).symm.trans h
      refine v_lconst hz (v := (0 : Int64)) (by decide) dX11_asItem_60 ?_
      obtain ⟨rfl, rfl⟩ := sp_inv h
      exact v_lret hz dX11_asItem_61 (by decide) (by decide)
    · replace h := (if_neg hc).symm.trans h
      refine v_lconst hz (v := (1 : Int64)) (by decide) dX11_asItem_56 ?_
      refine v_goto (tgt := 61) hz dX11_asItem_57 (by decide) ?_
      obtain ⟨rfl, rfl⟩ := sp_inv h
      exact v_lret hz dX11_asItem_61 (by decide) (by decide)
  replace h := (if_neg hs1_4).symm.trans h
  refine v_tableOut (tgt := 62) hz dX11_asItem_1 (by have q0 := lv_neT hs1_0 (show ((0 : Int32)).toInt = 0 by decide); have q1 := lv_neT hs1_1 (show ((1 : Int32)).toInt = 1 by decide); have q2 := lv_neT hs1_2 (show ((2 : Int32)).toInt = 2 by decide); have q3 := lv_neT hs1_3 (show ((3 : Int32)).toInt = 3 by decide); have q4 := lv_neT hs1_4 (show ((4 : Int32)).toInt = 4 by decide); omega) (by decide) ?_
  refine v_lload_n hz rfl rfl dX11_asItem_62 ?_
  obtain ⟨rfl, rfl⟩ := sp_inv h
  exact v_lret hz dX11_asItem_63 (by decide) (by decide)
noncomputable def fX11_item (M : Mem) (a0 : Nat) (a1 : Int32) (a2 : Int32) (a3 : Int64) : Option (Int32 × Mem) :=
  bd (fX11_isTape M a1) fun x1 M1 => if x1 = 0 then (some ((-1 : Int32), M1)) else (ck (isK M1 a0 11) <| rb (mR M1 a0 15) fun b3 => ck (isK M1 b3 14) <| ck (inb a1 (mG M1 b3)) <| if (mI M1 b3 a1.toNatClampNeg) = (-1 : Int32) then (some ((-11 : Int32), M1)) else (if a2 < 0 then (some ((-13 : Int32), M1)) else (rb (mR M1 a0 16) fun b6 => ck (isK M1 b6 14) <| ck (inb a1 (mG M1 b6)) <| if a2 < (mI M1 b6 a1.toNatClampNeg) then (rb (mR M1 a0 17) fun b9 => ck (inb a1 (mG M1 b3)) <| bd (fX11_asItem M1 (mI M1 b3 a1.toNatClampNeg) a3) fun x11 M11 => ck (isK M11 b9 15) <| ck (inb ((a1 * (60 : Int32)) + a2) (mG M11 b9)) <| some ((1 : Int32), (stL M11 b9 ((a1 * (60 : Int32)) + a2).toNatClampNeg x11))) else (some ((-13 : Int32), M1)))))
set_option maxRecDepth 100000 in
set_option maxHeartbeats 4000000 in
theorem tX11_item (r : Nat) {fx : Fx} {al : Bool} {M N : Mem} {a0 : Nat} {a1 : Int32} {a2 : Int32} {a3 : Int64} {xr : Int32}  (h : fX11_item M a0 a1 a2 a3 = some (xr, N)) : Ct fx yX11_item cX11_item 5 (some .int) (r + 1) 0 0 al [.ref a0, .int a1, .int a2, .long a3] M (some (.int xr)) N := by
  refine ct_of (lv := [some (.ref a0), some (.int a1), some (.int a2), some (.long a3), none]) (by decide) (Nat.le_of_ble_eq_true rfl) rfl rfl (fun z hz => ?_)
  unfold fX11_item at h
  refine v_iload_n hz rfl rfl dX11_item_0 ?_
  obtain ⟨x1, M1, e1, h⟩ := bd_inv h
  refine v_callS hz (As := [.int a1]) sl_X11_235 (tX11_isTape (r + 0) e1) rfl rfl rfl (Nat.le_of_ble_eq_true rfl) ⟨by decide, by decide⟩ dX11_item_1 ?_
  show V z 4 [some (.ref a0), some (.int a1), some (.int a2), some (.long a3), none] [.int x1] M1 0 0
  refine v_if_ne (tgt := 9) hz dX11_item_4 (by decide) (fun hc => ?_) (fun hc => ?_)
  · replace h := (if_neg hc).symm.trans h
    refine v_aload_n hz rfl rfl dX11_item_9 ?_
    obtain ⟨ck2, h⟩ := ck_inv h
    obtain ⟨ka2, kb2⟩ := isK_of ck2
    obtain ⟨b3, r3, h⟩ := rb_inv h
    refine v_getR hz fl_X11_53 rfl dX11_item_10 ka2 kb2 r3 ?_
    refine v_iload_n hz rfl rfl dX11_item_13 ?_
    obtain ⟨ck4, h⟩ := ck_inv h
    obtain ⟨ka4, kb4⟩ := isK_of ck4
    obtain ⟨g5, h⟩ := ck_inv h
    refine v_iaload hz dX11_item_14 ka4 kb4 g5 ?_
    refine v_iconst hz (v := (-1 : Int32)) (by decide) dX11_item_15 ?_
    refine v_icmp_ne (tgt := 22) hz dX11_item_16 (by decide) (fun hc => ?_) (fun hc => ?_)
    · replace h := (if_neg hc).symm.trans h
      refine v_iload_n hz rfl rfl dX11_item_22 ?_
      refine v_if_lt (tgt := 36) hz dX11_item_23 (by decide) (fun hc => ?_) (fun hc => ?_)
      · replace h := (if_pos hc).symm.trans h
        refine v_bipush hz (v := (-13 : Int32)) (by decide) dX11_item_36 ?_
        obtain ⟨rfl, rfl⟩ := sp_inv h
        exact v_iret hz dX11_item_38 (by decide) (by decide)
      · replace h := (if_neg hc).symm.trans h
        refine v_iload_n hz rfl rfl dX11_item_26 ?_
        refine v_aload_n hz rfl rfl dX11_item_27 ?_
        obtain ⟨b6, r6, h⟩ := rb_inv h
        refine v_getR hz fl_X11_57 rfl dX11_item_28 ka2 kb2 r6 ?_
        refine v_iload_n hz rfl rfl dX11_item_31 ?_
        obtain ⟨ck7, h⟩ := ck_inv h
        obtain ⟨ka7, kb7⟩ := isK_of ck7
        obtain ⟨g8, h⟩ := ck_inv h
        refine v_iaload hz dX11_item_32 ka7 kb7 g8 ?_
        refine v_icmp_lt (tgt := 39) hz dX11_item_33 (by decide) (fun hc => ?_) (fun hc => ?_)
        · replace h := (if_pos hc).symm.trans h
          refine v_aload_n hz rfl rfl dX11_item_39 ?_
          obtain ⟨b9, r9, h⟩ := rb_inv h
          refine v_getR hz fl_X11_60 rfl dX11_item_40 ka2 kb2 r9 ?_
          refine v_iload_n hz rfl rfl dX11_item_43 ?_
          refine v_bipush hz (v := (60 : Int32)) (by decide) dX11_item_44 ?_
          refine v_imul hz dX11_item_46 ?_
          refine v_iload_n hz rfl rfl dX11_item_47 ?_
          refine v_iadd hz dX11_item_48 ?_
          refine v_aload_n hz rfl rfl dX11_item_49 ?_
          refine v_getR hz fl_X11_53 rfl dX11_item_50 ka2 kb2 r3 ?_
          refine v_iload_n hz rfl rfl dX11_item_53 ?_
          obtain ⟨g10, h⟩ := ck_inv h
          refine v_iaload hz dX11_item_54 ka4 kb4 g10 ?_
          refine v_lload_n hz rfl rfl dX11_item_55 ?_
          obtain ⟨x11, M11, e11, h⟩ := bd_inv h
          refine v_callS hz (As := [.int (mI M1 b3 a1.toNatClampNeg), .long a3]) sl_X11_272 (tX11_asItem (r + 0) e11) rfl rfl rfl (Nat.le_of_ble_eq_true rfl) ⟨by decide, by decide⟩ dX11_item_56 ?_
          show V z 59 [some (.ref a0), some (.int a1), some (.int a2), some (.long a3), none] [.long x11, .int ((a1 * (60 : Int32)) + a2), .ref b9] M11 0 0
          obtain ⟨ck12, h⟩ := ck_inv h
          obtain ⟨ka12, kb12⟩ := isK_of ck12
          obtain ⟨g13, h⟩ := ck_inv h
          refine v_lastore hz dX11_item_59 ka12 kb12 g13 ?_
          refine v_iconst hz (v := (1 : Int32)) (by decide) dX11_item_60 ?_
          obtain ⟨rfl, rfl⟩ := sp_inv h
          exact v_iret hz dX11_item_61 (by decide) (by decide)
        · replace h := (if_neg hc).symm.trans h
          refine v_bipush hz (v := (-13 : Int32)) (by decide) dX11_item_36 ?_
          obtain ⟨rfl, rfl⟩ := sp_inv h
          exact v_iret hz dX11_item_38 (by decide) (by decide)
    · replace h := (if_pos hc).symm.trans h
      refine v_bipush hz (v := (-11 : Int32)) (by decide) dX11_item_19 ?_
      obtain ⟨rfl, rfl⟩ := sp_inv h
      exact v_iret hz dX11_item_21 (by decide) (by decide)
  · replace h := (if_pos hc).symm.trans h
    refine v_iconst hz (v := (-1 : Int32)) (by decide) dX11_item_7 ?_
    obtain ⟨rfl, rfl⟩ := sp_inv h
    exact v_iret hz dX11_item_8 (by decide) (by decide)
noncomputable def fX11_read (M : Mem) (a0 : Nat) (a1 : Int32) (a2 : Int32) : Option (Int64 × Mem) :=
  bd (fX11_isTape M a1) fun x1 M1 => if x1 = 0 then (some ((-9223372036854775808 : Int64), M1)) else (ck (isK M1 a0 11) <| rb (mR M1 a0 15) fun b3 => ck (isK M1 b3 14) <| ck (inb a1 (mG M1 b3)) <| if (mI M1 b3 a1.toNatClampNeg) = (-1 : Int32) then (some ((-9223372036854775808 : Int64), M1)) else (if a2 < 0 then (some ((-9223372036854775808 : Int64), M1)) else (rb (mR M1 a0 16) fun b6 => ck (isK M1 b6 14) <| ck (inb a1 (mG M1 b6)) <| if a2 < (mI M1 b6 a1.toNatClampNeg) then (rb (mR M1 a0 17) fun b9 => ck (isK M1 b9 15) <| ck (inb ((a1 * (60 : Int32)) + a2) (mG M1 b9)) <| some ((mL M1 b9 ((a1 * (60 : Int32)) + a2).toNatClampNeg), M1)) else (some ((-9223372036854775808 : Int64), M1)))))
set_option maxRecDepth 100000 in
set_option maxHeartbeats 4000000 in
theorem tX11_read (r : Nat) {fx : Fx} {al : Bool} {M N : Mem} {a0 : Nat} {a1 : Int32} {a2 : Int32} {xr : Int64}  (h : fX11_read M a0 a1 a2 = some (xr, N)) : Ct fx yX11_read cX11_read 3 (some .long) (r + 1) 0 0 al [.ref a0, .int a1, .int a2] M (some (.long xr)) N := by
  refine ct_of (lv := [some (.ref a0), some (.int a1), some (.int a2)]) (by decide) (Nat.le_of_ble_eq_true rfl) rfl rfl (fun z hz => ?_)
  unfold fX11_read at h
  refine v_iload_n hz rfl rfl dX11_read_0 ?_
  obtain ⟨x1, M1, e1, h⟩ := bd_inv h
  refine v_callS hz (As := [.int a1]) sl_X11_235 (tX11_isTape (r + 0) e1) rfl rfl rfl (Nat.le_of_ble_eq_true rfl) ⟨by decide, by decide⟩ dX11_read_1 ?_
  show V z 4 [some (.ref a0), some (.int a1), some (.int a2)] [.int x1] M1 0 0
  refine v_if_eq (tgt := 31) hz dX11_read_4 (by decide) (fun hc => ?_) (fun hc => ?_)
  · replace h := (if_pos hc).symm.trans h
    refine v_ldc2 hz wq_716 dX11_read_31 ?_
    obtain ⟨rfl, rfl⟩ := sp_inv h
    exact v_lret hz dX11_read_34 (by decide) (by decide)
  · replace h := (if_neg hc).symm.trans h
    refine v_aload_n hz rfl rfl dX11_read_7 ?_
    obtain ⟨ck2, h⟩ := ck_inv h
    obtain ⟨ka2, kb2⟩ := isK_of ck2
    obtain ⟨b3, r3, h⟩ := rb_inv h
    refine v_getR hz fl_X11_53 rfl dX11_read_8 ka2 kb2 r3 ?_
    refine v_iload_n hz rfl rfl dX11_read_11 ?_
    obtain ⟨ck4, h⟩ := ck_inv h
    obtain ⟨ka4, kb4⟩ := isK_of ck4
    obtain ⟨g5, h⟩ := ck_inv h
    refine v_iaload hz dX11_read_12 ka4 kb4 g5 ?_
    refine v_iconst hz (v := (-1 : Int32)) (by decide) dX11_read_13 ?_
    refine v_icmp_eq (tgt := 31) hz dX11_read_14 (by decide) (fun hc => ?_) (fun hc => ?_)
    · replace h := (if_pos hc).symm.trans h
      refine v_ldc2 hz wq_716 dX11_read_31 ?_
      obtain ⟨rfl, rfl⟩ := sp_inv h
      exact v_lret hz dX11_read_34 (by decide) (by decide)
    · replace h := (if_neg hc).symm.trans h
      refine v_iload_n hz rfl rfl dX11_read_17 ?_
      refine v_if_lt (tgt := 31) hz dX11_read_18 (by decide) (fun hc => ?_) (fun hc => ?_)
      · replace h := (if_pos hc).symm.trans h
        refine v_ldc2 hz wq_716 dX11_read_31 ?_
        obtain ⟨rfl, rfl⟩ := sp_inv h
        exact v_lret hz dX11_read_34 (by decide) (by decide)
      · replace h := (if_neg hc).symm.trans h
        refine v_iload_n hz rfl rfl dX11_read_21 ?_
        refine v_aload_n hz rfl rfl dX11_read_22 ?_
        obtain ⟨b6, r6, h⟩ := rb_inv h
        refine v_getR hz fl_X11_57 rfl dX11_read_23 ka2 kb2 r6 ?_
        refine v_iload_n hz rfl rfl dX11_read_26 ?_
        obtain ⟨ck7, h⟩ := ck_inv h
        obtain ⟨ka7, kb7⟩ := isK_of ck7
        obtain ⟨g8, h⟩ := ck_inv h
        refine v_iaload hz dX11_read_27 ka7 kb7 g8 ?_
        refine v_icmp_lt (tgt := 35) hz dX11_read_28 (by decide) (fun hc => ?_) (fun hc => ?_)
        · replace h := (if_pos hc).symm.trans h
          refine v_aload_n hz rfl rfl dX11_read_35 ?_
          obtain ⟨b9, r9, h⟩ := rb_inv h
          refine v_getR hz fl_X11_60 rfl dX11_read_36 ka2 kb2 r9 ?_
          refine v_iload_n hz rfl rfl dX11_read_39 ?_
          refine v_bipush hz (v := (60 : Int32)) (by decide) dX11_read_40 ?_
          refine v_imul hz dX11_read_42 ?_
          refine v_iload_n hz rfl rfl dX11_read_43 ?_
          refine v_iadd hz dX11_read_44 ?_
          obtain ⟨ck10, h⟩ := ck_inv h
          obtain ⟨ka10, kb10⟩ := isK_of ck10
          obtain ⟨g11, h⟩ := ck_inv h
          refine v_laload hz dX11_read_45 ka10 kb10 g11 ?_
          obtain ⟨rfl, rfl⟩ := sp_inv h
          exact v_lret hz dX11_read_46 (by decide) (by decide)
        · replace h := (if_neg hc).symm.trans h
          refine v_ldc2 hz wq_716 dX11_read_31 ?_
          obtain ⟨rfl, rfl⟩ := sp_inv h
          exact v_lret hz dX11_read_34 (by decide) (by decide)
noncomputable def fX11_hasItems (M : Mem) (a0 : Nat) (a1 : Int32) (a2 : Int32) (a3 : Int32) : Option (Int32 × Mem) :=
  if a2 < 0 then (some ((0 : Int32), M)) else (if a3 < 0 then (some ((0 : Int32), M)) else (ck (isK M a0 11) <| rb (mR M a0 16) fun b2 => ck (isK M b2 14) <| ck (inb a1 (mG M b2)) <| if ((mI M b2 a1.toNatClampNeg) - a2) < a3 then (some ((0 : Int32), M)) else (some ((1 : Int32), M))))
set_option maxRecDepth 100000 in
set_option maxHeartbeats 4000000 in
theorem tX11_hasItems (r : Nat) {fx : Fx} {al : Bool} {M N : Mem} {a0 : Nat} {a1 : Int32} {a2 : Int32} {a3 : Int32} {xr : Int32}  (h : fX11_hasItems M a0 a1 a2 a3 = some (xr, N)) : Ct fx yX11_hasItems cX11_hasItems 4 (some .boolean) (r + 0) 0 0 al [.ref a0, .int a1, .int a2, .int a3] M (some (.int xr)) N := by
  refine ct_of (lv := [some (.ref a0), some (.int a1), some (.int a2), some (.int a3)]) (by decide) (Nat.le_of_ble_eq_true rfl) rfl rfl (fun z hz => ?_)
  unfold fX11_hasItems at h
  refine v_iload_n hz rfl rfl dX11_hasItems_0 ?_
  refine v_if_lt (tgt := 24) hz dX11_hasItems_1 (by decide) (fun hc => ?_) (fun hc => ?_)
  · replace h := (if_pos hc).symm.trans h
    refine v_iconst hz (v := (0 : Int32)) (by decide) dX11_hasItems_24 ?_
    obtain ⟨rfl, rfl⟩ := sp_inv h
    exact v_zret hz (Or.inl rfl) dX11_hasItems_25 (by decide) (by decide)
  · replace h := (if_neg hc).symm.trans h
    refine v_iload_n hz rfl rfl dX11_hasItems_4 ?_
    refine v_if_lt (tgt := 24) hz dX11_hasItems_5 (by decide) (fun hc => ?_) (fun hc => ?_)
    · replace h := (if_pos hc).symm.trans h
      refine v_iconst hz (v := (0 : Int32)) (by decide) dX11_hasItems_24 ?_
      obtain ⟨rfl, rfl⟩ := sp_inv h
      exact v_zret hz (Or.inl rfl) dX11_hasItems_25 (by decide) (by decide)
    · replace h := (if_neg hc).symm.trans h
      refine v_iload_n hz rfl rfl dX11_hasItems_8 ?_
      refine v_aload_n hz rfl rfl dX11_hasItems_9 ?_
      obtain ⟨ck1, h⟩ := ck_inv h
      obtain ⟨ka1, kb1⟩ := isK_of ck1
      obtain ⟨b2, r2, h⟩ := rb_inv h
      refine v_getR hz fl_X11_57 rfl dX11_hasItems_10 ka1 kb1 r2 ?_
      refine v_iload_n hz rfl rfl dX11_hasItems_13 ?_
      obtain ⟨ck3, h⟩ := ck_inv h
      obtain ⟨ka3, kb3⟩ := isK_of ck3
      obtain ⟨g4, h⟩ := ck_inv h
      refine v_iaload hz dX11_hasItems_14 ka3 kb3 g4 ?_
      refine v_iload_n hz rfl rfl dX11_hasItems_15 ?_
      refine v_isub hz dX11_hasItems_16 ?_
      refine v_icmp_gt (tgt := 24) hz dX11_hasItems_17 (by decide) (fun hc => ?_) (fun hc => ?_)
      · replace h := (if_pos hc).symm.trans h
        refine v_iconst hz (v := (0 : Int32)) (by decide) dX11_hasItems_24 ?_
        obtain ⟨rfl, rfl⟩ := sp_inv h
        exact v_zret hz (Or.inl rfl) dX11_hasItems_25 (by decide) (by decide)
      · replace h := (if_neg hc).symm.trans h
        refine v_iconst hz (v := (1 : Int32)) (by decide) dX11_hasItems_20 ?_
        refine v_goto (tgt := 25) hz dX11_hasItems_21 (by decide) ?_
        obtain ⟨rfl, rfl⟩ := sp_inv h
        exact v_zret hz (Or.inr rfl) dX11_hasItems_25 (by decide) (by decide)
noncomputable def fX11_shift (M : Mem) (a0 : Nat) (a1 : Int32) (a2 : Int32) (a3 : Int32) (a4 : Int32) (a5 : Int32) : Option (Int32 × Mem) :=
  bd (fX11_isTape M a1) fun x1 M1 => if x1 = 0 then (some ((-1 : Int32), M1)) else (bd (fX11_isTape M1 a3) fun x2 M2 => if x2 = 0 then (some ((-1 : Int32), M2)) else (ck (isK M2 a0 11) <| rb (mR M2 a0 15) fun b4 => ck (isK M2 b4 14) <| ck (inb a1 (mG M2 b4)) <| if (mI M2 b4 a1.toNatClampNeg) = (-1 : Int32) then (some ((-11 : Int32), M2)) else (ck (inb a3 (mG M2 b4)) <| if (mI M2 b4 a3.toNatClampNeg) = (-1 : Int32) then (some ((-11 : Int32), M2)) else (ck (inb a1 (mG M2 b4)) <| ck (inb a3 (mG M2 b4)) <| if (mI M2 b4 a1.toNatClampNeg) = (mI M2 b4 a3.toNatClampNeg) then (bd (fX11_hasItems M2 a0 a1 a2 a5) fun x10 M10 => if x10 = 0 then (some ((-13 : Int32), M10)) else (ck (isK M10 a0 11) <| bd (fX11_hasItems M10 a0 a3 a4 a5) fun x12 M12 => if x12 = 0 then (some ((-13 : Int32), M12)) else (ck (isK M12 a0 11) <| rb (mR M12 a0 17) fun b14 => ck (isK M12 b14 15) <| ck (cpok ((a1 * (60 : Int32)) + a2) ((a3 * (60 : Int32)) + a4) a5 (mG M12 b14) (mG M12 b14)) <| some (a5, (cpL M12 b14 b14 ((a1 * (60 : Int32)) + a2).toNatClampNeg ((a3 * (60 : Int32)) + a4).toNatClampNeg a5.toNatClampNeg))))) else (some ((-12 : Int32), M2))))))
set_option maxRecDepth 100000 in
set_option maxHeartbeats 4000000 in
theorem tX11_shift (r : Nat) {fx : Fx} {al : Bool} {M N : Mem} {a0 : Nat} {a1 : Int32} {a2 : Int32} {a3 : Int32} {a4 : Int32} {a5 : Int32} {xr : Int32}  (h : fX11_shift M a0 a1 a2 a3 a4 a5 = some (xr, N)) : Ct fx yX11_shift cX11_shift 6 (some .int) (r + 1) 0 0 al [.ref a0, .int a1, .int a2, .int a3, .int a4, .int a5] M (some (.int xr)) N := by
  refine ct_of (lv := [some (.ref a0), some (.int a1), some (.int a2), some (.int a3), some (.int a4), some (.int a5)]) (by decide) (Nat.le_of_ble_eq_true rfl) rfl rfl (fun z hz => ?_)
  unfold fX11_shift at h
  refine v_iload_n hz rfl rfl dX11_shift_0 ?_
  obtain ⟨x1, M1, e1, h⟩ := bd_inv h
  refine v_callS hz (As := [.int a1]) sl_X11_235 (tX11_isTape (r + 0) e1) rfl rfl rfl (Nat.le_of_ble_eq_true rfl) ⟨by decide, by decide⟩ dX11_shift_1 ?_
  show V z 4 [some (.ref a0), some (.int a1), some (.int a2), some (.int a3), some (.int a4), some (.int a5)] [.int x1] M1 0 0
  refine v_if_eq (tgt := 14) hz dX11_shift_4 (by decide) (fun hc => ?_) (fun hc => ?_)
  · replace h := (if_pos hc).symm.trans h
    refine v_iconst hz (v := (-1 : Int32)) (by decide) dX11_shift_14 ?_
    obtain ⟨rfl, rfl⟩ := sp_inv h
    exact v_iret hz dX11_shift_15 (by decide) (by decide)
  · replace h := (if_neg hc).symm.trans h
    refine v_iload_n hz rfl rfl dX11_shift_7 ?_
    obtain ⟨x2, M2, e2, h⟩ := bd_inv h
    refine v_callS hz (As := [.int a3]) sl_X11_235 (tX11_isTape (r + 0) e2) rfl rfl rfl (Nat.le_of_ble_eq_true rfl) ⟨by decide, by decide⟩ dX11_shift_8 ?_
    show V z 11 [some (.ref a0), some (.int a1), some (.int a2), some (.int a3), some (.int a4), some (.int a5)] [.int x2] M2 0 0
    refine v_if_ne (tgt := 16) hz dX11_shift_11 (by decide) (fun hc => ?_) (fun hc => ?_)
    · replace h := (if_neg hc).symm.trans h
      refine v_aload_n hz rfl rfl dX11_shift_16 ?_
      obtain ⟨ck3, h⟩ := ck_inv h
      obtain ⟨ka3, kb3⟩ := isK_of ck3
      obtain ⟨b4, r4, h⟩ := rb_inv h
      refine v_getR hz fl_X11_53 rfl dX11_shift_17 ka3 kb3 r4 ?_
      refine v_iload_n hz rfl rfl dX11_shift_20 ?_
      obtain ⟨ck5, h⟩ := ck_inv h
      obtain ⟨ka5, kb5⟩ := isK_of ck5
      obtain ⟨g6, h⟩ := ck_inv h
      refine v_iaload hz dX11_shift_21 ka5 kb5 g6 ?_
      refine v_iconst hz (v := (-1 : Int32)) (by decide) dX11_shift_22 ?_
      refine v_icmp_eq (tgt := 36) hz dX11_shift_23 (by decide) (fun hc => ?_) (fun hc => ?_)
      · replace h := (if_pos hc).symm.trans h
        refine v_bipush hz (v := (-11 : Int32)) (by decide) dX11_shift_36 ?_
        obtain ⟨rfl, rfl⟩ := sp_inv h
        exact v_iret hz dX11_shift_38 (by decide) (by decide)
      · replace h := (if_neg hc).symm.trans h
        refine v_aload_n hz rfl rfl dX11_shift_26 ?_
        refine v_getR hz fl_X11_53 rfl dX11_shift_27 ka3 kb3 r4 ?_
        refine v_iload_n hz rfl rfl dX11_shift_30 ?_
        obtain ⟨g7, h⟩ := ck_inv h
        refine v_iaload hz dX11_shift_31 ka5 kb5 g7 ?_
        refine v_iconst hz (v := (-1 : Int32)) (by decide) dX11_shift_32 ?_
        refine v_icmp_ne (tgt := 39) hz dX11_shift_33 (by decide) (fun hc => ?_) (fun hc => ?_)
        · replace h := (if_neg hc).symm.trans h
          refine v_aload_n hz rfl rfl dX11_shift_39 ?_
          refine v_getR hz fl_X11_53 rfl dX11_shift_40 ka3 kb3 r4 ?_
          refine v_iload_n hz rfl rfl dX11_shift_43 ?_
          obtain ⟨g8, h⟩ := ck_inv h
          refine v_iaload hz dX11_shift_44 ka5 kb5 g8 ?_
          refine v_aload_n hz rfl rfl dX11_shift_45 ?_
          refine v_getR hz fl_X11_53 rfl dX11_shift_46 ka3 kb3 r4 ?_
          refine v_iload_n hz rfl rfl dX11_shift_49 ?_
          obtain ⟨g9, h⟩ := ck_inv h
          refine v_iaload hz dX11_shift_50 ka5 kb5 g9 ?_
          refine v_icmp_eq (tgt := 57) hz dX11_shift_51 (by decide) (fun hc => ?_) (fun hc => ?_)
          · replace h := (if_pos hc).symm.trans h
            refine v_aload_n hz rfl rfl dX11_shift_57 ?_
            refine v_iload_n hz rfl rfl dX11_shift_58 ?_
            refine v_iload_n hz rfl rfl dX11_shift_59 ?_
            refine v_iload hz rfl dX11_shift_60 ?_
            obtain ⟨x10, M10, e10, h⟩ := bd_inv h
            refine v_callV hz (As := [.int a1, .int a2, .int a5]) vl_X11_276 (tX11_hasItems (r + 0) e10) rfl (by decide) ka3 kb3 rfl rfl rfl (Nat.le_of_ble_eq_true rfl) ⟨by decide, by decide⟩ dX11_shift_62 ?_
            show V z 65 [some (.ref a0), some (.int a1), some (.int a2), some (.int a3), some (.int a4), some (.int a5)] [.int x10] M10 0 0
            refine v_if_eq (tgt := 80) hz dX11_shift_65 (by decide) (fun hc => ?_) (fun hc => ?_)
            · replace h := (if_pos hc).symm.trans h
              refine v_bipush hz (v := (-13 : Int32)) (by decide) dX11_shift_80 ?_
              obtain ⟨rfl, rfl⟩ := sp_inv h
              exact v_iret hz dX11_shift_82 (by decide) (by decide)
            · replace h := (if_neg hc).symm.trans h
              refine v_aload_n hz rfl rfl dX11_shift_68 ?_
              refine v_iload_n hz rfl rfl dX11_shift_69 ?_
              refine v_iload hz rfl dX11_shift_70 ?_
              refine v_iload hz rfl dX11_shift_72 ?_
              obtain ⟨ck11, h⟩ := ck_inv h
              obtain ⟨ka11, kb11⟩ := isK_of ck11
              obtain ⟨x12, M12, e12, h⟩ := bd_inv h
              refine v_callV hz (As := [.int a3, .int a4, .int a5]) vl_X11_276 (tX11_hasItems (r + 0) e12) rfl (by decide) ka11 kb11 rfl rfl rfl (Nat.le_of_ble_eq_true rfl) ⟨by decide, by decide⟩ dX11_shift_74 ?_
              show V z 77 [some (.ref a0), some (.int a1), some (.int a2), some (.int a3), some (.int a4), some (.int a5)] [.int x12] M12 0 0
              refine v_if_ne (tgt := 83) hz dX11_shift_77 (by decide) (fun hc => ?_) (fun hc => ?_)
              · replace h := (if_neg hc).symm.trans h
                refine v_aload_n hz rfl rfl dX11_shift_83 ?_
                obtain ⟨ck13, h⟩ := ck_inv h
                obtain ⟨ka13, kb13⟩ := isK_of ck13
                obtain ⟨b14, r14, h⟩ := rb_inv h
                refine v_getR hz fl_X11_60 rfl dX11_shift_84 ka13 kb13 r14 ?_
                refine v_iload_n hz rfl rfl dX11_shift_87 ?_
                refine v_bipush hz (v := (60 : Int32)) (by decide) dX11_shift_88 ?_
                refine v_imul hz dX11_shift_90 ?_
                refine v_iload_n hz rfl rfl dX11_shift_91 ?_
                refine v_iadd hz dX11_shift_92 ?_
                refine v_aload_n hz rfl rfl dX11_shift_93 ?_
                refine v_getR hz fl_X11_60 rfl dX11_shift_94 ka13 kb13 r14 ?_
                refine v_iload_n hz rfl rfl dX11_shift_97 ?_
                refine v_bipush hz (v := (60 : Int32)) (by decide) dX11_shift_98 ?_
                refine v_imul hz dX11_shift_100 ?_
                refine v_iload hz rfl dX11_shift_101 ?_
                refine v_iadd hz dX11_shift_103 ?_
                refine v_iload hz rfl dX11_shift_104 ?_
                obtain ⟨ck15, h⟩ := ck_inv h
                obtain ⟨ka15, kb15⟩ := isK_of ck15
                obtain ⟨g16, h⟩ := ck_inv h
                refine v_copyL hz cl_X11_280 rfl ka15 kb15 ka15 kb15 g16 (Nat.le_of_ble_eq_true rfl) dX11_shift_106 ?_
                refine v_iload hz rfl dX11_shift_109 ?_
                obtain ⟨rfl, rfl⟩ := sp_inv h
                exact v_iret hz dX11_shift_111 (by decide) (by decide)
              · replace h := (if_pos hc).symm.trans h
                refine v_bipush hz (v := (-13 : Int32)) (by decide) dX11_shift_80 ?_
                obtain ⟨rfl, rfl⟩ := sp_inv h
                exact v_iret hz dX11_shift_82 (by decide) (by decide)
          · replace h := (if_neg hc).symm.trans h
            refine v_bipush hz (v := (-12 : Int32)) (by decide) dX11_shift_54 ?_
            obtain ⟨rfl, rfl⟩ := sp_inv h
            exact v_iret hz dX11_shift_56 (by decide) (by decide)
        · replace h := (if_pos hc).symm.trans h
          refine v_bipush hz (v := (-11 : Int32)) (by decide) dX11_shift_36 ?_
          obtain ⟨rfl, rfl⟩ := sp_inv h
          exact v_iret hz dX11_shift_38 (by decide) (by decide)
    · replace h := (if_pos hc).symm.trans h
      refine v_iconst hz (v := (-1 : Int32)) (by decide) dX11_shift_14 ?_
      obtain ⟨rfl, rfl⟩ := sp_inv h
      exact v_iret hz dX11_shift_15 (by decide) (by decide)
