noncomputable def fX12_letterOf (M : Mem) (a0 : Nat) (a1 : Int32) (a2 : Int32) (a3 : Int32) : Option (Int32 × Mem) :=
  if a3 = (0 : Int32) then (some (a1, M)) else if a3 = (1 : Int32) then (ck (isK M a0 12) <| rb (mR M a0 2) fun b3 => ck (isK M b3 14) <| ck (inb a1 (mG M b3)) <| some ((mI M b3 a1.toNatClampNeg), M)) else if a3 = (2 : Int32) then (ck (isK M a0 12) <| rb (mR M a0 3) fun b7 => ck (isK M b7 14) <| ck (inb a1 (mG M b7)) <| some ((mI M b7 a1.toNatClampNeg), M)) else if a3 = (3 : Int32) then (some (a2, M)) else if a3 = (4 : Int32) then (ck (isK M a0 12) <| rb (mR M a0 0) fun b11 => ck (isK M b11 14) <| ck (inb a2 (mG M b11)) <| some (((mI M b11 a2.toNatClampNeg) / (10 : Int32)), M)) else (ck (isK M a0 12) <| some (((mI M a0 7) - (mI M a0 7) / (10 : Int32) * (10 : Int32)), M))
set_option maxRecDepth 100000 in
set_option maxHeartbeats 4000000 in
theorem tX12_letterOf (r : Nat) {fx : Fx} {al : Bool} {M N : Mem} {a0 : Nat} {a1 : Int32} {a2 : Int32} {a3 : Int32} {xr : Int32}  (h : fX12_letterOf M a0 a1 a2 a3 = some (xr, N)) : Ct fx yX12_letterOf cX12_letterOf 4 (some .int) (r + 0) 0 0 al [.ref a0, .int a1, .int a2, .int a3] M (some (.int xr)) N := by
  refine ct_of (lv := [some (.ref a0), some (.int a1), some (.int a2), some (.int a3)]) (by decide) (Nat.le_of_ble_eq_true rfl) rfl rfl (fun z hz => ?_)
  unfold fX12_letterOf at h
  refine v_iload_n hz rfl rfl dX12_letterOf_0 ?_
  by_cases hs1_0 : a3 = (0 : Int32)
  · replace h := (if_pos hs1_0).symm.trans h
    refine v_tableAt (tgt := 36) hz hs1_0 dX12_letterOf_1 (by decide) (by decide) (by decide) (by decide) ?_
    refine v_iload_n hz rfl rfl dX12_letterOf_36 ?_
    obtain ⟨rfl, rfl⟩ := sp_inv h
    exact v_iret hz dX12_letterOf_37 (by decide) (by decide)
  replace h := (if_neg hs1_0).symm.trans h
  by_cases hs1_1 : a3 = (1 : Int32)
  · replace h := (if_pos hs1_1).symm.trans h
    refine v_tableAt (tgt := 38) hz hs1_1 dX12_letterOf_1 (by decide) (by decide) (by decide) (by decide) ?_
    refine v_aload_n hz rfl rfl dX12_letterOf_38 ?_
    obtain ⟨ck2, h⟩ := ck_inv h
    obtain ⟨ka2, kb2⟩ := isK_of ck2
    obtain ⟨b3, r3, h⟩ := rb_inv h
    refine v_getR hz fl_X12_15 rfl dX12_letterOf_39 ka2 kb2 r3 ?_
    refine v_iload_n hz rfl rfl dX12_letterOf_42 ?_
    obtain ⟨ck4, h⟩ := ck_inv h
    obtain ⟨ka4, kb4⟩ := isK_of ck4
    obtain ⟨g5, h⟩ := ck_inv h
    refine v_iaload hz dX12_letterOf_43 ka4 kb4 g5 ?_
    obtain ⟨rfl, rfl⟩ := sp_inv h
    exact v_iret hz dX12_letterOf_44 (by decide) (by decide)
  replace h := (if_neg hs1_1).symm.trans h
  by_cases hs1_2 : a3 = (2 : Int32)
  · replace h := (if_pos hs1_2).symm.trans h
    refine v_tableAt (tgt := 45) hz hs1_2 dX12_letterOf_1 (by decide) (by decide) (by decide) (by decide) ?_
    refine v_aload_n hz rfl rfl dX12_letterOf_45 ?_
    obtain ⟨ck6, h⟩ := ck_inv h
    obtain ⟨ka6, kb6⟩ := isK_of ck6
    obtain ⟨b7, r7, h⟩ := rb_inv h
    refine v_getR hz fl_X12_18 rfl dX12_letterOf_46 ka6 kb6 r7 ?_
    refine v_iload_n hz rfl rfl dX12_letterOf_49 ?_
    obtain ⟨ck8, h⟩ := ck_inv h
    obtain ⟨ka8, kb8⟩ := isK_of ck8
    obtain ⟨g9, h⟩ := ck_inv h
    refine v_iaload hz dX12_letterOf_50 ka8 kb8 g9 ?_
    obtain ⟨rfl, rfl⟩ := sp_inv h
    exact v_iret hz dX12_letterOf_51 (by decide) (by decide)
  replace h := (if_neg hs1_2).symm.trans h
  by_cases hs1_3 : a3 = (3 : Int32)
  · replace h := (if_pos hs1_3).symm.trans h
    refine v_tableAt (tgt := 52) hz hs1_3 dX12_letterOf_1 (by decide) (by decide) (by decide) (by decide) ?_
    refine v_iload_n hz rfl rfl dX12_letterOf_52 ?_
    obtain ⟨rfl, rfl⟩ := sp_inv h
    exact v_iret hz dX12_letterOf_53 (by decide) (by decide)
  replace h := (if_neg hs1_3).symm.trans h
  by_cases hs1_4 : a3 = (4 : Int32)
  · replace h := (if_pos hs1_4).symm.trans h
    refine v_tableAt (tgt := 54) hz hs1_4 dX12_letterOf_1 (by decide) (by decide) (by decide) (by decide) ?_
    refine v_aload_n hz rfl rfl dX12_letterOf_54 ?_
    obtain ⟨ck10, h⟩ := ck_inv h
    obtain ⟨ka10, kb10⟩ := isK_of ck10
    obtain ⟨b11, r11, h⟩ := rb_inv h
    refine v_getR hz fl_X12_9 rfl dX12_letterOf_55 ka10 kb10 r11 ?_
    refine v_iload_n hz rfl rfl dX12_letterOf_58 ?_
    obtain ⟨ck12, h⟩ := ck_inv h
    obtain ⟨ka12, kb12⟩ := isK_of ck12
    obtain ⟨g13, h⟩ := ck_inv h
    refine v_iaload hz dX12_letterOf_59 ka12 kb12 g13 ?_
    refine v_bipush hz (v := (10 : Int32)) (by decide) dX12_letterOf_60 ?_
    refine v_idiv hz (by decide) dX12_letterOf_62 ?_
    obtain ⟨rfl, rfl⟩ := sp_inv h
    exact v_iret hz dX12_letterOf_63 (by decide) (by decide)
  replace h := (if_neg hs1_4).symm.trans h
  refine v_tableOut (tgt := 64) hz dX12_letterOf_1 (by have q0 := lv_neT hs1_0 (show ((0 : Int32)).toInt = 0 by decide); have q1 := lv_neT hs1_1 (show ((1 : Int32)).toInt = 1 by decide); have q2 := lv_neT hs1_2 (show ((2 : Int32)).toInt = 2 by decide); have q3 := lv_neT hs1_3 (show ((3 : Int32)).toInt = 3 by decide); have q4 := lv_neT hs1_4 (show ((4 : Int32)).toInt = 4 by decide); omega) (by decide) ?_
  refine v_aload_n hz rfl rfl dX12_letterOf_64 ?_
  obtain ⟨ck14, h⟩ := ck_inv h
  obtain ⟨ka14, kb14⟩ := isK_of ck14
  refine v_getI hz fl_X12_208 rfl dX12_letterOf_65 ka14 kb14 ?_
  refine v_bipush hz (v := (10 : Int32)) (by decide) dX12_letterOf_68 ?_
  refine v_irem hz (by decide) dX12_letterOf_70 ?_
  obtain ⟨rfl, rfl⟩ := sp_inv h
  exact v_iret hz dX12_letterOf_71 (by decide) (by decide)
noncomputable def gX12_isTrue_255 (K11 : Mem → Nat → Int32 → Int32 → Int32 → Int32 → Int32 → Option (Int32 × Mem)) (M : Mem) (l0 : Nat) (l1 : Int32) (l2 : Int32) (l3 : Int32) (l4 : Int32) (l5 : Int32) : Option (Int32 × Mem) :=
  K11 M l0 l1 l2 l3 l4 (l5 + (1 : Int32))
noncomputable def gX12_isTrue_254 (K11 : Mem → Nat → Int32 → Int32 → Int32 → Int32 → Int32 → Option (Int32 × Mem)) (M : Mem) (l0 : Nat) (l1 : Int32) (l2 : Int32) (l3 : Int32) (l4 : Int32) (l5 : Int32) (s0 : Int32) (s1 : Int32) (s2 : Nat) : Option (Int32 × Mem) :=
  ck (isK M s2 16) <| ck (inb s1 (mG M s2)) <| ck (b01 s0) <| gX12_isTrue_255 K11 (stI M s2 s1.toNatClampNeg s0) l0 l1 l2 l3 l4 l5
noncomputable def gX12_isTrue_249 (K11 : Mem → Nat → Int32 → Int32 → Int32 → Int32 → Int32 → Option (Int32 × Mem)) (M : Mem) (l0 : Nat) (l1 : Int32) (l2 : Int32) (l3 : Int32) (l4 : Int32) (l5 : Int32) (s0 : Int32) (s1 : Nat) : Option (Int32 × Mem) :=
  gX12_isTrue_254 K11 M l0 l1 l2 l3 l4 l5 (1 : Int32) s0 s1
noncomputable def gX12_isTrue_223 (K11 : Mem → Nat → Int32 → Int32 → Int32 → Int32 → Int32 → Option (Int32 × Mem)) (M : Mem) (l0 : Nat) (l1 : Int32) (l2 : Int32) (l3 : Int32) (l4 : Int32) (l5 : Int32) (s0 : Int32) (s1 : Nat) : Option (Int32 × Mem) :=
  gX12_isTrue_254 K11 M l0 l1 l2 l3 l4 l5 (0 : Int32) s0 s1
noncomputable def gX12_isTrue_176 (K11 : Mem → Nat → Int32 → Int32 → Int32 → Int32 → Int32 → Option (Int32 × Mem)) (M : Mem) (l0 : Nat) (l1 : Int32) (l2 : Int32) (l3 : Int32) (l4 : Int32) (l5 : Int32) (s0 : Int32) (s1 : Int32) (s2 : Nat) : Option (Int32 × Mem) :=
  ck (isK M s2 16) <| ck (inb s1 (mG M s2)) <| ck (b01 s0) <| gX12_isTrue_255 K11 (stI M s2 s1.toNatClampNeg s0) l0 l1 l2 l3 l4 l5
noncomputable def gX12_isTrue_142 (K11 : Mem → Nat → Int32 → Int32 → Int32 → Int32 → Int32 → Option (Int32 × Mem)) (M : Mem) (l0 : Nat) (l1 : Int32) (l2 : Int32) (l3 : Int32) (l4 : Int32) (l5 : Int32) (s0 : Int32) (s1 : Int32) (s2 : Nat) : Option (Int32 × Mem) :=
  ck (isK M s2 16) <| ck (inb s1 (mG M s2)) <| ck (b01 s0) <| gX12_isTrue_255 K11 (stI M s2 s1.toNatClampNeg s0) l0 l1 l2 l3 l4 l5
noncomputable def gX12_isTrue_11  : Nat → Mem → Nat → Int32 → Int32 → Int32 → Int32 → Int32 → Option (Int32 × Mem)
  | 0, _, _, _, _, _, _, _ => none
  | n + 1, M, l0, l1, l2, l3, l4, l5 => ck (isK M l0 12) <| rb (mR M l0 19) fun b6 => ck (isK M b6 14) <| ck (inb l3 (mG M b6)) <| rb (mR M l0 20) fun b9 => ck (isK M b9 14) <| ck (inb l3 (mG M b9)) <| if ((mI M b6 l3.toNatClampNeg) + (mI M b9 l3.toNatClampNeg)) ≤ l5 then (rb (mR M l0 23) fun b12 => ck (isK M b12 16) <| ck (inb (0 : Int32) (mG M b12)) <| ck (b01 (mI M b12 (0 : Int32).toNatClampNeg)) <| some ((mI M b12 (0 : Int32).toNatClampNeg), M)) else (rb (mR M l0 21) fun b16 => ck (isK M b16 14) <| ck (inb l5 (mG M b16)) <| if (mI M b16 l5.toNatClampNeg) < (3 : Int32) then (if (mI M b16 l5.toNatClampNeg) = 0 then (rb (mR M l0 23) fun b29 => ck (isK M b29 16) <| ck (inb (l4 - (1 : Int32)) (mG M b29)) <| if (mI M b29 (l4 - (1 : Int32)).toNatClampNeg) = 0 then (gX12_isTrue_176 (gX12_isTrue_11 n) M l0 l1 l2 l3 l4 l5 (1 : Int32) (l4 - (1 : Int32)) b29) else (gX12_isTrue_176 (gX12_isTrue_11 n) M l0 l1 l2 l3 l4 l5 (0 : Int32) (l4 - (1 : Int32)) b29)) else (rb (mR M l0 23) fun b19 => if (mI M b16 l5.toNatClampNeg) = (1 : Int32) then (ck (isK M b19 16) <| ck (inb ((l4 + (-1 : Int32)) - (1 : Int32)) (mG M b19)) <| if (mI M b19 ((l4 + (-1 : Int32)) - (1 : Int32)).toNatClampNeg) = 0 then (gX12_isTrue_223 (gX12_isTrue_11 n) M l0 l1 l2 l3 (l4 + (-1 : Int32)) l5 ((l4 + (-1 : Int32)) - (1 : Int32)) b19) else (ck (inb (l4 + (-1 : Int32)) (mG M b19)) <| if (mI M b19 (l4 + (-1 : Int32)).toNatClampNeg) = 0 then (gX12_isTrue_223 (gX12_isTrue_11 n) M l0 l1 l2 l3 (l4 + (-1 : Int32)) l5 ((l4 + (-1 : Int32)) - (1 : Int32)) b19) else (gX12_isTrue_254 (gX12_isTrue_11 n) M l0 l1 l2 l3 (l4 + (-1 : Int32)) l5 (1 : Int32) ((l4 + (-1 : Int32)) - (1 : Int32)) b19))) else (ck (isK M b19 16) <| ck (inb ((l4 + (-1 : Int32)) - (1 : Int32)) (mG M b19)) <| if (mI M b19 ((l4 + (-1 : Int32)) - (1 : Int32)).toNatClampNeg) = 0 then (ck (inb (l4 + (-1 : Int32)) (mG M b19)) <| if (mI M b19 (l4 + (-1 : Int32)).toNatClampNeg) = 0 then (gX12_isTrue_254 (gX12_isTrue_11 n) M l0 l1 l2 l3 (l4 + (-1 : Int32)) l5 (0 : Int32) ((l4 + (-1 : Int32)) - (1 : Int32)) b19) else (gX12_isTrue_249 (gX12_isTrue_11 n) M l0 l1 l2 l3 (l4 + (-1 : Int32)) l5 ((l4 + (-1 : Int32)) - (1 : Int32)) b19)) else (gX12_isTrue_249 (gX12_isTrue_11 n) M l0 l1 l2 l3 (l4 + (-1 : Int32)) l5 ((l4 + (-1 : Int32)) - (1 : Int32)) b19)))) else (bd (fX12_letterOf M l0 l1 l2 (((mI M b16 l5.toNatClampNeg) - (3 : Int32)) / (300 : Int32))) fun x35 M35 => ck (isK M35 l0 12) <| rb (mR M35 l0 23) fun b37 => if ((((mI M b16 l5.toNatClampNeg) - (3 : Int32)) / (100 : Int32)) - (((mI M b16 l5.toNatClampNeg) - (3 : Int32)) / (100 : Int32)) / (3 : Int32) * (3 : Int32)) = 0 then (if (((mI M b16 l5.toNatClampNeg) - (3 : Int32)) - ((mI M b16 l5.toNatClampNeg) - (3 : Int32)) / (100 : Int32) * (100 : Int32)) ≤ x35 then (gX12_isTrue_142 (gX12_isTrue_11 n) M35 l0 l1 l2 l3 (l4 + (1 : Int32)) l5 (0 : Int32) l4 b37) else (gX12_isTrue_142 (gX12_isTrue_11 n) M35 l0 l1 l2 l3 (l4 + (1 : Int32)) l5 (1 : Int32) l4 b37)) else (if ((((mI M b16 l5.toNatClampNeg) - (3 : Int32)) / (100 : Int32)) - (((mI M b16 l5.toNatClampNeg) - (3 : Int32)) / (100 : Int32)) / (3 : Int32) * (3 : Int32)) = (1 : Int32) then (if x35 = (((mI M b16 l5.toNatClampNeg) - (3 : Int32)) - ((mI M b16 l5.toNatClampNeg) - (3 : Int32)) / (100 : Int32) * (100 : Int32)) then (gX12_isTrue_142 (gX12_isTrue_11 n) M35 l0 l1 l2 l3 (l4 + (1 : Int32)) l5 (1 : Int32) l4 b37) else (gX12_isTrue_142 (gX12_isTrue_11 n) M35 l0 l1 l2 l3 (l4 + (1 : Int32)) l5 (0 : Int32) l4 b37)) else (if x35 ≤ (((mI M b16 l5.toNatClampNeg) - (3 : Int32)) - ((mI M b16 l5.toNatClampNeg) - (3 : Int32)) / (100 : Int32) * (100 : Int32)) then (gX12_isTrue_142 (gX12_isTrue_11 n) M35 l0 l1 l2 l3 (l4 + (1 : Int32)) l5 (0 : Int32) l4 b37) else (gX12_isTrue_142 (gX12_isTrue_11 n) M35 l0 l1 l2 l3 (l4 + (1 : Int32)) l5 (1 : Int32) l4 b37)))))
noncomputable def fX12_isTrue (M : Mem) (a0 : Nat) (a1 : Int32) (a2 : Int32) (a3 : Int32) : Option (Int32 × Mem) :=
  ck (isK M a0 12) <| rb (mR M a0 19) fun b2 => ck (isK M b2 14) <| ck (inb a3 (mG M b2)) <| gX12_isTrue_11 FU M a0 a1 a2 a3 (0 : Int32) (mI M b2 a3.toNatClampNeg)
set_option maxRecDepth 100000 in
set_option maxHeartbeats 4000000 in
theorem wX12_isTrue_255 {z : Zx} {fx : Fx} {al : Bool} {r : Nat} {N : Mem} {xr : Int32} (hz : Zok z fx al yX12_isTrue.cls yX12_isTrue.name cX12_isTrue (some .boolean) 10 (r + 1) 0 0 (some (.int xr)) N)  {K11 : Mem → Nat → Int32 → Int32 → Int32 → Int32 → Int32 → Option (Int32 × Mem)} (hK11 : ∀ {M : Mem} {l0 : Nat} {l1 : Int32} {l2 : Int32} {l3 : Int32} {l4 : Int32} {l5 : Int32}, K11 M l0 l1 l2 l3 l4 l5 = some (xr, N) → V z 11 [some (.ref l0), some (.int l1), some (.int l2), some (.int l3), some (.int l4), some (.int l5), none, none, none, none] [] M 0 0) {M : Mem} {l0 : Nat} {l1 : Int32} {l2 : Int32} {l3 : Int32} {l4 : Int32} {l5 : Int32} (h : gX12_isTrue_255 K11 M l0 l1 l2 l3 l4 l5 = some (xr, N)) : V z 255 [some (.ref l0), some (.int l1), some (.int l2), some (.int l3), some (.int l4), some (.int l5), none, none, none, none] [] M 0 0 := by
  unfold gX12_isTrue_255 at h
  refine v_iinc hz (v := (l5 + (1 : Int32))) (lw := [some (.ref l0), some (.int l1), some (.int l2), some (.int l3), some (.int l4), some (.int (l5 + (1 : Int32))), none, none, none, none]) rfl (congrArg (fun q => l5 + q) (show Int32.ofInt (1) = (1 : Int32) by decide)) rfl rfl dX12_isTrue_255 ?_
  refine v_goto (tgt := 11) hz dX12_isTrue_258 (by decide) ?_
  exact v_weak (lvle_s (lvle_s (lvle_s (lvle_s (lvle_s (lvle_s (lvle_n (lvle_n (lvle_n (lvle_n lvle_0)))))))))) (hK11 h)
set_option maxRecDepth 100000 in
set_option maxHeartbeats 4000000 in
theorem wX12_isTrue_254 {z : Zx} {fx : Fx} {al : Bool} {r : Nat} {N : Mem} {xr : Int32} (hz : Zok z fx al yX12_isTrue.cls yX12_isTrue.name cX12_isTrue (some .boolean) 10 (r + 1) 0 0 (some (.int xr)) N)  {K11 : Mem → Nat → Int32 → Int32 → Int32 → Int32 → Int32 → Option (Int32 × Mem)} (hK11 : ∀ {M : Mem} {l0 : Nat} {l1 : Int32} {l2 : Int32} {l3 : Int32} {l4 : Int32} {l5 : Int32}, K11 M l0 l1 l2 l3 l4 l5 = some (xr, N) → V z 11 [some (.ref l0), some (.int l1), some (.int l2), some (.int l3), some (.int l4), some (.int l5), none, none, none, none] [] M 0 0) {M : Mem} {l0 : Nat} {l1 : Int32} {l2 : Int32} {l3 : Int32} {l4 : Int32} {l5 : Int32} {s0 : Int32} {s1 : Int32} {s2 : Nat} (h : gX12_isTrue_254 K11 M l0 l1 l2 l3 l4 l5 s0 s1 s2 = some (xr, N)) : V z 254 [some (.ref l0), some (.int l1), some (.int l2), some (.int l3), some (.int l4), some (.int l5), none, none, none, none] [.int s0, .int s1, .ref s2] M 0 0 := by
  unfold gX12_isTrue_254 at h
  obtain ⟨ck22, h⟩ := ck_inv h
  obtain ⟨ka22, kb22⟩ := isK_of ck22
  obtain ⟨g23, h⟩ := ck_inv h
  obtain ⟨g24, h⟩ := ck_inv h
  refine v_zastore hz (b01_of g24) dX12_isTrue_254 ka22 kb22 g23 ?_
  exact v_weak (lvle_s (lvle_s (lvle_s (lvle_s (lvle_s (lvle_s (lvle_n (lvle_n (lvle_n (lvle_n lvle_0)))))))))) (wX12_isTrue_255 hz  (fun h => hK11 h) h)
set_option maxRecDepth 100000 in
set_option maxHeartbeats 4000000 in
theorem wX12_isTrue_249 {z : Zx} {fx : Fx} {al : Bool} {r : Nat} {N : Mem} {xr : Int32} (hz : Zok z fx al yX12_isTrue.cls yX12_isTrue.name cX12_isTrue (some .boolean) 10 (r + 1) 0 0 (some (.int xr)) N)  {K11 : Mem → Nat → Int32 → Int32 → Int32 → Int32 → Int32 → Option (Int32 × Mem)} (hK11 : ∀ {M : Mem} {l0 : Nat} {l1 : Int32} {l2 : Int32} {l3 : Int32} {l4 : Int32} {l5 : Int32}, K11 M l0 l1 l2 l3 l4 l5 = some (xr, N) → V z 11 [some (.ref l0), some (.int l1), some (.int l2), some (.int l3), some (.int l4), some (.int l5), none, none, none, none] [] M 0 0) {M : Mem} {l0 : Nat} {l1 : Int32} {l2 : Int32} {l3 : Int32} {l4 : Int32} {l5 : Int32} {s0 : Int32} {s1 : Nat} (h : gX12_isTrue_249 K11 M l0 l1 l2 l3 l4 l5 s0 s1 = some (xr, N)) : V z 249 [some (.ref l0), some (.int l1), some (.int l2), some (.int l3), some (.int l4), some (.int l5), none, none, none, none] [.int s0, .ref s1] M 0 0 := by
  unfold gX12_isTrue_249 at h
  refine v_iconst hz (v := (1 : Int32)) (by decide) dX12_isTrue_249 ?_
  refine v_goto (tgt := 254) hz dX12_isTrue_250 (by decide) ?_
  exact v_weak (lvle_s (lvle_s (lvle_s (lvle_s (lvle_s (lvle_s (lvle_n (lvle_n (lvle_n (lvle_n lvle_0)))))))))) (wX12_isTrue_254 hz  (fun h => hK11 h) h)
set_option maxRecDepth 100000 in
set_option maxHeartbeats 4000000 in
theorem wX12_isTrue_223 {z : Zx} {fx : Fx} {al : Bool} {r : Nat} {N : Mem} {xr : Int32} (hz : Zok z fx al yX12_isTrue.cls yX12_isTrue.name cX12_isTrue (some .boolean) 10 (r + 1) 0 0 (some (.int xr)) N)  {K11 : Mem → Nat → Int32 → Int32 → Int32 → Int32 → Int32 → Option (Int32 × Mem)} (hK11 : ∀ {M : Mem} {l0 : Nat} {l1 : Int32} {l2 : Int32} {l3 : Int32} {l4 : Int32} {l5 : Int32}, K11 M l0 l1 l2 l3 l4 l5 = some (xr, N) → V z 11 [some (.ref l0), some (.int l1), some (.int l2), some (.int l3), some (.int l4), some (.int l5), none, none, none, none] [] M 0 0) {M : Mem} {l0 : Nat} {l1 : Int32} {l2 : Int32} {l3 : Int32} {l4 : Int32} {l5 : Int32} {s0 : Int32} {s1 : Nat} (h : gX12_isTrue_223 K11 M l0 l1 l2 l3 l4 l5 s0 s1 = some (xr, N)) : V z 223 [some (.ref l0), some (.int l1), some (.int l2), some (.int l3), some (.int l4), some (.int l5), none, none, none, none] [.int s0, .ref s1] M 0 0 := by
  unfold gX12_isTrue_223 at h
  refine v_iconst hz (v := (0 : Int32)) (by decide) dX12_isTrue_223 ?_
  refine v_goto (tgt := 254) hz dX12_isTrue_224 (by decide) ?_
  exact v_weak (lvle_s (lvle_s (lvle_s (lvle_s (lvle_s (lvle_s (lvle_n (lvle_n (lvle_n (lvle_n lvle_0)))))))))) (wX12_isTrue_254 hz  (fun h => hK11 h) h)
set_option maxRecDepth 100000 in
set_option maxHeartbeats 4000000 in
theorem wX12_isTrue_176 {z : Zx} {fx : Fx} {al : Bool} {r : Nat} {N : Mem} {xr : Int32} (hz : Zok z fx al yX12_isTrue.cls yX12_isTrue.name cX12_isTrue (some .boolean) 10 (r + 1) 0 0 (some (.int xr)) N)  {K11 : Mem → Nat → Int32 → Int32 → Int32 → Int32 → Int32 → Option (Int32 × Mem)} (hK11 : ∀ {M : Mem} {l0 : Nat} {l1 : Int32} {l2 : Int32} {l3 : Int32} {l4 : Int32} {l5 : Int32}, K11 M l0 l1 l2 l3 l4 l5 = some (xr, N) → V z 11 [some (.ref l0), some (.int l1), some (.int l2), some (.int l3), some (.int l4), some (.int l5), none, none, none, none] [] M 0 0) {M : Mem} {l0 : Nat} {l1 : Int32} {l2 : Int32} {l3 : Int32} {l4 : Int32} {l5 : Int32} {s0 : Int32} {s1 : Int32} {s2 : Nat} (h : gX12_isTrue_176 K11 M l0 l1 l2 l3 l4 l5 s0 s1 s2 = some (xr, N)) : V z 176 [some (.ref l0), some (.int l1), some (.int l2), some (.int l3), some (.int l4), some (.int l5), none, none, none, none] [.int s0, .int s1, .ref s2] M 0 0 := by
  unfold gX12_isTrue_176 at h
  obtain ⟨ck32, h⟩ := ck_inv h
  obtain ⟨ka32, kb32⟩ := isK_of ck32
  obtain ⟨g33, h⟩ := ck_inv h
  obtain ⟨g34, h⟩ := ck_inv h
  refine v_zastore hz (b01_of g34) dX12_isTrue_176 ka32 kb32 g33 ?_
  refine v_goto (tgt := 255) hz dX12_isTrue_177 (by decide) ?_
  exact v_weak (lvle_s (lvle_s (lvle_s (lvle_s (lvle_s (lvle_s (lvle_n (lvle_n (lvle_n (lvle_n lvle_0)))))))))) (wX12_isTrue_255 hz  (fun h => hK11 h) h)
set_option maxRecDepth 100000 in
set_option maxHeartbeats 4000000 in
theorem wX12_isTrue_142 {z : Zx} {fx : Fx} {al : Bool} {r : Nat} {N : Mem} {xr : Int32} (hz : Zok z fx al yX12_isTrue.cls yX12_isTrue.name cX12_isTrue (some .boolean) 10 (r + 1) 0 0 (some (.int xr)) N)  {K11 : Mem → Nat → Int32 → Int32 → Int32 → Int32 → Int32 → Option (Int32 × Mem)} (hK11 : ∀ {M : Mem} {l0 : Nat} {l1 : Int32} {l2 : Int32} {l3 : Int32} {l4 : Int32} {l5 : Int32}, K11 M l0 l1 l2 l3 l4 l5 = some (xr, N) → V z 11 [some (.ref l0), some (.int l1), some (.int l2), some (.int l3), some (.int l4), some (.int l5), none, none, none, none] [] M 0 0) {M : Mem} {l0 : Nat} {l1 : Int32} {l2 : Int32} {l3 : Int32} {l4 : Int32} {l5 : Int32} {s0 : Int32} {s1 : Int32} {s2 : Nat} (h : gX12_isTrue_142 K11 M l0 l1 l2 l3 l4 l5 s0 s1 s2 = some (xr, N)) : V z 142 [some (.ref l0), some (.int l1), some (.int l2), some (.int l3), some (.int l4), some (.int l5), none, none, none, none] [.int s0, .int s1, .ref s2] M 0 0 := by
  unfold gX12_isTrue_142 at h
  obtain ⟨ck38, h⟩ := ck_inv h
  obtain ⟨ka38, kb38⟩ := isK_of ck38
  obtain ⟨g39, h⟩ := ck_inv h
  obtain ⟨g40, h⟩ := ck_inv h
  refine v_zastore hz (b01_of g40) dX12_isTrue_142 ka38 kb38 g39 ?_
  refine v_goto (tgt := 255) hz dX12_isTrue_143 (by decide) ?_
  exact v_weak (lvle_s (lvle_s (lvle_s (lvle_s (lvle_s (lvle_s (lvle_n (lvle_n (lvle_n (lvle_n lvle_0)))))))))) (wX12_isTrue_255 hz  (fun h => hK11 h) h)
set_option maxRecDepth 100000 in
set_option maxHeartbeats 4000000 in
theorem gX12_isTrue_11_s  (n : Nat) (M : Mem) (l0 : Nat) (l1 : Int32) (l2 : Int32) (l3 : Int32) (l4 : Int32) (l5 : Int32) : gX12_isTrue_11  (n + 1) M l0 l1 l2 l3 l4 l5 = (ck (isK M l0 12) <| rb (mR M l0 19) fun b6 => ck (isK M b6 14) <| ck (inb l3 (mG M b6)) <| rb (mR M l0 20) fun b9 => ck (isK M b9 14) <| ck (inb l3 (mG M b9)) <| if ((mI M b6 l3.toNatClampNeg) + (mI M b9 l3.toNatClampNeg)) ≤ l5 then (rb (mR M l0 23) fun b12 => ck (isK M b12 16) <| ck (inb (0 : Int32) (mG M b12)) <| ck (b01 (mI M b12 (0 : Int32).toNatClampNeg)) <| some ((mI M b12 (0 : Int32).toNatClampNeg), M)) else (rb (mR M l0 21) fun b16 => ck (isK M b16 14) <| ck (inb l5 (mG M b16)) <| if (mI M b16 l5.toNatClampNeg) < (3 : Int32) then (if (mI M b16 l5.toNatClampNeg) = 0 then (rb (mR M l0 23) fun b29 => ck (isK M b29 16) <| ck (inb (l4 - (1 : Int32)) (mG M b29)) <| if (mI M b29 (l4 - (1 : Int32)).toNatClampNeg) = 0 then (gX12_isTrue_176 (gX12_isTrue_11 n) M l0 l1 l2 l3 l4 l5 (1 : Int32) (l4 - (1 : Int32)) b29) else (gX12_isTrue_176 (gX12_isTrue_11 n) M l0 l1 l2 l3 l4 l5 (0 : Int32) (l4 - (1 : Int32)) b29)) else (rb (mR M l0 23) fun b19 => if (mI M b16 l5.toNatClampNeg) = (1 : Int32) then (ck (isK M b19 16) <| ck (inb ((l4 + (-1 : Int32)) - (1 : Int32)) (mG M b19)) <| if (mI M b19 ((l4 + (-1 : Int32)) - (1 : Int32)).toNatClampNeg) = 0 then (gX12_isTrue_223 (gX12_isTrue_11 n) M l0 l1 l2 l3 (l4 + (-1 : Int32)) l5 ((l4 + (-1 : Int32)) - (1 : Int32)) b19) else (ck (inb (l4 + (-1 : Int32)) (mG M b19)) <| if (mI M b19 (l4 + (-1 : Int32)).toNatClampNeg) = 0 then (gX12_isTrue_223 (gX12_isTrue_11 n) M l0 l1 l2 l3 (l4 + (-1 : Int32)) l5 ((l4 + (-1 : Int32)) - (1 : Int32)) b19) else (gX12_isTrue_254 (gX12_isTrue_11 n) M l0 l1 l2 l3 (l4 + (-1 : Int32)) l5 (1 : Int32) ((l4 + (-1 : Int32)) - (1 : Int32)) b19))) else (ck (isK M b19 16) <| ck (inb ((l4 + (-1 : Int32)) - (1 : Int32)) (mG M b19)) <| if (mI M b19 ((l4 + (-1 : Int32)) - (1 : Int32)).toNatClampNeg) = 0 then (ck (inb (l4 + (-1 : Int32)) (mG M b19)) <| if (mI M b19 (l4 + (-1 : Int32)).toNatClampNeg) = 0 then (gX12_isTrue_254 (gX12_isTrue_11 n) M l0 l1 l2 l3 (l4 + (-1 : Int32)) l5 (0 : Int32) ((l4 + (-1 : Int32)) - (1 : Int32)) b19) else (gX12_isTrue_249 (gX12_isTrue_11 n) M l0 l1 l2 l3 (l4 + (-1 : Int32)) l5 ((l4 + (-1 : Int32)) - (1 : Int32)) b19)) else (gX12_isTrue_249 (gX12_isTrue_11 n) M l0 l1 l2 l3 (l4 + (-1 : Int32)) l5 ((l4 + (-1 : Int32)) - (1 : Int32)) b19)))) else (bd (fX12_letterOf M l0 l1 l2 (((mI M b16 l5.toNatClampNeg) - (3 : Int32)) / (300 : Int32))) fun x35 M35 => ck (isK M35 l0 12) <| rb (mR M35 l0 23) fun b37 => if ((((mI M b16 l5.toNatClampNeg) - (3 : Int32)) / (100 : Int32)) - (((mI M b16 l5.toNatClampNeg) - (3 : Int32)) / (100 : Int32)) / (3 : Int32) * (3 : Int32)) = 0 then (if (((mI M b16 l5.toNatClampNeg) - (3 : Int32)) - ((mI M b16 l5.toNatClampNeg) - (3 : Int32)) / (100 : Int32) * (100 : Int32)) ≤ x35 then (gX12_isTrue_142 (gX12_isTrue_11 n) M35 l0 l1 l2 l3 (l4 + (1 : Int32)) l5 (0 : Int32) l4 b37) else (gX12_isTrue_142 (gX12_isTrue_11 n) M35 l0 l1 l2 l3 (l4 + (1 : Int32)) l5 (1 : Int32) l4 b37)) else (if ((((mI M b16 l5.toNatClampNeg) - (3 : Int32)) / (100 : Int32)) - (((mI M b16 l5.toNatClampNeg) - (3 : Int32)) / (100 : Int32)) / (3 : Int32) * (3 : Int32)) = (1 : Int32) then (if x35 = (((mI M b16 l5.toNatClampNeg) - (3 : Int32)) - ((mI M b16 l5.toNatClampNeg) - (3 : Int32)) / (100 : Int32) * (100 : Int32)) then (gX12_isTrue_142 (gX12_isTrue_11 n) M35 l0 l1 l2 l3 (l4 + (1 : Int32)) l5 (1 : Int32) l4 b37) else (gX12_isTrue_142 (gX12_isTrue_11 n) M35 l0 l1 l2 l3 (l4 + (1 : Int32)) l5 (0 : Int32) l4 b37)) else (if x35 ≤ (((mI M b16 l5.toNatClampNeg) - (3 : Int32)) - ((mI M b16 l5.toNatClampNeg) - (3 : Int32)) / (100 : Int32) * (100 : Int32)) then (gX12_isTrue_142 (gX12_isTrue_11 n) M35 l0 l1 l2 l3 (l4 + (1 : Int32)) l5 (0 : Int32) l4 b37) else (gX12_isTrue_142 (gX12_isTrue_11 n) M35 l0 l1 l2 l3 (l4 + (1 : Int32)) l5 (1 : Int32) l4 b37)))))) := rfl
set_option maxRecDepth 100000 in
set_option maxHeartbeats 4000000 in
theorem wX12_isTrue_11 {z : Zx} {fx : Fx} {al : Bool} {r : Nat} {N : Mem} {xr : Int32} (hz : Zok z fx al yX12_isTrue.cls yX12_isTrue.name cX12_isTrue (some .boolean) 10 (r + 1) 0 0 (some (.int xr)) N)    : ∀ {n : Nat} {M : Mem} {l0 : Nat} {l1 : Int32} {l2 : Int32} {l3 : Int32} {l4 : Int32} {l5 : Int32}, gX12_isTrue_11  n M l0 l1 l2 l3 l4 l5 = some (xr, N) → V z 11 [some (.ref l0), some (.int l1), some (.int l2), some (.int l3), some (.int l4), some (.int l5), none, none, none, none] [] M 0 0 := by
  intro n
  induction n with
  | zero => intro M l0 l1 l2 l3 l4 l5 h; cases h
  | succ n ih =>
    intro M l0 l1 l2 l3 l4 l5 h
    replace h := (gX12_isTrue_11_s  n M l0 l1 l2 l3 l4 l5).symm.trans h
    refine v_iload hz rfl dX12_isTrue_11 ?_
    refine v_aload_n hz rfl rfl dX12_isTrue_13 ?_
    obtain ⟨ck5, h⟩ := ck_inv h
    obtain ⟨ka5, kb5⟩ := isK_of ck5
    obtain ⟨b6, r6, h⟩ := rb_inv h
    refine v_getR hz fl_X12_42 rfl dX12_isTrue_14 ka5 kb5 r6 ?_
    refine v_iload_n hz rfl rfl dX12_isTrue_17 ?_
    obtain ⟨ck7, h⟩ := ck_inv h
    obtain ⟨ka7, kb7⟩ := isK_of ck7
    obtain ⟨g8, h⟩ := ck_inv h
    refine v_iaload hz dX12_isTrue_18 ka7 kb7 g8 ?_
    refine v_aload_n hz rfl rfl dX12_isTrue_19 ?_
    obtain ⟨b9, r9, h⟩ := rb_inv h
    refine v_getR hz fl_X12_45 rfl dX12_isTrue_20 ka5 kb5 r9 ?_
    refine v_iload_n hz rfl rfl dX12_isTrue_23 ?_
    obtain ⟨ck10, h⟩ := ck_inv h
    obtain ⟨ka10, kb10⟩ := isK_of ck10
    obtain ⟨g11, h⟩ := ck_inv h
    refine v_iaload hz dX12_isTrue_24 ka10 kb10 g11 ?_
    refine v_iadd hz dX12_isTrue_25 ?_
    refine v_icmp_ge (tgt := 261) hz dX12_isTrue_26 (by decide) (fun hc => ?_) (fun hc => ?_)
    · replace h := (if_pos hc).symm.trans h
      refine v_aload_n hz rfl rfl dX12_isTrue_261 ?_
      obtain ⟨b12, r12, h⟩ := rb_inv h
      refine v_getR hz fl_X12_51 rfl dX12_isTrue_262 ka5 kb5 r12 ?_
      refine v_iconst hz (v := (0 : Int32)) (by decide) dX12_isTrue_265 ?_
      obtain ⟨ck13, h⟩ := ck_inv h
      obtain ⟨ka13, kb13⟩ := isK_of ck13
      obtain ⟨g14, h⟩ := ck_inv h
      refine v_zaload hz dX12_isTrue_266 ka13 kb13 g14 ?_
      obtain ⟨g15, h⟩ := ck_inv h
      obtain ⟨rfl, rfl⟩ := sp_inv h
      exact v_zret hz (b01_of g15) dX12_isTrue_267 (by decide) (by decide)
    · replace h := (if_neg hc).symm.trans h
      refine v_aload_n hz rfl rfl dX12_isTrue_29 ?_
      obtain ⟨b16, r16, h⟩ := rb_inv h
      refine v_getR hz fl_X12_48 rfl dX12_isTrue_30 ka5 kb5 r16 ?_
      refine v_iload hz rfl dX12_isTrue_33 ?_
      obtain ⟨ck17, h⟩ := ck_inv h
      obtain ⟨ka17, kb17⟩ := isK_of ck17
      obtain ⟨g18, h⟩ := ck_inv h
      refine v_iaload hz dX12_isTrue_35 ka17 kb17 g18 ?_
      refine v_istore hz (lw := [some (.ref l0), some (.int l1), some (.int l2), some (.int l3), some (.int l4), some (.int l5), some (.int (mI M b16 l5.toNatClampNeg)), none, none, none]) (Nat.le_of_ble_eq_true rfl) rfl rfl dX12_isTrue_36 ?_
      refine v_iload hz rfl dX12_isTrue_38 ?_
      refine v_iconst hz (v := (3 : Int32)) (by decide) dX12_isTrue_40 ?_
      refine v_icmp_lt (tgt := 146) hz dX12_isTrue_41 (by decide) (fun hc => ?_) (fun hc => ?_)
      · replace h := (if_pos hc).symm.trans h
        refine v_iload hz rfl dX12_isTrue_146 ?_
        refine v_if_ne (tgt := 180) hz dX12_isTrue_148 (by decide) (fun hc => ?_) (fun hc => ?_)
        · replace h := (if_neg hc).symm.trans h
          refine v_iinc hz (v := (l4 + (-1 : Int32))) (lw := [some (.ref l0), some (.int l1), some (.int l2), some (.int l3), some (.int (l4 + (-1 : Int32))), some (.int l5), some (.int (mI M b16 l5.toNatClampNeg)), none, none, none]) rfl (congrArg (fun q => l4 + q) (show Int32.ofInt (-1) = (-1 : Int32) by decide)) rfl rfl dX12_isTrue_180 ?_
          refine v_aload_n hz rfl rfl dX12_isTrue_183 ?_
          obtain ⟨b19, r19, h⟩ := rb_inv h
          refine v_getR hz fl_X12_51 rfl dX12_isTrue_184 ka5 kb5 r19 ?_
          refine v_iload hz rfl dX12_isTrue_187 ?_
          refine v_iconst hz (v := (1 : Int32)) (by decide) dX12_isTrue_189 ?_
          refine v_isub hz dX12_isTrue_190 ?_
          refine v_iload hz rfl dX12_isTrue_191 ?_
          refine v_iconst hz (v := (1 : Int32)) (by decide) dX12_isTrue_193 ?_
          refine v_icmp_ne (tgt := 227) hz dX12_isTrue_194 (by decide) (fun hc => ?_) (fun hc => ?_)
          · replace h := (if_neg hc).symm.trans h
            refine v_aload_n hz rfl rfl dX12_isTrue_227 ?_
            refine v_getR hz fl_X12_51 rfl dX12_isTrue_228 ka5 kb5 r19 ?_
            refine v_iload hz rfl dX12_isTrue_231 ?_
            refine v_iconst hz (v := (1 : Int32)) (by decide) dX12_isTrue_233 ?_
            refine v_isub hz dX12_isTrue_234 ?_
            obtain ⟨ck20, h⟩ := ck_inv h
            obtain ⟨ka20, kb20⟩ := isK_of ck20
            obtain ⟨g21, h⟩ := ck_inv h
            refine v_zaload hz dX12_isTrue_235 ka20 kb20 g21 ?_
            refine v_if_ne (tgt := 249) hz dX12_isTrue_236 (by decide) (fun hc => ?_) (fun hc => ?_)
            · replace h := (if_neg hc).symm.trans h
              exact v_weak (lvle_s (lvle_s (lvle_s (lvle_s (lvle_s (lvle_s (lvle_n (lvle_n (lvle_n (lvle_n lvle_0)))))))))) (wX12_isTrue_249 hz  (fun h => ih h) h)
            · replace h := (if_pos hc).symm.trans h
              refine v_aload_n hz rfl rfl dX12_isTrue_239 ?_
              refine v_getR hz fl_X12_51 rfl dX12_isTrue_240 ka5 kb5 r19 ?_
              refine v_iload hz rfl dX12_isTrue_243 ?_
              obtain ⟨g25, h⟩ := ck_inv h
              refine v_zaload hz dX12_isTrue_245 ka20 kb20 g25 ?_
              refine v_if_eq (tgt := 253) hz dX12_isTrue_246 (by decide) (fun hc => ?_) (fun hc => ?_)
              · replace h := (if_pos hc).symm.trans h
                refine v_iconst hz (v := (0 : Int32)) (by decide) dX12_isTrue_253 ?_
                exact v_weak (lvle_s (lvle_s (lvle_s (lvle_s (lvle_s (lvle_s (lvle_n (lvle_n (lvle_n (lvle_n lvle_0)))))))))) (wX12_isTrue_254 hz  (fun h => ih h) h)
              · replace h := (if_neg hc).symm.trans h
                exact v_weak (lvle_s (lvle_s (lvle_s (lvle_s (lvle_s (lvle_s (lvle_n (lvle_n (lvle_n (lvle_n lvle_0)))))))))) (wX12_isTrue_249 hz  (fun h => ih h) h)
          · replace h := (if_pos hc).symm.trans h
            refine v_aload_n hz rfl rfl dX12_isTrue_197 ?_
            refine v_getR hz fl_X12_51 rfl dX12_isTrue_198 ka5 kb5 r19 ?_
            refine v_iload hz rfl dX12_isTrue_201 ?_
            refine v_iconst hz (v := (1 : Int32)) (by decide) dX12_isTrue_203 ?_
            refine v_isub hz dX12_isTrue_204 ?_
            obtain ⟨ck26, h⟩ := ck_inv h
            obtain ⟨ka26, kb26⟩ := isK_of ck26
            obtain ⟨g27, h⟩ := ck_inv h
            refine v_zaload hz dX12_isTrue_205 ka26 kb26 g27 ?_
            refine v_if_eq (tgt := 223) hz dX12_isTrue_206 (by decide) (fun hc => ?_) (fun hc => ?_)
            · replace h := (if_pos hc).symm.trans h
              exact v_weak (lvle_s (lvle_s (lvle_s (lvle_s (lvle_s (lvle_s (lvle_n (lvle_n (lvle_n (lvle_n lvle_0)))))))))) (wX12_isTrue_223 hz  (fun h => ih h) h)
            · replace h := (if_neg hc).symm.trans h
              refine v_aload_n hz rfl rfl dX12_isTrue_209 ?_
              refine v_getR hz fl_X12_51 rfl dX12_isTrue_210 ka5 kb5 r19 ?_
              refine v_iload hz rfl dX12_isTrue_213 ?_
              obtain ⟨g28, h⟩ := ck_inv h
              refine v_zaload hz dX12_isTrue_215 ka26 kb26 g28 ?_
              refine v_if_eq (tgt := 223) hz dX12_isTrue_216 (by decide) (fun hc => ?_) (fun hc => ?_)
              · replace h := (if_pos hc).symm.trans h
                exact v_weak (lvle_s (lvle_s (lvle_s (lvle_s (lvle_s (lvle_s (lvle_n (lvle_n (lvle_n (lvle_n lvle_0)))))))))) (wX12_isTrue_223 hz  (fun h => ih h) h)
              · replace h := (if_neg hc).symm.trans h
                refine v_iconst hz (v := (1 : Int32)) (by decide) dX12_isTrue_219 ?_
                refine v_goto (tgt := 254) hz dX12_isTrue_220 (by decide) ?_
                exact v_weak (lvle_s (lvle_s (lvle_s (lvle_s (lvle_s (lvle_s (lvle_n (lvle_n (lvle_n (lvle_n lvle_0)))))))))) (wX12_isTrue_254 hz  (fun h => ih h) h)
        · replace h := (if_pos hc).symm.trans h
          refine v_aload_n hz rfl rfl dX12_isTrue_151 ?_
          obtain ⟨b29, r29, h⟩ := rb_inv h
          refine v_getR hz fl_X12_51 rfl dX12_isTrue_152 ka5 kb5 r29 ?_
          refine v_iload hz rfl dX12_isTrue_155 ?_
          refine v_iconst hz (v := (1 : Int32)) (by decide) dX12_isTrue_157 ?_
          refine v_isub hz dX12_isTrue_158 ?_
          refine v_aload_n hz rfl rfl dX12_isTrue_159 ?_
          refine v_getR hz fl_X12_51 rfl dX12_isTrue_160 ka5 kb5 r29 ?_
          refine v_iload hz rfl dX12_isTrue_163 ?_
          refine v_iconst hz (v := (1 : Int32)) (by decide) dX12_isTrue_165 ?_
          refine v_isub hz dX12_isTrue_166 ?_
          obtain ⟨ck30, h⟩ := ck_inv h
          obtain ⟨ka30, kb30⟩ := isK_of ck30
          obtain ⟨g31, h⟩ := ck_inv h
          refine v_zaload hz dX12_isTrue_167 ka30 kb30 g31 ?_
          refine v_if_ne (tgt := 175) hz dX12_isTrue_168 (by decide) (fun hc => ?_) (fun hc => ?_)
          · replace h := (if_neg hc).symm.trans h
            refine v_iconst hz (v := (0 : Int32)) (by decide) dX12_isTrue_175 ?_
            exact v_weak (lvle_s (lvle_s (lvle_s (lvle_s (lvle_s (lvle_s (lvle_n (lvle_n (lvle_n (lvle_n lvle_0)))))))))) (wX12_isTrue_176 hz  (fun h => ih h) h)
          · replace h := (if_pos hc).symm.trans h
            refine v_iconst hz (v := (1 : Int32)) (by decide) dX12_isTrue_171 ?_
            refine v_goto (tgt := 176) hz dX12_isTrue_172 (by decide) ?_
            exact v_weak (lvle_s (lvle_s (lvle_s (lvle_s (lvle_s (lvle_s (lvle_n (lvle_n (lvle_n (lvle_n lvle_0)))))))))) (wX12_isTrue_176 hz  (fun h => ih h) h)
      · replace h := (if_neg hc).symm.trans h
        refine v_aload_n hz rfl rfl dX12_isTrue_44 ?_
        refine v_iload_n hz rfl rfl dX12_isTrue_45 ?_
        refine v_iload_n hz rfl rfl dX12_isTrue_46 ?_
        refine v_iload hz rfl dX12_isTrue_47 ?_
        refine v_iconst hz (v := (3 : Int32)) (by decide) dX12_isTrue_49 ?_
        refine v_isub hz dX12_isTrue_50 ?_
        refine v_sipush hz (v := (300 : Int32)) (by decide) dX12_isTrue_51 ?_
        refine v_idiv hz (by decide) dX12_isTrue_54 ?_
        obtain ⟨x35, M35, e35, h⟩ := bd_inv h
        refine v_callV hz (As := [.int l1, .int l2, .int (((mI M b16 l5.toNatClampNeg) - (3 : Int32)) / (300 : Int32))]) vl_X12_211 (tX12_letterOf (r + 0) e35) rfl (by decide) ka5 kb5 rfl rfl rfl (Nat.le_of_ble_eq_true rfl) ⟨by decide, by decide⟩ dX12_isTrue_55 ?_
        show V z 58 [some (.ref l0), some (.int l1), some (.int l2), some (.int l3), some (.int l4), some (.int l5), some (.int (mI M b16 l5.toNatClampNeg)), none, none, none] [.int x35] M35 0 0
        refine v_istore hz (lw := [some (.ref l0), some (.int l1), some (.int l2), some (.int l3), some (.int l4), some (.int l5), some (.int (mI M b16 l5.toNatClampNeg)), some (.int x35), none, none]) (Nat.le_of_ble_eq_true rfl) rfl rfl dX12_isTrue_58 ?_
        refine v_iload hz rfl dX12_isTrue_60 ?_
        refine v_iconst hz (v := (3 : Int32)) (by decide) dX12_isTrue_62 ?_
        refine v_isub hz dX12_isTrue_63 ?_
        refine v_bipush hz (v := (100 : Int32)) (by decide) dX12_isTrue_64 ?_
        refine v_irem hz (by decide) dX12_isTrue_66 ?_
        refine v_istore hz (lw := [some (.ref l0), some (.int l1), some (.int l2), some (.int l3), some (.int l4), some (.int l5), some (.int (mI M b16 l5.toNatClampNeg)), some (.int x35), some (.int (((mI M b16 l5.toNatClampNeg) - (3 : Int32)) - ((mI M b16 l5.toNatClampNeg) - (3 : Int32)) / (100 : Int32) * (100 : Int32))), none]) (Nat.le_of_ble_eq_true rfl) rfl rfl dX12_isTrue_67 ?_
        refine v_iload hz rfl dX12_isTrue_69 ?_
        refine v_iconst hz (v := (3 : Int32)) (by decide) dX12_isTrue_71 ?_
        refine v_isub hz dX12_isTrue_72 ?_
        refine v_bipush hz (v := (100 : Int32)) (by decide) dX12_isTrue_73 ?_
        refine v_idiv hz (by decide) dX12_isTrue_75 ?_
        refine v_iconst hz (v := (3 : Int32)) (by decide) dX12_isTrue_76 ?_
        refine v_irem hz (by decide) dX12_isTrue_77 ?_
        refine v_istore hz (lw := [some (.ref l0), some (.int l1), some (.int l2), some (.int l3), some (.int l4), some (.int l5), some (.int (mI M b16 l5.toNatClampNeg)), some (.int x35), some (.int (((mI M b16 l5.toNatClampNeg) - (3 : Int32)) - ((mI M b16 l5.toNatClampNeg) - (3 : Int32)) / (100 : Int32) * (100 : Int32))), some (.int ((((mI M b16 l5.toNatClampNeg) - (3 : Int32)) / (100 : Int32)) - (((mI M b16 l5.toNatClampNeg) - (3 : Int32)) / (100 : Int32)) / (3 : Int32) * (3 : Int32)))]) (Nat.le_of_ble_eq_true rfl) rfl rfl dX12_isTrue_78 ?_
        refine v_aload_n hz rfl rfl dX12_isTrue_80 ?_
        obtain ⟨ck36, h⟩ := ck_inv h
        obtain ⟨ka36, kb36⟩ := isK_of ck36
        obtain ⟨b37, r37, h⟩ := rb_inv h
        refine v_getR hz fl_X12_51 rfl dX12_isTrue_81 ka36 kb36 r37 ?_
        refine v_iload hz rfl dX12_isTrue_84 ?_
        refine v_iinc hz (v := (l4 + (1 : Int32))) (lw := [some (.ref l0), some (.int l1), some (.int l2), some (.int l3), some (.int (l4 + (1 : Int32))), some (.int l5), some (.int (mI M b16 l5.toNatClampNeg)), some (.int x35), some (.int (((mI M b16 l5.toNatClampNeg) - (3 : Int32)) - ((mI M b16 l5.toNatClampNeg) - (3 : Int32)) / (100 : Int32) * (100 : Int32))), some (.int ((((mI M b16 l5.toNatClampNeg) - (3 : Int32)) / (100 : Int32)) - (((mI M b16 l5.toNatClampNeg) - (3 : Int32)) / (100 : Int32)) / (3 : Int32) * (3 : Int32)))]) rfl (congrArg (fun q => l4 + q) (show Int32.ofInt (1) = (1 : Int32) by decide)) rfl rfl dX12_isTrue_86 ?_
        refine v_iload hz rfl dX12_isTrue_89 ?_
        refine v_if_ne (tgt := 109) hz dX12_isTrue_91 (by decide) (fun hc => ?_) (fun hc => ?_)
        · replace h := (if_neg hc).symm.trans h
          refine v_iload hz rfl dX12_isTrue_109 ?_
          refine v_iconst hz (v := (1 : Int32)) (by decide) dX12_isTrue_111 ?_
          refine v_icmp_ne (tgt := 130) hz dX12_isTrue_112 (by decide) (fun hc => ?_) (fun hc => ?_)
          · replace h := (if_neg hc).symm.trans h
            refine v_iload hz rfl dX12_isTrue_130 ?_
            refine v_iload hz rfl dX12_isTrue_132 ?_
            refine v_icmp_le (tgt := 141) hz dX12_isTrue_134 (by decide) (fun hc => ?_) (fun hc => ?_)
            · replace h := (if_pos hc).symm.trans h
              refine v_iconst hz (v := (0 : Int32)) (by decide) dX12_isTrue_141 ?_
              exact v_weak (lvle_s (lvle_s (lvle_s (lvle_s (lvle_s (lvle_s (lvle_n (lvle_n (lvle_n (lvle_n lvle_0)))))))))) (wX12_isTrue_142 hz  (fun h => ih h) h)
            · replace h := (if_neg hc).symm.trans h
              refine v_iconst hz (v := (1 : Int32)) (by decide) dX12_isTrue_137 ?_
              refine v_goto (tgt := 142) hz dX12_isTrue_138 (by decide) ?_
              exact v_weak (lvle_s (lvle_s (lvle_s (lvle_s (lvle_s (lvle_s (lvle_n (lvle_n (lvle_n (lvle_n lvle_0)))))))))) (wX12_isTrue_142 hz  (fun h => ih h) h)
          · replace h := (if_pos hc).symm.trans h
            refine v_iload hz rfl dX12_isTrue_115 ?_
            refine v_iload hz rfl dX12_isTrue_117 ?_
            refine v_icmp_ne (tgt := 126) hz dX12_isTrue_119 (by decide) (fun hc => ?_) (fun hc => ?_)
            · replace h := (if_neg hc).symm.trans h
              refine v_iconst hz (v := (0 : Int32)) (by decide) dX12_isTrue_126 ?_
              refine v_goto (tgt := 142) hz dX12_isTrue_127 (by decide) ?_
              exact v_weak (lvle_s (lvle_s (lvle_s (lvle_s (lvle_s (lvle_s (lvle_n (lvle_n (lvle_n (lvle_n lvle_0)))))))))) (wX12_isTrue_142 hz  (fun h => ih h) h)
            · replace h := (if_pos hc).symm.trans h
              refine v_iconst hz (v := (1 : Int32)) (by decide) dX12_isTrue_122 ?_
              refine v_goto (tgt := 142) hz dX12_isTrue_123 (by decide) ?_
              exact v_weak (lvle_s (lvle_s (lvle_s (lvle_s (lvle_s (lvle_s (lvle_n (lvle_n (lvle_n (lvle_n lvle_0)))))))))) (wX12_isTrue_142 hz  (fun h => ih h) h)
        · replace h := (if_pos hc).symm.trans h
          refine v_iload hz rfl dX12_isTrue_94 ?_
          refine v_iload hz rfl dX12_isTrue_96 ?_
          refine v_icmp_ge (tgt := 105) hz dX12_isTrue_98 (by decide) (fun hc => ?_) (fun hc => ?_)
          · replace h := (if_pos hc).symm.trans h
            refine v_iconst hz (v := (0 : Int32)) (by decide) dX12_isTrue_105 ?_
            refine v_goto (tgt := 142) hz dX12_isTrue_106 (by decide) ?_
            exact v_weak (lvle_s (lvle_s (lvle_s (lvle_s (lvle_s (lvle_s (lvle_n (lvle_n (lvle_n (lvle_n lvle_0)))))))))) (wX12_isTrue_142 hz  (fun h => ih h) h)
          · replace h := (if_neg hc).symm.trans h
            refine v_iconst hz (v := (1 : Int32)) (by decide) dX12_isTrue_101 ?_
            refine v_goto (tgt := 142) hz dX12_isTrue_102 (by decide) ?_
            exact v_weak (lvle_s (lvle_s (lvle_s (lvle_s (lvle_s (lvle_s (lvle_n (lvle_n (lvle_n (lvle_n lvle_0)))))))))) (wX12_isTrue_142 hz  (fun h => ih h) h)
set_option maxRecDepth 100000 in
set_option maxHeartbeats 4000000 in
theorem tX12_isTrue (r : Nat) {fx : Fx} {al : Bool} {M N : Mem} {a0 : Nat} {a1 : Int32} {a2 : Int32} {a3 : Int32} {xr : Int32}  (h : fX12_isTrue M a0 a1 a2 a3 = some (xr, N)) : Ct fx yX12_isTrue cX12_isTrue 10 (some .boolean) (r + 1) 0 0 al [.ref a0, .int a1, .int a2, .int a3] M (some (.int xr)) N := by
  refine ct_of (lv := [some (.ref a0), some (.int a1), some (.int a2), some (.int a3), none, none, none, none, none, none]) (by decide) (Nat.le_of_ble_eq_true rfl) rfl rfl (fun z hz => ?_)
  unfold fX12_isTrue at h
  refine v_iconst hz (v := (0 : Int32)) (by decide) dX12_isTrue_0 ?_
  refine v_istore hz (lw := [some (.ref a0), some (.int a1), some (.int a2), some (.int a3), some (.int (0 : Int32)), none, none, none, none, none]) (Nat.le_of_ble_eq_true rfl) rfl rfl dX12_isTrue_1 ?_
  refine v_aload_n hz rfl rfl dX12_isTrue_3 ?_
  obtain ⟨ck1, h⟩ := ck_inv h
  obtain ⟨ka1, kb1⟩ := isK_of ck1
  obtain ⟨b2, r2, h⟩ := rb_inv h
  refine v_getR hz fl_X12_42 rfl dX12_isTrue_4 ka1 kb1 r2 ?_
  refine v_iload_n hz rfl rfl dX12_isTrue_7 ?_
  obtain ⟨ck3, h⟩ := ck_inv h
  obtain ⟨ka3, kb3⟩ := isK_of ck3
  obtain ⟨g4, h⟩ := ck_inv h
  refine v_iaload hz dX12_isTrue_8 ka3 kb3 g4 ?_
  refine v_istore hz (lw := [some (.ref a0), some (.int a1), some (.int a2), some (.int a3), some (.int (0 : Int32)), some (.int (mI M b2 a3.toNatClampNeg)), none, none, none, none]) (Nat.le_of_ble_eq_true rfl) rfl rfl dX12_isTrue_9 ?_
  exact v_weak (lvle_s (lvle_s (lvle_s (lvle_s (lvle_s (lvle_s (lvle_n (lvle_n (lvle_n (lvle_n lvle_0)))))))))) (wX12_isTrue_11 hz   h)
noncomputable def gX12_sum_97 (K10 : Mem → Nat → Int32 → Int32 → Int32 → Int32 → Option (Int32 × Mem)) (M : Mem) (l0 : Nat) (l1 : Int32) (l2 : Int32) (l3 : Int32) (l4 : Int32) : Option (Int32 × Mem) :=
  K10 M l0 l1 l2 l3 (l4 + (1 : Int32))
noncomputable def gX12_sum_95 (K10 : Mem → Nat → Int32 → Int32 → Int32 → Int32 → Option (Int32 × Mem)) (M : Mem) (l0 : Nat) (l1 : Int32) (l2 : Int32) (l4 : Int32) (s0 : Int32) (s1 : Int32) : Option (Int32 × Mem) :=
  gX12_sum_97 K10 M l0 l1 l2 (s1 + s0) l4
noncomputable def gX12_sum_10  : Nat → Mem → Nat → Int32 → Int32 → Int32 → Int32 → Option (Int32 × Mem)
  | 0, _, _, _, _, _, _ => none
  | n + 1, M, l0, l1, l2, l3, l4 => ck (isK M l0 12) <| if (mI M l0 15) = (-1 : Int32) then (some (l3, M)) else (rb (mR M l0 16) fun b6 => ck (isK M b6 14) <| ck (inb (mI M l0 15) (mG M b6)) <| if (mI M b6 (mI M l0 15).toNatClampNeg) ≤ l4 then (some (l3, M)) else (rb (mR M l0 17) fun b9 => ck (isK M b9 14) <| ck (inb (((10 : Int32) * (mI M l0 15)) + l4) (mG M b9)) <| if (2 : Int32) ≤ (mI M b9 (((10 : Int32) * (mI M l0 15)) + l4).toNatClampNeg) then (gX12_sum_97 (gX12_sum_10 n) M l0 l1 l2 l3 l4) else (bd (fX12_isTrue M l0 l1 l2 (((10 : Int32) * (mI M l0 15)) + l4)) fun x12 M12 => if x12 = 0 then (gX12_sum_97 (gX12_sum_10 n) M12 l0 l1 l2 l3 l4) else (ck (isK M12 l0 12) <| rb (mR M12 l0 17) fun b14 => ck (isK M12 b14 14) <| ck (inb (((10 : Int32) * (mI M l0 15)) + l4) (mG M12 b14)) <| if (mI M12 b14 (((10 : Int32) * (mI M l0 15)) + l4).toNatClampNeg) = 0 then (rb (mR M12 l0 18) fun b20 => ck (isK M12 b20 14) <| ck (inb (((10 : Int32) * (mI M l0 15)) + l4) (mG M12 b20)) <| gX12_sum_95 (gX12_sum_10 n) M12 l0 l1 l2 l4 (mI M12 b20 (((10 : Int32) * (mI M l0 15)) + l4).toNatClampNeg) l3) else (rb (mR M12 l0 18) fun b17 => ck (isK M12 b17 14) <| ck (inb (((10 : Int32) * (mI M l0 15)) + l4) (mG M12 b17)) <| gX12_sum_95 (gX12_sum_10 n) M12 l0 l1 l2 l4 (-(mI M12 b17 (((10 : Int32) * (mI M l0 15)) + l4).toNatClampNeg)) l3)))))
noncomputable def fX12_sum (M : Mem) (a0 : Nat) (a1 : Int32) (a2 : Int32) : Option (Int32 × Mem) :=
  ck (isK M a0 12) <| rb (mR M a0 0) fun b2 => ck (isK M b2 14) <| ck (inb a2 (mG M b2)) <| gX12_sum_10 FU M a0 a1 a2 (mI M b2 a2.toNatClampNeg) (0 : Int32)
set_option maxRecDepth 100000 in
set_option maxHeartbeats 4000000 in
theorem wX12_sum_97 {z : Zx} {fx : Fx} {al : Bool} {r : Nat} {N : Mem} {xr : Int32} (hz : Zok z fx al yX12_sum.cls yX12_sum.name cX12_sum (some .int) 6 (r + 2) 0 0 (some (.int xr)) N)  {K10 : Mem → Nat → Int32 → Int32 → Int32 → Int32 → Option (Int32 × Mem)} (hK10 : ∀ {M : Mem} {l0 : Nat} {l1 : Int32} {l2 : Int32} {l3 : Int32} {l4 : Int32}, K10 M l0 l1 l2 l3 l4 = some (xr, N) → V z 10 [some (.ref l0), some (.int l1), some (.int l2), some (.int l3), some (.int l4), none] [] M 0 0) {M : Mem} {l0 : Nat} {l1 : Int32} {l2 : Int32} {l3 : Int32} {l4 : Int32} (h : gX12_sum_97 K10 M l0 l1 l2 l3 l4 = some (xr, N)) : V z 97 [some (.ref l0), some (.int l1), some (.int l2), some (.int l3), some (.int l4), none] [] M 0 0 := by
  unfold gX12_sum_97 at h
  refine v_iinc hz (v := (l4 + (1 : Int32))) (lw := [some (.ref l0), some (.int l1), some (.int l2), some (.int l3), some (.int (l4 + (1 : Int32))), none]) rfl (congrArg (fun q => l4 + q) (show Int32.ofInt (1) = (1 : Int32) by decide)) rfl rfl dX12_sum_97 ?_
  refine v_goto (tgt := 10) hz dX12_sum_100 (by decide) ?_
  exact v_weak (lvle_s (lvle_s (lvle_s (lvle_s (lvle_s (lvle_n lvle_0)))))) (hK10 h)
set_option maxRecDepth 100000 in
set_option maxHeartbeats 4000000 in
theorem wX12_sum_95 {z : Zx} {fx : Fx} {al : Bool} {r : Nat} {N : Mem} {xr : Int32} (hz : Zok z fx al yX12_sum.cls yX12_sum.name cX12_sum (some .int) 6 (r + 2) 0 0 (some (.int xr)) N)  {K10 : Mem → Nat → Int32 → Int32 → Int32 → Int32 → Option (Int32 × Mem)} (hK10 : ∀ {M : Mem} {l0 : Nat} {l1 : Int32} {l2 : Int32} {l3 : Int32} {l4 : Int32}, K10 M l0 l1 l2 l3 l4 = some (xr, N) → V z 10 [some (.ref l0), some (.int l1), some (.int l2), some (.int l3), some (.int l4), none] [] M 0 0) {M : Mem} {l0 : Nat} {l1 : Int32} {l2 : Int32} {l4 : Int32} {s0 : Int32} {s1 : Int32} (h : gX12_sum_95 K10 M l0 l1 l2 l4 s0 s1 = some (xr, N)) : V z 95 [some (.ref l0), some (.int l1), some (.int l2), none, some (.int l4), none] [.int s0, .int s1] M 0 0 := by
  unfold gX12_sum_95 at h
  refine v_iadd hz dX12_sum_95 ?_
  refine v_istore_n hz (lw := [some (.ref l0), some (.int l1), some (.int l2), some (.int (s1 + s0)), some (.int l4), none]) rfl (Nat.le_of_ble_eq_true rfl) rfl rfl dX12_sum_96 ?_
  exact v_weak (lvle_s (lvle_s (lvle_s (lvle_s (lvle_s (lvle_n lvle_0)))))) (wX12_sum_97 hz  (fun h => hK10 h) h)
set_option maxRecDepth 100000 in
set_option maxHeartbeats 4000000 in
theorem gX12_sum_10_s  (n : Nat) (M : Mem) (l0 : Nat) (l1 : Int32) (l2 : Int32) (l3 : Int32) (l4 : Int32) : gX12_sum_10  (n + 1) M l0 l1 l2 l3 l4 = (ck (isK M l0 12) <| if (mI M l0 15) = (-1 : Int32) then (some (l3, M)) else (rb (mR M l0 16) fun b6 => ck (isK M b6 14) <| ck (inb (mI M l0 15) (mG M b6)) <| if (mI M b6 (mI M l0 15).toNatClampNeg) ≤ l4 then (some (l3, M)) else (rb (mR M l0 17) fun b9 => ck (isK M b9 14) <| ck (inb (((10 : Int32) * (mI M l0 15)) + l4) (mG M b9)) <| if (2 : Int32) ≤ (mI M b9 (((10 : Int32) * (mI M l0 15)) + l4).toNatClampNeg) then (gX12_sum_97 (gX12_sum_10 n) M l0 l1 l2 l3 l4) else (bd (fX12_isTrue M l0 l1 l2 (((10 : Int32) * (mI M l0 15)) + l4)) fun x12 M12 => if x12 = 0 then (gX12_sum_97 (gX12_sum_10 n) M12 l0 l1 l2 l3 l4) else (ck (isK M12 l0 12) <| rb (mR M12 l0 17) fun b14 => ck (isK M12 b14 14) <| ck (inb (((10 : Int32) * (mI M l0 15)) + l4) (mG M12 b14)) <| if (mI M12 b14 (((10 : Int32) * (mI M l0 15)) + l4).toNatClampNeg) = 0 then (rb (mR M12 l0 18) fun b20 => ck (isK M12 b20 14) <| ck (inb (((10 : Int32) * (mI M l0 15)) + l4) (mG M12 b20)) <| gX12_sum_95 (gX12_sum_10 n) M12 l0 l1 l2 l4 (mI M12 b20 (((10 : Int32) * (mI M l0 15)) + l4).toNatClampNeg) l3) else (rb (mR M12 l0 18) fun b17 => ck (isK M12 b17 14) <| ck (inb (((10 : Int32) * (mI M l0 15)) + l4) (mG M12 b17)) <| gX12_sum_95 (gX12_sum_10 n) M12 l0 l1 l2 l4 (-(mI M12 b17 (((10 : Int32) * (mI M l0 15)) + l4).toNatClampNeg)) l3)))))) := rfl
set_option maxRecDepth 100000 in
set_option maxHeartbeats 4000000 in
theorem wX12_sum_10 {z : Zx} {fx : Fx} {al : Bool} {r : Nat} {N : Mem} {xr : Int32} (hz : Zok z fx al yX12_sum.cls yX12_sum.name cX12_sum (some .int) 6 (r + 2) 0 0 (some (.int xr)) N)    : ∀ {n : Nat} {M : Mem} {l0 : Nat} {l1 : Int32} {l2 : Int32} {l3 : Int32} {l4 : Int32}, gX12_sum_10  n M l0 l1 l2 l3 l4 = some (xr, N) → V z 10 [some (.ref l0), some (.int l1), some (.int l2), some (.int l3), some (.int l4), none] [] M 0 0 := by
  intro n
  induction n with
  | zero => intro M l0 l1 l2 l3 l4 h; cases h
  | succ n ih =>
    intro M l0 l1 l2 l3 l4 h
    replace h := (gX12_sum_10_s  n M l0 l1 l2 l3 l4).symm.trans h
    refine v_aload_n hz rfl rfl dX12_sum_10 ?_
    obtain ⟨ck5, h⟩ := ck_inv h
    obtain ⟨ka5, kb5⟩ := isK_of ck5
    refine v_getI hz fl_X12_101 rfl dX12_sum_11 ka5 kb5 ?_
    refine v_iconst hz (v := (-1 : Int32)) (by decide) dX12_sum_14 ?_
    refine v_icmp_eq (tgt := 103) hz dX12_sum_15 (by decide) (fun hc => ?_) (fun hc => ?_)
    · replace h := (if_pos hc).symm.trans h
      refine v_iload_n hz rfl rfl dX12_sum_103 ?_
      obtain ⟨rfl, rfl⟩ := sp_inv h
      exact v_iret hz dX12_sum_104 (by decide) (by decide)
    · replace h := (if_neg hc).symm.trans h
      refine v_iload hz rfl dX12_sum_18 ?_
      refine v_aload_n hz rfl rfl dX12_sum_20 ?_
      obtain ⟨b6, r6, h⟩ := rb_inv h
      refine v_getR hz fl_X12_33 rfl dX12_sum_21 ka5 kb5 r6 ?_
      refine v_aload_n hz rfl rfl dX12_sum_24 ?_
      refine v_getI hz fl_X12_101 rfl dX12_sum_25 ka5 kb5 ?_
      obtain ⟨ck7, h⟩ := ck_inv h
      obtain ⟨ka7, kb7⟩ := isK_of ck7
      obtain ⟨g8, h⟩ := ck_inv h
      refine v_iaload hz dX12_sum_28 ka7 kb7 g8 ?_
      refine v_icmp_ge (tgt := 103) hz dX12_sum_29 (by decide) (fun hc => ?_) (fun hc => ?_)
      · replace h := (if_pos hc).symm.trans h
        refine v_iload_n hz rfl rfl dX12_sum_103 ?_
        obtain ⟨rfl, rfl⟩ := sp_inv h
        exact v_iret hz dX12_sum_104 (by decide) (by decide)
      · replace h := (if_neg hc).symm.trans h
        refine v_bipush hz (v := (10 : Int32)) (by decide) dX12_sum_32 ?_
        refine v_aload_n hz rfl rfl dX12_sum_34 ?_
        refine v_getI hz fl_X12_101 rfl dX12_sum_35 ka5 kb5 ?_
        refine v_imul hz dX12_sum_38 ?_
        refine v_iload hz rfl dX12_sum_39 ?_
        refine v_iadd hz dX12_sum_41 ?_
        refine v_istore hz (lw := [some (.ref l0), some (.int l1), some (.int l2), some (.int l3), some (.int l4), some (.int (((10 : Int32) * (mI M l0 15)) + l4))]) (Nat.le_of_ble_eq_true rfl) rfl rfl dX12_sum_42 ?_
        refine v_aload_n hz rfl rfl dX12_sum_44 ?_
        obtain ⟨b9, r9, h⟩ := rb_inv h
        refine v_getR hz fl_X12_36 rfl dX12_sum_45 ka5 kb5 r9 ?_
        refine v_iload hz rfl dX12_sum_48 ?_
        obtain ⟨ck10, h⟩ := ck_inv h
        obtain ⟨ka10, kb10⟩ := isK_of ck10
        obtain ⟨g11, h⟩ := ck_inv h
        refine v_iaload hz dX12_sum_50 ka10 kb10 g11 ?_
        refine v_iconst hz (v := (2 : Int32)) (by decide) dX12_sum_51 ?_
        refine v_icmp_ge (tgt := 97) hz dX12_sum_52 (by decide) (fun hc => ?_) (fun hc => ?_)
        · replace h := (if_pos hc).symm.trans h
          exact v_weak (lvle_s (lvle_s (lvle_s (lvle_s (lvle_s (lvle_n lvle_0)))))) (wX12_sum_97 hz  (fun h => ih h) h)
        · replace h := (if_neg hc).symm.trans h
          refine v_aload_n hz rfl rfl dX12_sum_55 ?_
          refine v_iload_n hz rfl rfl dX12_sum_56 ?_
          refine v_iload_n hz rfl rfl dX12_sum_57 ?_
          refine v_iload hz rfl dX12_sum_58 ?_
          obtain ⟨x12, M12, e12, h⟩ := bd_inv h
          refine v_callV hz (As := [.int l1, .int l2, .int (((10 : Int32) * (mI M l0 15)) + l4)]) vl_X12_215 (tX12_isTrue (r + 0) e12) rfl (by decide) ka5 kb5 rfl rfl rfl (Nat.le_of_ble_eq_true rfl) ⟨by decide, by decide⟩ dX12_sum_60 ?_
          show V z 63 [some (.ref l0), some (.int l1), some (.int l2), some (.int l3), some (.int l4), some (.int (((10 : Int32) * (mI M l0 15)) + l4))] [.int x12] M12 0 0
          refine v_if_eq (tgt := 97) hz dX12_sum_63 (by decide) (fun hc => ?_) (fun hc => ?_)
          · replace h := (if_pos hc).symm.trans h
            exact v_weak (lvle_s (lvle_s (lvle_s (lvle_s (lvle_s (lvle_n lvle_0)))))) (wX12_sum_97 hz  (fun h => ih h) h)
          · replace h := (if_neg hc).symm.trans h
            refine v_iload_n hz rfl rfl dX12_sum_66 ?_
            refine v_aload_n hz rfl rfl dX12_sum_67 ?_
            obtain ⟨ck13, h⟩ := ck_inv h
            obtain ⟨ka13, kb13⟩ := isK_of ck13
            obtain ⟨b14, r14, h⟩ := rb_inv h
            refine v_getR hz fl_X12_36 rfl dX12_sum_68 ka13 kb13 r14 ?_
            refine v_iload hz rfl dX12_sum_71 ?_
            obtain ⟨ck15, h⟩ := ck_inv h
            obtain ⟨ka15, kb15⟩ := isK_of ck15
            obtain ⟨g16, h⟩ := ck_inv h
            refine v_iaload hz dX12_sum_73 ka15 kb15 g16 ?_
            refine v_if_ne (tgt := 87) hz dX12_sum_74 (by decide) (fun hc => ?_) (fun hc => ?_)
            · replace h := (if_neg hc).symm.trans h
              refine v_aload_n hz rfl rfl dX12_sum_87 ?_
              obtain ⟨b17, r17, h⟩ := rb_inv h
              refine v_getR hz fl_X12_39 rfl dX12_sum_88 ka13 kb13 r17 ?_
              refine v_iload hz rfl dX12_sum_91 ?_
              obtain ⟨ck18, h⟩ := ck_inv h
              obtain ⟨ka18, kb18⟩ := isK_of ck18
              obtain ⟨g19, h⟩ := ck_inv h
              refine v_iaload hz dX12_sum_93 ka18 kb18 g19 ?_
              refine v_ineg hz dX12_sum_94 ?_
              exact v_weak (lvle_s (lvle_s (lvle_s (lvle_n (lvle_s (lvle_n lvle_0)))))) (wX12_sum_95 hz  (fun h => ih h) h)
            · replace h := (if_pos hc).symm.trans h
              refine v_aload_n hz rfl rfl dX12_sum_77 ?_
              obtain ⟨b20, r20, h⟩ := rb_inv h
              refine v_getR hz fl_X12_39 rfl dX12_sum_78 ka13 kb13 r20 ?_
              refine v_iload hz rfl dX12_sum_81 ?_
              obtain ⟨ck21, h⟩ := ck_inv h
              obtain ⟨ka21, kb21⟩ := isK_of ck21
              obtain ⟨g22, h⟩ := ck_inv h
              refine v_iaload hz dX12_sum_83 ka21 kb21 g22 ?_
              refine v_goto (tgt := 95) hz dX12_sum_84 (by decide) ?_
              exact v_weak (lvle_s (lvle_s (lvle_s (lvle_n (lvle_s (lvle_n lvle_0)))))) (wX12_sum_95 hz  (fun h => ih h) h)
set_option maxRecDepth 100000 in
set_option maxHeartbeats 4000000 in
theorem tX12_sum (r : Nat) {fx : Fx} {al : Bool} {M N : Mem} {a0 : Nat} {a1 : Int32} {a2 : Int32} {xr : Int32}  (h : fX12_sum M a0 a1 a2 = some (xr, N)) : Ct fx yX12_sum cX12_sum 6 (some .int) (r + 2) 0 0 al [.ref a0, .int a1, .int a2] M (some (.int xr)) N := by
  refine ct_of (lv := [some (.ref a0), some (.int a1), some (.int a2), none, none, none]) (by decide) (Nat.le_of_ble_eq_true rfl) rfl rfl (fun z hz => ?_)
  unfold fX12_sum at h
  refine v_aload_n hz rfl rfl dX12_sum_0 ?_
  obtain ⟨ck1, h⟩ := ck_inv h
  obtain ⟨ka1, kb1⟩ := isK_of ck1
  obtain ⟨b2, r2, h⟩ := rb_inv h
  refine v_getR hz fl_X12_9 rfl dX12_sum_1 ka1 kb1 r2 ?_
  refine v_iload_n hz rfl rfl dX12_sum_4 ?_
  obtain ⟨ck3, h⟩ := ck_inv h
  obtain ⟨ka3, kb3⟩ := isK_of ck3
  obtain ⟨g4, h⟩ := ck_inv h
  refine v_iaload hz dX12_sum_5 ka3 kb3 g4 ?_
  refine v_istore_n hz (lw := [some (.ref a0), some (.int a1), some (.int a2), some (.int (mI M b2 a2.toNatClampNeg)), none, none]) rfl (Nat.le_of_ble_eq_true rfl) rfl rfl dX12_sum_6 ?_
  refine v_iconst hz (v := (0 : Int32)) (by decide) dX12_sum_7 ?_
  refine v_istore hz (lw := [some (.ref a0), some (.int a1), some (.int a2), some (.int (mI M b2 a2.toNatClampNeg)), some (.int (0 : Int32)), none]) (Nat.le_of_ble_eq_true rfl) rfl rfl dX12_sum_8 ?_
  exact v_weak (lvle_s (lvle_s (lvle_s (lvle_s (lvle_s (lvle_n lvle_0)))))) (wX12_sum_10 hz   h)
