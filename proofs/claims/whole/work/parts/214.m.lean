noncomputable def gX12_pullOf_24  (M : Mem) (l0 : Nat) (l1 : Int32) (l2 : Int32) (l3 : Int32) (s0 : Int32) : Option (Int32 × Mem) :=
  ck (isK M l0 12) <| rb (mR M l0 2) fun b5 => ck (isK M b5 14) <| ck (inb l1 (mG M b5)) <| if (mI M b5 l1.toNatClampNeg) = (2 : Int32) then (some ((-l3), M)) else if (mI M b5 l1.toNatClampNeg) = (3 : Int32) then (some (s0, M)) else if (mI M b5 l1.toNatClampNeg) = (4 : Int32) then (if (l2 - l2 / (2 : Int32) * (2 : Int32)) = 0 then (rb (mR M l0 3) fun b9 => ck (isK M b9 14) <| ck (inb l1 (mG M b9)) <| some ((l3 + (mI M b9 l1.toNatClampNeg)), M)) else (some (l3, M))) else if (mI M b5 l1.toNatClampNeg) = (5 : Int32) then (rb (mR M l0 4) fun b12 => ck (isK M b12 14) <| ck (inb l1 (mG M b12)) <| if (4 : Int32) ≤ ((mI M b12 l1.toNatClampNeg) - (mI M b12 l1.toNatClampNeg) / (5 : Int32) * (5 : Int32)) then (some ((-l3), M)) else (ck (inb l1 (mG M b12)) <| if l2 = ((mI M b12 l1.toNatClampNeg) + (1 : Int32)) then (some (((20 : Int32) - l3), M)) else (some ((-l3), M)))) else if (mI M b5 l1.toNatClampNeg) = (6 : Int32) then (rb (mR M l0 6) fun b16 => ck (isK M b16 14) <| ck (inb (((4 : Int32) * l1) + ((mI M l0 7) - (mI M l0 7) / (4 : Int32) * (4 : Int32))) (mG M b16)) <| some ((s0 + (mI M b16 (((4 : Int32) * l1) + ((mI M l0 7) - (mI M l0 7) / (4 : Int32) * (4 : Int32))).toNatClampNeg)), M)) else (some (l3, M))
noncomputable def fX12_pullOf (M : Mem) (a0 : Nat) (a1 : Int32) (a2 : Int32) : Option (Int32 × Mem) :=
  ck (isK M a0 12) <| bd (fX12_sum M a0 a1 a2) fun x2 M2 => ck (isK M2 a0 12) <| if ((mI M2 a0 7) - (mI M2 a0 7) / (2 : Int32) * (2 : Int32)) = (1 : Int32) then (gX12_pullOf_24 M2 a0 a1 a2 x2 (x2 / (2 : Int32))) else (gX12_pullOf_24 M2 a0 a1 a2 x2 x2)
set_option maxRecDepth 100000 in
set_option maxHeartbeats 4000000 in
theorem wX12_pullOf_24 {z : Zx} {fx : Fx} {al : Bool} {r : Nat} {N : Mem} {xr : Int32} (hz : Zok z fx al yX12_pullOf.cls yX12_pullOf.name cX12_pullOf (some .int) 5 (r + 3) 0 0 (some (.int xr)) N)    {M : Mem} {l0 : Nat} {l1 : Int32} {l2 : Int32} {l3 : Int32} {s0 : Int32} (h : gX12_pullOf_24  M l0 l1 l2 l3 s0 = some (xr, N)) : V z 24 [some (.ref l0), some (.int l1), some (.int l2), some (.int l3), none] [.int s0] M 0 0 := by
  unfold gX12_pullOf_24 at h
  refine v_istore hz (lw := [some (.ref l0), some (.int l1), some (.int l2), some (.int l3), some (.int s0)]) (Nat.le_of_ble_eq_true rfl) rfl rfl dX12_pullOf_24 ?_
  refine v_aload_n hz rfl rfl dX12_pullOf_26 ?_
  obtain ⟨ck4, h⟩ := ck_inv h
  obtain ⟨ka4, kb4⟩ := isK_of ck4
  obtain ⟨b5, r5, h⟩ := rb_inv h
  refine v_getR hz fl_X12_15 rfl dX12_pullOf_27 ka4 kb4 r5 ?_
  refine v_iload_n hz rfl rfl dX12_pullOf_30 ?_
  obtain ⟨ck6, h⟩ := ck_inv h
  obtain ⟨ka6, kb6⟩ := isK_of ck6
  obtain ⟨g7, h⟩ := ck_inv h
  refine v_iaload hz dX12_pullOf_31 ka6 kb6 g7 ?_
  by_cases hs8_0 : (mI M b5 l1.toNatClampNeg) = (2 : Int32)
  · replace h := (if_pos hs8_0).symm.trans h
    refine v_tableAt (tgt := 68) hz hs8_0 dX12_pullOf_32 (by decide) (by decide) (by decide) (by decide) ?_
    refine v_iload_n hz rfl rfl dX12_pullOf_68 ?_
    refine v_ineg hz dX12_pullOf_69 ?_
    obtain ⟨rfl, rfl⟩ := sp_inv h
    exact v_iret hz dX12_pullOf_70 (by decide) (by decide)
  replace h := (if_neg hs8_0).symm.trans h
  by_cases hs8_1 : (mI M b5 l1.toNatClampNeg) = (3 : Int32)
  · replace h := (if_pos hs8_1).symm.trans h
    refine v_tableAt (tgt := 71) hz hs8_1 dX12_pullOf_32 (by decide) (by decide) (by decide) (by decide) ?_
    refine v_iload hz rfl dX12_pullOf_71 ?_
    obtain ⟨rfl, rfl⟩ := sp_inv h
    exact v_iret hz dX12_pullOf_73 (by decide) (by decide)
  replace h := (if_neg hs8_1).symm.trans h
  by_cases hs8_2 : (mI M b5 l1.toNatClampNeg) = (4 : Int32)
  · replace h := (if_pos hs8_2).symm.trans h
    refine v_tableAt (tgt := 74) hz hs8_2 dX12_pullOf_32 (by decide) (by decide) (by decide) (by decide) ?_
    refine v_iload_n hz rfl rfl dX12_pullOf_74 ?_
    refine v_iconst hz (v := (2 : Int32)) (by decide) dX12_pullOf_75 ?_
    refine v_irem hz (by decide) dX12_pullOf_76 ?_
    refine v_if_ne (tgt := 91) hz dX12_pullOf_77 (by decide) (fun hc => ?_) (fun hc => ?_)
    · replace h := (if_neg hc).symm.trans h
      refine v_iload_n hz rfl rfl dX12_pullOf_91 ?_
      obtain ⟨rfl, rfl⟩ := sp_inv h
      exact v_iret hz dX12_pullOf_92 (by decide) (by decide)
    · replace h := (if_pos hc).symm.trans h
      refine v_iload_n hz rfl rfl dX12_pullOf_80 ?_
      refine v_aload_n hz rfl rfl dX12_pullOf_81 ?_
      obtain ⟨b9, r9, h⟩ := rb_inv h
      refine v_getR hz fl_X12_18 rfl dX12_pullOf_82 ka4 kb4 r9 ?_
      refine v_iload_n hz rfl rfl dX12_pullOf_85 ?_
      obtain ⟨ck10, h⟩ := ck_inv h
      obtain ⟨ka10, kb10⟩ := isK_of ck10
      obtain ⟨g11, h⟩ := ck_inv h
      refine v_iaload hz dX12_pullOf_86 ka10 kb10 g11 ?_
      refine v_iadd hz dX12_pullOf_87 ?_
      refine v_goto (tgt := 92) hz dX12_pullOf_88 (by decide) ?_
      obtain ⟨rfl, rfl⟩ := sp_inv h
      exact v_iret hz dX12_pullOf_92 (by decide) (by decide)
  replace h := (if_neg hs8_2).symm.trans h
  by_cases hs8_3 : (mI M b5 l1.toNatClampNeg) = (5 : Int32)
  · replace h := (if_pos hs8_3).symm.trans h
    refine v_tableAt (tgt := 93) hz hs8_3 dX12_pullOf_32 (by decide) (by decide) (by decide) (by decide) ?_
    refine v_aload_n hz rfl rfl dX12_pullOf_93 ?_
    obtain ⟨b12, r12, h⟩ := rb_inv h
    refine v_getR hz fl_X12_21 rfl dX12_pullOf_94 ka4 kb4 r12 ?_
    refine v_iload_n hz rfl rfl dX12_pullOf_97 ?_
    obtain ⟨ck13, h⟩ := ck_inv h
    obtain ⟨ka13, kb13⟩ := isK_of ck13
    obtain ⟨g14, h⟩ := ck_inv h
    refine v_iaload hz dX12_pullOf_98 ka13 kb13 g14 ?_
    refine v_iconst hz (v := (5 : Int32)) (by decide) dX12_pullOf_99 ?_
    refine v_irem hz (by decide) dX12_pullOf_100 ?_
    refine v_iconst hz (v := (4 : Int32)) (by decide) dX12_pullOf_101 ?_
    refine v_icmp_ge (tgt := 124) hz dX12_pullOf_102 (by decide) (fun hc => ?_) (fun hc => ?_)
    · replace h := (if_pos hc).symm.trans h
      refine v_iload_n hz rfl rfl dX12_pullOf_124 ?_
      refine v_ineg hz dX12_pullOf_125 ?_
      obtain ⟨rfl, rfl⟩ := sp_inv h
      exact v_iret hz dX12_pullOf_126 (by decide) (by decide)
    · replace h := (if_neg hc).symm.trans h
      refine v_iload_n hz rfl rfl dX12_pullOf_105 ?_
      refine v_aload_n hz rfl rfl dX12_pullOf_106 ?_
      refine v_getR hz fl_X12_21 rfl dX12_pullOf_107 ka4 kb4 r12 ?_
      refine v_iload_n hz rfl rfl dX12_pullOf_110 ?_
      obtain ⟨g15, h⟩ := ck_inv h
      refine v_iaload hz dX12_pullOf_111 ka13 kb13 g15 ?_
      refine v_iconst hz (v := (1 : Int32)) (by decide) dX12_pullOf_112 ?_
      refine v_iadd hz dX12_pullOf_113 ?_
      refine v_icmp_ne (tgt := 124) hz dX12_pullOf_114 (by decide) (fun hc => ?_) (fun hc => ?_)
      · replace h := (if_neg hc).symm.trans h
        refine v_iload_n hz rfl rfl dX12_pullOf_124 ?_
        refine v_ineg hz dX12_pullOf_125 ?_
        obtain ⟨rfl, rfl⟩ := sp_inv h
        exact v_iret hz dX12_pullOf_126 (by decide) (by decide)
      · replace h := (if_pos hc).symm.trans h
        refine v_bipush hz (v := (20 : Int32)) (by decide) dX12_pullOf_117 ?_
        refine v_iload_n hz rfl rfl dX12_pullOf_119 ?_
        refine v_isub hz dX12_pullOf_120 ?_
        refine v_goto (tgt := 126) hz dX12_pullOf_121 (by decide) ?_
        obtain ⟨rfl, rfl⟩ := sp_inv h
        exact v_iret hz dX12_pullOf_126 (by decide) (by decide)
  replace h := (if_neg hs8_3).symm.trans h
  by_cases hs8_4 : (mI M b5 l1.toNatClampNeg) = (6 : Int32)
  · replace h := (if_pos hs8_4).symm.trans h
    refine v_tableAt (tgt := 127) hz hs8_4 dX12_pullOf_32 (by decide) (by decide) (by decide) (by decide) ?_
    refine v_iload hz rfl dX12_pullOf_127 ?_
    refine v_aload_n hz rfl rfl dX12_pullOf_129 ?_
    obtain ⟨b16, r16, h⟩ := rb_inv h
    refine v_getR hz fl_X12_27 rfl dX12_pullOf_130 ka4 kb4 r16 ?_
    refine v_iconst hz (v := (4 : Int32)) (by decide) dX12_pullOf_133 ?_
    refine v_iload_n hz rfl rfl dX12_pullOf_134 ?_
    refine v_imul hz dX12_pullOf_135 ?_
    refine v_aload_n hz rfl rfl dX12_pullOf_136 ?_
    refine v_getI hz fl_X12_208 rfl dX12_pullOf_137 ka4 kb4 ?_
    refine v_iconst hz (v := (4 : Int32)) (by decide) dX12_pullOf_140 ?_
    refine v_irem hz (by decide) dX12_pullOf_141 ?_
    refine v_iadd hz dX12_pullOf_142 ?_
    obtain ⟨ck17, h⟩ := ck_inv h
    obtain ⟨ka17, kb17⟩ := isK_of ck17
    obtain ⟨g18, h⟩ := ck_inv h
    refine v_iaload hz dX12_pullOf_143 ka17 kb17 g18 ?_
    refine v_iadd hz dX12_pullOf_144 ?_
    obtain ⟨rfl, rfl⟩ := sp_inv h
    exact v_iret hz dX12_pullOf_145 (by decide) (by decide)
  replace h := (if_neg hs8_4).symm.trans h
  refine v_tableOut (tgt := 146) hz dX12_pullOf_32 (by have q0 := lv_neT hs8_0 (show ((2 : Int32)).toInt = 2 by decide); have q1 := lv_neT hs8_1 (show ((3 : Int32)).toInt = 3 by decide); have q2 := lv_neT hs8_2 (show ((4 : Int32)).toInt = 4 by decide); have q3 := lv_neT hs8_3 (show ((5 : Int32)).toInt = 5 by decide); have q4 := lv_neT hs8_4 (show ((6 : Int32)).toInt = 6 by decide); omega) (by decide) ?_
  refine v_iload_n hz rfl rfl dX12_pullOf_146 ?_
  obtain ⟨rfl, rfl⟩ := sp_inv h
  exact v_iret hz dX12_pullOf_147 (by decide) (by decide)
set_option maxRecDepth 100000 in
set_option maxHeartbeats 4000000 in
theorem tX12_pullOf (r : Nat) {fx : Fx} {al : Bool} {M N : Mem} {a0 : Nat} {a1 : Int32} {a2 : Int32} {xr : Int32}  (h : fX12_pullOf M a0 a1 a2 = some (xr, N)) : Ct fx yX12_pullOf cX12_pullOf 5 (some .int) (r + 3) 0 0 al [.ref a0, .int a1, .int a2] M (some (.int xr)) N := by
  refine ct_of (lv := [some (.ref a0), some (.int a1), some (.int a2), none, none]) (by decide) (Nat.le_of_ble_eq_true rfl) rfl rfl (fun z hz => ?_)
  unfold fX12_pullOf at h
  refine v_aload_n hz rfl rfl dX12_pullOf_0 ?_
  refine v_iload_n hz rfl rfl dX12_pullOf_1 ?_
  refine v_iload_n hz rfl rfl dX12_pullOf_2 ?_
  obtain ⟨ck1, h⟩ := ck_inv h
  obtain ⟨ka1, kb1⟩ := isK_of ck1
  obtain ⟨x2, M2, e2, h⟩ := bd_inv h
  refine v_callV hz (As := [.int a1, .int a2]) vl_X12_218 (tX12_sum (r + 0) e2) rfl (by decide) ka1 kb1 rfl rfl rfl (Nat.le_of_ble_eq_true rfl) ⟨by decide, by decide⟩ dX12_pullOf_3 ?_
  show V z 6 [some (.ref a0), some (.int a1), some (.int a2), none, none] [.int x2] M2 0 0
  refine v_istore_n hz (lw := [some (.ref a0), some (.int a1), some (.int a2), some (.int x2), none]) rfl (Nat.le_of_ble_eq_true rfl) rfl rfl dX12_pullOf_6 ?_
  refine v_aload_n hz rfl rfl dX12_pullOf_7 ?_
  obtain ⟨ck3, h⟩ := ck_inv h
  obtain ⟨ka3, kb3⟩ := isK_of ck3
  refine v_getI hz fl_X12_208 rfl dX12_pullOf_8 ka3 kb3 ?_
  refine v_iconst hz (v := (2 : Int32)) (by decide) dX12_pullOf_11 ?_
  refine v_irem hz (by decide) dX12_pullOf_12 ?_
  refine v_iconst hz (v := (1 : Int32)) (by decide) dX12_pullOf_13 ?_
  refine v_icmp_ne (tgt := 23) hz dX12_pullOf_14 (by decide) (fun hc => ?_) (fun hc => ?_)
  · replace h := (if_neg hc).symm.trans h
    refine v_iload_n hz rfl rfl dX12_pullOf_23 ?_
    exact v_weak (lvle_s (lvle_s (lvle_s (lvle_s (lvle_n lvle_0))))) (wX12_pullOf_24 hz   h)
  · replace h := (if_pos hc).symm.trans h
    refine v_iload_n hz rfl rfl dX12_pullOf_17 ?_
    refine v_iconst hz (v := (2 : Int32)) (by decide) dX12_pullOf_18 ?_
    refine v_idiv hz (by decide) dX12_pullOf_19 ?_
    refine v_goto (tgt := 24) hz dX12_pullOf_20 (by decide) ?_
    exact v_weak (lvle_s (lvle_s (lvle_s (lvle_s (lvle_n lvle_0))))) (wX12_pullOf_24 hz   h)
noncomputable def gX12_sent_83 (K12 : Mem → Nat → Int32 → Int32 → Int32 → Int32 → Option (Int32 × Mem)) (M : Mem) (l0 : Nat) (l1 : Int32) (l2 : Int32) (l3 : Int32) (l4 : Int32) : Option (Int32 × Mem) :=
  K12 M l0 l1 l2 l3 (l4 + (1 : Int32))
noncomputable def gX12_sent_77 (K12 : Mem → Nat → Int32 → Int32 → Int32 → Int32 → Option (Int32 × Mem)) (M : Mem) (l0 : Nat) (l1 : Int32) (l4 : Int32) (l5 : Int32) (l6 : Int32) : Option (Int32 × Mem) :=
  gX12_sent_83 K12 M l0 l1 l5 l6 l4
noncomputable def gX12_sent_12  : Nat → Mem → Nat → Int32 → Int32 → Int32 → Int32 → Option (Int32 × Mem)
  | 0, _, _, _, _, _, _ => none
  | n + 1, M, l0, l1, l2, l3, l4 => if (4 : Int32) ≤ l4 then (some (l2, M)) else (ck (isK M l0 12) <| rb (mR M l0 4) fun b6 => ck (isK M b6 14) <| ck (inb l1 (mG M b6)) <| bd (fX12_next M (mI M b6 l1.toNatClampNeg) l4) fun x9 M9 => if x9 = (-1 : Int32) then (gX12_sent_83 (gX12_sent_12 n) M9 l0 l1 l2 l3 l4) else (ck (isK M9 l0 12) <| bd (fX12_isBald M9 l0 x9) fun x11 M11 => if x11 = 0 then (ck (isK M11 l0 12) <| bd (fX12_pullOf M11 l0 l1 x9) fun x13 M13 => ck (isK M13 l0 12) <| rb (mR M13 l0 4) fun b15 => ck (isK M13 b15 14) <| ck (inb l1 (mG M13 b15)) <| if l2 = (mI M13 b15 l1.toNatClampNeg) then (gX12_sent_77 (gX12_sent_12 n) M13 l0 l1 l4 x9 x13) else (if l3 < x13 then (gX12_sent_77 (gX12_sent_12 n) M13 l0 l1 l4 x9 x13) else (gX12_sent_83 (gX12_sent_12 n) M13 l0 l1 l2 l3 l4))) else (gX12_sent_83 (gX12_sent_12 n) M11 l0 l1 l2 l3 l4)))
noncomputable def fX12_sent (M : Mem) (a0 : Nat) (a1 : Int32) : Option (Int32 × Mem) :=
  ck (isK M a0 12) <| rb (mR M a0 4) fun b2 => ck (isK M b2 14) <| ck (inb a1 (mG M b2)) <| gX12_sent_12 FU M a0 a1 (mI M b2 a1.toNatClampNeg) (0 : Int32) (0 : Int32)
set_option maxRecDepth 100000 in
set_option maxHeartbeats 4000000 in
theorem wX12_sent_83 {z : Zx} {fx : Fx} {al : Bool} {r : Nat} {N : Mem} {xr : Int32} (hz : Zok z fx al yX12_sent.cls yX12_sent.name cX12_sent (some .int) 7 (r + 4) 0 0 (some (.int xr)) N)  {K12 : Mem → Nat → Int32 → Int32 → Int32 → Int32 → Option (Int32 × Mem)} (hK12 : ∀ {M : Mem} {l0 : Nat} {l1 : Int32} {l2 : Int32} {l3 : Int32} {l4 : Int32}, K12 M l0 l1 l2 l3 l4 = some (xr, N) → V z 12 [some (.ref l0), some (.int l1), some (.int l2), some (.int l3), some (.int l4), none, none] [] M 0 0) {M : Mem} {l0 : Nat} {l1 : Int32} {l2 : Int32} {l3 : Int32} {l4 : Int32} (h : gX12_sent_83 K12 M l0 l1 l2 l3 l4 = some (xr, N)) : V z 83 [some (.ref l0), some (.int l1), some (.int l2), some (.int l3), some (.int l4), none, none] [] M 0 0 := by
  unfold gX12_sent_83 at h
  refine v_iinc hz (v := (l4 + (1 : Int32))) (lw := [some (.ref l0), some (.int l1), some (.int l2), some (.int l3), some (.int (l4 + (1 : Int32))), none, none]) rfl (congrArg (fun q => l4 + q) (show Int32.ofInt (1) = (1 : Int32) by decide)) rfl rfl dX12_sent_83 ?_
  refine v_goto (tgt := 12) hz dX12_sent_86 (by decide) ?_
  exact v_weak (lvle_s (lvle_s (lvle_s (lvle_s (lvle_s (lvle_n (lvle_n lvle_0))))))) (hK12 h)
set_option maxRecDepth 100000 in
set_option maxHeartbeats 4000000 in
theorem wX12_sent_77 {z : Zx} {fx : Fx} {al : Bool} {r : Nat} {N : Mem} {xr : Int32} (hz : Zok z fx al yX12_sent.cls yX12_sent.name cX12_sent (some .int) 7 (r + 4) 0 0 (some (.int xr)) N)  {K12 : Mem → Nat → Int32 → Int32 → Int32 → Int32 → Option (Int32 × Mem)} (hK12 : ∀ {M : Mem} {l0 : Nat} {l1 : Int32} {l2 : Int32} {l3 : Int32} {l4 : Int32}, K12 M l0 l1 l2 l3 l4 = some (xr, N) → V z 12 [some (.ref l0), some (.int l1), some (.int l2), some (.int l3), some (.int l4), none, none] [] M 0 0) {M : Mem} {l0 : Nat} {l1 : Int32} {l4 : Int32} {l5 : Int32} {l6 : Int32} (h : gX12_sent_77 K12 M l0 l1 l4 l5 l6 = some (xr, N)) : V z 77 [some (.ref l0), some (.int l1), none, none, some (.int l4), some (.int l5), some (.int l6)] [] M 0 0 := by
  unfold gX12_sent_77 at h
  refine v_iload hz rfl dX12_sent_77 ?_
  refine v_istore_n hz (lw := [some (.ref l0), some (.int l1), none, some (.int l6), some (.int l4), some (.int l5), some (.int l6)]) rfl (Nat.le_of_ble_eq_true rfl) rfl rfl dX12_sent_79 ?_
  refine v_iload hz rfl dX12_sent_80 ?_
  refine v_istore_n hz (lw := [some (.ref l0), some (.int l1), some (.int l5), some (.int l6), some (.int l4), some (.int l5), some (.int l6)]) rfl (Nat.le_of_ble_eq_true rfl) rfl rfl dX12_sent_82 ?_
  exact v_weak (lvle_s (lvle_s (lvle_s (lvle_s (lvle_s (lvle_n (lvle_n lvle_0))))))) (wX12_sent_83 hz  (fun h => hK12 h) h)
set_option maxRecDepth 100000 in
set_option maxHeartbeats 4000000 in
theorem gX12_sent_12_s  (n : Nat) (M : Mem) (l0 : Nat) (l1 : Int32) (l2 : Int32) (l3 : Int32) (l4 : Int32) : gX12_sent_12  (n + 1) M l0 l1 l2 l3 l4 = (if (4 : Int32) ≤ l4 then (some (l2, M)) else (ck (isK M l0 12) <| rb (mR M l0 4) fun b6 => ck (isK M b6 14) <| ck (inb l1 (mG M b6)) <| bd (fX12_next M (mI M b6 l1.toNatClampNeg) l4) fun x9 M9 => if x9 = (-1 : Int32) then (gX12_sent_83 (gX12_sent_12 n) M9 l0 l1 l2 l3 l4) else (ck (isK M9 l0 12) <| bd (fX12_isBald M9 l0 x9) fun x11 M11 => if x11 = 0 then (ck (isK M11 l0 12) <| bd (fX12_pullOf M11 l0 l1 x9) fun x13 M13 => ck (isK M13 l0 12) <| rb (mR M13 l0 4) fun b15 => ck (isK M13 b15 14) <| ck (inb l1 (mG M13 b15)) <| if l2 = (mI M13 b15 l1.toNatClampNeg) then (gX12_sent_77 (gX12_sent_12 n) M13 l0 l1 l4 x9 x13) else (if l3 < x13 then (gX12_sent_77 (gX12_sent_12 n) M13 l0 l1 l4 x9 x13) else (gX12_sent_83 (gX12_sent_12 n) M13 l0 l1 l2 l3 l4))) else (gX12_sent_83 (gX12_sent_12 n) M11 l0 l1 l2 l3 l4)))) := rfl
set_option maxRecDepth 100000 in
set_option maxHeartbeats 4000000 in
theorem wX12_sent_12 {z : Zx} {fx : Fx} {al : Bool} {r : Nat} {N : Mem} {xr : Int32} (hz : Zok z fx al yX12_sent.cls yX12_sent.name cX12_sent (some .int) 7 (r + 4) 0 0 (some (.int xr)) N)    : ∀ {n : Nat} {M : Mem} {l0 : Nat} {l1 : Int32} {l2 : Int32} {l3 : Int32} {l4 : Int32}, gX12_sent_12  n M l0 l1 l2 l3 l4 = some (xr, N) → V z 12 [some (.ref l0), some (.int l1), some (.int l2), some (.int l3), some (.int l4), none, none] [] M 0 0 := by
  intro n
  induction n with
  | zero => intro M l0 l1 l2 l3 l4 h; cases h
  | succ n ih =>
    intro M l0 l1 l2 l3 l4 h
    replace h := (gX12_sent_12_s  n M l0 l1 l2 l3 l4).symm.trans h
    refine v_iload hz rfl dX12_sent_12 ?_
    refine v_iconst hz (v := (4 : Int32)) (by decide) dX12_sent_14 ?_
    refine v_icmp_ge (tgt := 89) hz dX12_sent_15 (by decide) (fun hc => ?_) (fun hc => ?_)
    · replace h := (if_pos hc).symm.trans h
      refine v_iload_n hz rfl rfl dX12_sent_89 ?_
      obtain ⟨rfl, rfl⟩ := sp_inv h
      exact v_iret hz dX12_sent_90 (by decide) (by decide)
    · replace h := (if_neg hc).symm.trans h
      refine v_aload_n hz rfl rfl dX12_sent_18 ?_
      obtain ⟨ck5, h⟩ := ck_inv h
      obtain ⟨ka5, kb5⟩ := isK_of ck5
      obtain ⟨b6, r6, h⟩ := rb_inv h
      refine v_getR hz fl_X12_21 rfl dX12_sent_19 ka5 kb5 r6 ?_
      refine v_iload_n hz rfl rfl dX12_sent_22 ?_
      obtain ⟨ck7, h⟩ := ck_inv h
      obtain ⟨ka7, kb7⟩ := isK_of ck7
      obtain ⟨g8, h⟩ := ck_inv h
      refine v_iaload hz dX12_sent_23 ka7 kb7 g8 ?_
      refine v_iload hz rfl dX12_sent_24 ?_
      obtain ⟨x9, M9, e9, h⟩ := bd_inv h
      refine v_callS hz (As := [.int (mI M b6 l1.toNatClampNeg), .int l4]) sl_X12_224 (tX12_next (r + 3) e9) rfl rfl rfl (Nat.le_of_ble_eq_true rfl) ⟨by decide, by decide⟩ dX12_sent_26 ?_
      show V z 29 [some (.ref l0), some (.int l1), some (.int l2), some (.int l3), some (.int l4), none, none] [.int x9] M9 0 0
      refine v_istore hz (lw := [some (.ref l0), some (.int l1), some (.int l2), some (.int l3), some (.int l4), some (.int x9), none]) (Nat.le_of_ble_eq_true rfl) rfl rfl dX12_sent_29 ?_
      refine v_iload hz rfl dX12_sent_31 ?_
      refine v_iconst hz (v := (-1 : Int32)) (by decide) dX12_sent_33 ?_
      refine v_icmp_eq (tgt := 83) hz dX12_sent_34 (by decide) (fun hc => ?_) (fun hc => ?_)
      · replace h := (if_pos hc).symm.trans h
        exact v_weak (lvle_s (lvle_s (lvle_s (lvle_s (lvle_s (lvle_n (lvle_n lvle_0))))))) (wX12_sent_83 hz  (fun h => ih h) h)
      · replace h := (if_neg hc).symm.trans h
        refine v_aload_n hz rfl rfl dX12_sent_37 ?_
        refine v_iload hz rfl dX12_sent_38 ?_
        obtain ⟨ck10, h⟩ := ck_inv h
        obtain ⟨ka10, kb10⟩ := isK_of ck10
        obtain ⟨x11, M11, e11, h⟩ := bd_inv h
        refine v_callV hz (As := [.int x9]) vl_X12_227 (tX12_isBald (r + 2) e11) rfl (by decide) ka10 kb10 rfl rfl rfl (Nat.le_of_ble_eq_true rfl) ⟨by decide, by decide⟩ dX12_sent_40 ?_
        show V z 43 [some (.ref l0), some (.int l1), some (.int l2), some (.int l3), some (.int l4), some (.int x9), none] [.int x11] M11 0 0
        refine v_if_eq (tgt := 49) hz dX12_sent_43 (by decide) (fun hc => ?_) (fun hc => ?_)
        · replace h := (if_pos hc).symm.trans h
          refine v_aload_n hz rfl rfl dX12_sent_49 ?_
          refine v_iload_n hz rfl rfl dX12_sent_50 ?_
          refine v_iload hz rfl dX12_sent_51 ?_
          obtain ⟨ck12, h⟩ := ck_inv h
          obtain ⟨ka12, kb12⟩ := isK_of ck12
          obtain ⟨x13, M13, e13, h⟩ := bd_inv h
          refine v_callV hz (As := [.int l1, .int x9]) vl_X12_126 (tX12_pullOf (r + 0) e13) rfl (by decide) ka12 kb12 rfl rfl rfl (Nat.le_of_ble_eq_true rfl) ⟨by decide, by decide⟩ dX12_sent_53 ?_
          show V z 56 [some (.ref l0), some (.int l1), some (.int l2), some (.int l3), some (.int l4), some (.int x9), none] [.int x13] M13 0 0
          refine v_istore hz (lw := [some (.ref l0), some (.int l1), some (.int l2), some (.int l3), some (.int l4), some (.int x9), some (.int x13)]) (Nat.le_of_ble_eq_true rfl) rfl rfl dX12_sent_56 ?_
          refine v_iload_n hz rfl rfl dX12_sent_58 ?_
          refine v_aload_n hz rfl rfl dX12_sent_59 ?_
          obtain ⟨ck14, h⟩ := ck_inv h
          obtain ⟨ka14, kb14⟩ := isK_of ck14
          obtain ⟨b15, r15, h⟩ := rb_inv h
          refine v_getR hz fl_X12_21 rfl dX12_sent_60 ka14 kb14 r15 ?_
          refine v_iload_n hz rfl rfl dX12_sent_63 ?_
          obtain ⟨ck16, h⟩ := ck_inv h
          obtain ⟨ka16, kb16⟩ := isK_of ck16
          obtain ⟨g17, h⟩ := ck_inv h
          refine v_iaload hz dX12_sent_64 ka16 kb16 g17 ?_
          refine v_icmp_eq (tgt := 77) hz dX12_sent_65 (by decide) (fun hc => ?_) (fun hc => ?_)
          · replace h := (if_pos hc).symm.trans h
            exact v_weak (lvle_s (lvle_s (lvle_n (lvle_n (lvle_s (lvle_s (lvle_s lvle_0))))))) (wX12_sent_77 hz  (fun h => ih h) h)
          · replace h := (if_neg hc).symm.trans h
            refine v_iload hz rfl dX12_sent_68 ?_
            refine v_iload_n hz rfl rfl dX12_sent_70 ?_
            refine v_icmp_gt (tgt := 77) hz dX12_sent_71 (by decide) (fun hc => ?_) (fun hc => ?_)
            · replace h := (if_pos hc).symm.trans h
              exact v_weak (lvle_s (lvle_s (lvle_n (lvle_n (lvle_s (lvle_s (lvle_s lvle_0))))))) (wX12_sent_77 hz  (fun h => ih h) h)
            · replace h := (if_neg hc).symm.trans h
              refine v_goto (tgt := 83) hz dX12_sent_74 (by decide) ?_
              exact v_weak (lvle_s (lvle_s (lvle_s (lvle_s (lvle_s (lvle_n (lvle_n lvle_0))))))) (wX12_sent_83 hz  (fun h => ih h) h)
        · replace h := (if_neg hc).symm.trans h
          refine v_goto (tgt := 83) hz dX12_sent_46 (by decide) ?_
          exact v_weak (lvle_s (lvle_s (lvle_s (lvle_s (lvle_s (lvle_n (lvle_n lvle_0))))))) (wX12_sent_83 hz  (fun h => ih h) h)
set_option maxRecDepth 100000 in
set_option maxHeartbeats 4000000 in
theorem tX12_sent (r : Nat) {fx : Fx} {al : Bool} {M N : Mem} {a0 : Nat} {a1 : Int32} {xr : Int32}  (h : fX12_sent M a0 a1 = some (xr, N)) : Ct fx yX12_sent cX12_sent 7 (some .int) (r + 4) 0 0 al [.ref a0, .int a1] M (some (.int xr)) N := by
  refine ct_of (lv := [some (.ref a0), some (.int a1), none, none, none, none, none]) (by decide) (Nat.le_of_ble_eq_true rfl) rfl rfl (fun z hz => ?_)
  unfold fX12_sent at h
  refine v_aload_n hz rfl rfl dX12_sent_0 ?_
  obtain ⟨ck1, h⟩ := ck_inv h
  obtain ⟨ka1, kb1⟩ := isK_of ck1
  obtain ⟨b2, r2, h⟩ := rb_inv h
  refine v_getR hz fl_X12_21 rfl dX12_sent_1 ka1 kb1 r2 ?_
  refine v_iload_n hz rfl rfl dX12_sent_4 ?_
  obtain ⟨ck3, h⟩ := ck_inv h
  obtain ⟨ka3, kb3⟩ := isK_of ck3
  obtain ⟨g4, h⟩ := ck_inv h
  refine v_iaload hz dX12_sent_5 ka3 kb3 g4 ?_
  refine v_istore_n hz (lw := [some (.ref a0), some (.int a1), some (.int (mI M b2 a1.toNatClampNeg)), none, none, none, none]) rfl (Nat.le_of_ble_eq_true rfl) rfl rfl dX12_sent_6 ?_
  refine v_iconst hz (v := (0 : Int32)) (by decide) dX12_sent_7 ?_
  refine v_istore_n hz (lw := [some (.ref a0), some (.int a1), some (.int (mI M b2 a1.toNatClampNeg)), some (.int (0 : Int32)), none, none, none]) rfl (Nat.le_of_ble_eq_true rfl) rfl rfl dX12_sent_8 ?_
  refine v_iconst hz (v := (0 : Int32)) (by decide) dX12_sent_9 ?_
  refine v_istore hz (lw := [some (.ref a0), some (.int a1), some (.int (mI M b2 a1.toNatClampNeg)), some (.int (0 : Int32)), some (.int (0 : Int32)), none, none]) (Nat.le_of_ble_eq_true rfl) rfl rfl dX12_sent_10 ?_
  exact v_weak (lvle_s (lvle_s (lvle_s (lvle_s (lvle_s (lvle_n (lvle_n lvle_0))))))) (wX12_sent_12 hz   h)
noncomputable def fX12_tread (M : Mem) (a0 : Nat) (a1 : Int32) : Option (Int32 × Mem) :=
  ck (isK M a0 12) <| rb (mR M a0 2) fun b2 => ck (isK M b2 14) <| ck (inb a1 (mG M b2)) <| if (mI M b2 a1.toNatClampNeg) = (1 : Int32) then (some ((3 : Int32), M)) else if (mI M b2 a1.toNatClampNeg) = (2 : Int32) then (some ((1 : Int32), M)) else if (mI M b2 a1.toNatClampNeg) = (3 : Int32) then (some ((6 : Int32), M)) else if (mI M b2 a1.toNatClampNeg) = (4 : Int32) then (some ((3 : Int32), M)) else if (mI M b2 a1.toNatClampNeg) = (5 : Int32) then (some ((2 : Int32), M)) else if (mI M b2 a1.toNatClampNeg) = (6 : Int32) then (some ((6 : Int32), M)) else (some ((2 : Int32), M))
set_option maxRecDepth 100000 in
set_option maxHeartbeats 4000000 in
theorem tX12_tread (r : Nat) {fx : Fx} {al : Bool} {M N : Mem} {a0 : Nat} {a1 : Int32} {xr : Int32}  (h : fX12_tread M a0 a1 = some (xr, N)) : Ct fx yX12_tread cX12_tread 2 (some .int) (r + 0) 0 0 al [.ref a0, .int a1] M (some (.int xr)) N := by
  refine ct_of (lv := [some (.ref a0), some (.int a1)]) (by decide) (Nat.le_of_ble_eq_true rfl) rfl rfl (fun z hz => ?_)
  unfold fX12_tread at h
  refine v_aload_n hz rfl rfl dX12_tread_0 ?_
  obtain ⟨ck1, h⟩ := ck_inv h
  obtain ⟨ka1, kb1⟩ := isK_of ck1
  obtain ⟨b2, r2, h⟩ := rb_inv h
  refine v_getR hz fl_X12_15 rfl dX12_tread_1 ka1 kb1 r2 ?_
  refine v_iload_n hz rfl rfl dX12_tread_4 ?_
  obtain ⟨ck3, h⟩ := ck_inv h
  obtain ⟨ka3, kb3⟩ := isK_of ck3
  obtain ⟨g4, h⟩ := ck_inv h
  refine v_iaload hz dX12_tread_5 ka3 kb3 g4 ?_
  by_cases hs5_0 : (mI M b2 a1.toNatClampNeg) = (1 : Int32)
  · replace h := (if_pos hs5_0).symm.trans h
    refine v_tableAt (tgt := 44) hz hs5_0 dX12_tread_6 (by decide) (by decide) (by decide) (by decide) ?_
    refine v_iconst hz (v := (3 : Int32)) (by decide) dX12_tread_44 ?_
    obtain ⟨rfl, rfl⟩ := sp_inv h
    exact v_iret hz dX12_tread_45 (by decide) (by decide)
  replace h := (if_neg hs5_0).symm.trans h
  by_cases hs5_1 : (mI M b2 a1.toNatClampNeg) = (2 : Int32)
  · replace h := (if_pos hs5_1).symm.trans h
    refine v_tableAt (tgt := 46) hz hs5_1 dX12_tread_6 (by decide) (by decide) (by decide) (by decide) ?_
    refine v_iconst hz (v := (1 : Int32)) (by decide) dX12_tread_46 ?_
    obtain ⟨rfl, rfl⟩ := sp_inv h
    exact v_iret hz dX12_tread_47 (by decide) (by decide)
  replace h := (if_neg hs5_1).symm.trans h
  by_cases hs5_2 : (mI M b2 a1.toNatClampNeg) = (3 : Int32)
  · replace h := (if_pos hs5_2).symm.trans h
    refine v_tableAt (tgt := 48) hz hs5_2 dX12_tread_6 (by decide) (by decide) (by decide) (by decide) ?_
    refine v_bipush hz (v := (6 : Int32)) (by decide) dX12_tread_48 ?_
    obtain ⟨rfl, rfl⟩ := sp_inv h
    exact v_iret hz dX12_tread_50 (by decide) (by decide)
  replace h := (if_neg hs5_2).symm.trans h
  by_cases hs5_3 : (mI M b2 a1.toNatClampNeg) = (4 : Int32)
  · replace h := (if_pos hs5_3).symm.trans h
    refine v_tableAt (tgt := 44) hz hs5_3 dX12_tread_6 (by decide) (by decide) (by decide) (by decide) ?_
    refine v_iconst hz (v := (3 : Int32)) (by decide) dX12_tread_44 ?_
    obtain ⟨rfl, rfl⟩ := sp_inv h
    exact v_iret hz dX12_tread_45 (by decide) (by decide)
  replace h := (if_neg hs5_3).symm.trans h
  by_cases hs5_4 : (mI M b2 a1.toNatClampNeg) = (5 : Int32)
  · replace h := (if_pos hs5_4).symm.trans h
    refine v_tableAt (tgt := 51) hz hs5_4 dX12_tread_6 (by decide) (by decide) (by decide) (by decide) ?_
    refine v_iconst hz (v := (2 : Int32)) (by decide) dX12_tread_51 ?_
    obtain ⟨rfl, rfl⟩ := sp_inv h
    exact v_iret hz dX12_tread_52 (by decide) (by decide)
  replace h := (if_neg hs5_4).symm.trans h
  by_cases hs5_5 : (mI M b2 a1.toNatClampNeg) = (6 : Int32)
  · replace h := (if_pos hs5_5).symm.trans h
    refine v_tableAt (tgt := 48) hz hs5_5 dX12_tread_6 (by decide) (by decide) (by decide) (by decide) ?_
    refine v_bipush hz (v := (6 : Int32)) (by decide) dX12_tread_48 ?_
    obtain ⟨rfl, rfl⟩ := sp_inv h
    exact v_iret hz dX12_tread_50 (by decide) (by decide)
  replace h := (if_neg hs5_5).symm.trans h
  refine v_tableOut (tgt := 51) hz dX12_tread_6 (by have q0 := lv_neT hs5_0 (show ((1 : Int32)).toInt = 1 by decide); have q1 := lv_neT hs5_1 (show ((2 : Int32)).toInt = 2 by decide); have q2 := lv_neT hs5_2 (show ((3 : Int32)).toInt = 3 by decide); have q3 := lv_neT hs5_3 (show ((4 : Int32)).toInt = 4 by decide); have q4 := lv_neT hs5_4 (show ((5 : Int32)).toInt = 5 by decide); have q5 := lv_neT hs5_5 (show ((6 : Int32)).toInt = 6 by decide); omega) (by decide) ?_
  refine v_iconst hz (v := (2 : Int32)) (by decide) dX12_tread_51 ?_
  obtain ⟨rfl, rfl⟩ := sp_inv h
  exact v_iret hz dX12_tread_52 (by decide) (by decide)
noncomputable def fX12_of (M : Mem) (a0 : Nat) (a1 : Int32) (a2 : Int32) : Option (Int32 × Mem) :=
  ck (isK M a0 12) <| bd (fX12_isOne M a0 a1) fun x2 M2 => if x2 = 0 then (some ((-1 : Int32), M2)) else (if a2 = (0 : Int32) then (ck (isK M2 a0 12) <| rb (mR M2 a0 2) fun b5 => ck (isK M2 b5 14) <| ck (inb a1 (mG M2 b5)) <| some ((mI M2 b5 a1.toNatClampNeg), M2)) else if a2 = (1 : Int32) then (ck (isK M2 a0 12) <| rb (mR M2 a0 3) fun b9 => ck (isK M2 b9 14) <| ck (inb a1 (mG M2 b9)) <| some ((mI M2 b9 a1.toNatClampNeg), M2)) else if a2 = (2 : Int32) then (ck (isK M2 a0 12) <| rb (mR M2 a0 4) fun b13 => ck (isK M2 b13 14) <| ck (inb a1 (mG M2 b13)) <| some ((mI M2 b13 a1.toNatClampNeg), M2)) else if a2 = (3 : Int32) then (ck (isK M2 a0 12) <| rb (mR M2 a0 5) fun b17 => ck (isK M2 b17 14) <| ck (inb a1 (mG M2 b17)) <| some ((mI M2 b17 a1.toNatClampNeg), M2)) else if a2 = (4 : Int32) then (ck (isK M2 a0 12) <| bd (fX12_sent M2 a0 a1) fun x21 M21 => some (x21, M21)) else if a2 = (5 : Int32) then (ck (isK M2 a0 12) <| bd (fX12_tread M2 a0 a1) fun x23 M23 => some (x23, M23)) else (some ((-1 : Int32), M2)))
set_option maxRecDepth 100000 in
set_option maxHeartbeats 4000000 in
theorem tX12_of (r : Nat) {fx : Fx} {al : Bool} {M N : Mem} {a0 : Nat} {a1 : Int32} {a2 : Int32} {xr : Int32}  (h : fX12_of M a0 a1 a2 = some (xr, N)) : Ct fx yX12_of cX12_of 3 (some .int) (r + 5) 0 0 al [.ref a0, .int a1, .int a2] M (some (.int xr)) N := by
  refine ct_of (lv := [some (.ref a0), some (.int a1), some (.int a2)]) (by decide) (Nat.le_of_ble_eq_true rfl) rfl rfl (fun z hz => ?_)
  unfold fX12_of at h
  refine v_aload_n hz rfl rfl dX12_of_0 ?_
  refine v_iload_n hz rfl rfl dX12_of_1 ?_
  obtain ⟨ck1, h⟩ := ck_inv h
  obtain ⟨ka1, kb1⟩ := isK_of ck1
  obtain ⟨x2, M2, e2, h⟩ := bd_inv h
  refine v_callV hz (As := [.int a1]) vl_X12_116 (tX12_isOne (r + 3) e2) rfl (by decide) ka1 kb1 rfl rfl rfl (Nat.le_of_ble_eq_true rfl) ⟨by decide, by decide⟩ dX12_of_2 ?_
  show V z 5 [some (.ref a0), some (.int a1), some (.int a2)] [.int x2] M2 0 0
  refine v_if_ne (tgt := 10) hz dX12_of_5 (by decide) (fun hc => ?_) (fun hc => ?_)
  · replace h := (if_neg hc).symm.trans h
    refine v_iload_n hz rfl rfl dX12_of_10 ?_
    by_cases hs3_0 : a2 = (0 : Int32)
    · replace h := (if_pos hs3_0).symm.trans h
      refine v_tableAt (tgt := 48) hz hs3_0 dX12_of_11 (by decide) (by decide) (by decide) (by decide) ?_
      refine v_aload_n hz rfl rfl dX12_of_48 ?_
      obtain ⟨ck4, h⟩ := ck_inv h
      obtain ⟨ka4, kb4⟩ := isK_of ck4
      obtain ⟨b5, r5, h⟩ := rb_inv h
      refine v_getR hz fl_X12_15 rfl dX12_of_49 ka4 kb4 r5 ?_
      refine v_iload_n hz rfl rfl dX12_of_52 ?_
      obtain ⟨ck6, h⟩ := ck_inv h
      obtain ⟨ka6, kb6⟩ := isK_of ck6
      obtain ⟨g7, h⟩ := ck_inv h
      refine v_iaload hz dX12_of_53 ka6 kb6 g7 ?_
      obtain ⟨rfl, rfl⟩ := sp_inv h
      exact v_iret hz dX12_of_54 (by decide) (by decide)
    replace h := (if_neg hs3_0).symm.trans h
    by_cases hs3_1 : a2 = (1 : Int32)
    · replace h := (if_pos hs3_1).symm.trans h
      refine v_tableAt (tgt := 55) hz hs3_1 dX12_of_11 (by decide) (by decide) (by decide) (by decide) ?_
      refine v_aload_n hz rfl rfl dX12_of_55 ?_
      obtain ⟨ck8, h⟩ := ck_inv h
      obtain ⟨ka8, kb8⟩ := isK_of ck8
      obtain ⟨b9, r9, h⟩ := rb_inv h
      refine v_getR hz fl_X12_18 rfl dX12_of_56 ka8 kb8 r9 ?_
      refine v_iload_n hz rfl rfl dX12_of_59 ?_
      obtain ⟨ck10, h⟩ := ck_inv h
      obtain ⟨ka10, kb10⟩ := isK_of ck10
      obtain ⟨g11, h⟩ := ck_inv h
      refine v_iaload hz dX12_of_60 ka10 kb10 g11 ?_
      obtain ⟨rfl, rfl⟩ := sp_inv h
      exact v_iret hz dX12_of_61 (by decide) (by decide)
    replace h := (if_neg hs3_1).symm.trans h
    by_cases hs3_2 : a2 = (2 : Int32)
    · replace h := (if_pos hs3_2).symm.trans h
      refine v_tableAt (tgt := 62) hz hs3_2 dX12_of_11 (by decide) (by decide) (by decide) (by decide) ?_
      refine v_aload_n hz rfl rfl dX12_of_62 ?_
      obtain ⟨ck12, h⟩ := ck_inv h
      obtain ⟨ka12, kb12⟩ := isK_of ck12
      obtain ⟨b13, r13, h⟩ := rb_inv h
      refine v_getR hz fl_X12_21 rfl dX12_of_63 ka12 kb12 r13 ?_
      refine v_iload_n hz rfl rfl dX12_of_66 ?_
      obtain ⟨ck14, h⟩ := ck_inv h
      obtain ⟨ka14, kb14⟩ := isK_of ck14
      obtain ⟨g15, h⟩ := ck_inv h
      refine v_iaload hz dX12_of_67 ka14 kb14 g15 ?_
      obtain ⟨rfl, rfl⟩ := sp_inv h
      exact v_iret hz dX12_of_68 (by decide) (by decide)
    replace h := (if_neg hs3_2).symm.trans h
    by_cases hs3_3 : a2 = (3 : Int32)
    · replace h := (if_pos hs3_3).symm.trans h
      refine v_tableAt (tgt := 69) hz hs3_3 dX12_of_11 (by decide) (by decide) (by decide) (by decide) ?_
      refine v_aload_n hz rfl rfl dX12_of_69 ?_
      obtain ⟨ck16, h⟩ := ck_inv h
      obtain ⟨ka16, kb16⟩ := isK_of ck16
      obtain ⟨b17, r17, h⟩ := rb_inv h
      refine v_getR hz fl_X12_24 rfl dX12_of_70 ka16 kb16 r17 ?_
      refine v_iload_n hz rfl rfl dX12_of_73 ?_
      obtain ⟨ck18, h⟩ := ck_inv h
      obtain ⟨ka18, kb18⟩ := isK_of ck18
      obtain ⟨g19, h⟩ := ck_inv h
      refine v_iaload hz dX12_of_74 ka18 kb18 g19 ?_
      obtain ⟨rfl, rfl⟩ := sp_inv h
      exact v_iret hz dX12_of_75 (by decide) (by decide)
    replace h := (if_neg hs3_3).symm.trans h
    by_cases hs3_4 : a2 = (4 : Int32)
    · replace h := (if_pos hs3_4).symm.trans h
      refine v_tableAt (tgt := 76) hz hs3_4 dX12_of_11 (by decide) (by decide) (by decide) (by decide) ?_
      refine v_aload_n hz rfl rfl dX12_of_76 ?_
      refine v_iload_n hz rfl rfl dX12_of_77 ?_
      obtain ⟨ck20, h⟩ := ck_inv h
      obtain ⟨ka20, kb20⟩ := isK_of ck20
      obtain ⟨x21, M21, e21, h⟩ := bd_inv h
      refine v_callV hz (As := [.int a1]) vl_X12_119 (tX12_sent (r + 0) e21) rfl (by decide) ka20 kb20 rfl rfl rfl (Nat.le_of_ble_eq_true rfl) ⟨by decide, by decide⟩ dX12_of_78 ?_
      show V z 81 [some (.ref a0), some (.int a1), some (.int a2)] [.int x21] M21 0 0
      obtain ⟨rfl, rfl⟩ := sp_inv h
      exact v_iret hz dX12_of_81 (by decide) (by decide)
    replace h := (if_neg hs3_4).symm.trans h
    by_cases hs3_5 : a2 = (5 : Int32)
    · replace h := (if_pos hs3_5).symm.trans h
      refine v_tableAt (tgt := 82) hz hs3_5 dX12_of_11 (by decide) (by decide) (by decide) (by decide) ?_
      refine v_aload_n hz rfl rfl dX12_of_82 ?_
      refine v_iload_n hz rfl rfl dX12_of_83 ?_
      obtain ⟨ck22, h⟩ := ck_inv h
      obtain ⟨ka22, kb22⟩ := isK_of ck22
      obtain ⟨x23, M23, e23, h⟩ := bd_inv h
      refine v_callV hz (As := [.int a1]) vl_X12_123 (tX12_tread (r + 4) e23) rfl (by decide) ka22 kb22 rfl rfl rfl (Nat.le_of_ble_eq_true rfl) ⟨by decide, by decide⟩ dX12_of_84 ?_
      show V z 87 [some (.ref a0), some (.int a1), some (.int a2)] [.int x23] M23 0 0
      obtain ⟨rfl, rfl⟩ := sp_inv h
      exact v_iret hz dX12_of_87 (by decide) (by decide)
    replace h := (if_neg hs3_5).symm.trans h
    refine v_tableOut (tgt := 88) hz dX12_of_11 (by have q0 := lv_neT hs3_0 (show ((0 : Int32)).toInt = 0 by decide); have q1 := lv_neT hs3_1 (show ((1 : Int32)).toInt = 1 by decide); have q2 := lv_neT hs3_2 (show ((2 : Int32)).toInt = 2 by decide); have q3 := lv_neT hs3_3 (show ((3 : Int32)).toInt = 3 by decide); have q4 := lv_neT hs3_4 (show ((4 : Int32)).toInt = 4 by decide); have q5 := lv_neT hs3_5 (show ((5 : Int32)).toInt = 5 by decide); omega) (by decide) ?_
    refine v_iconst hz (v := (-1 : Int32)) (by decide) dX12_of_88 ?_
    obtain ⟨rfl, rfl⟩ := sp_inv h
    exact v_iret hz dX12_of_89 (by decide) (by decide)
  · replace h := (if_pos hc).symm.trans h
    refine v_iconst hz (v := (-1 : Int32)) (by decide) dX12_of_8 ?_
    obtain ⟨rfl, rfl⟩ := sp_inv h
    exact v_iret hz dX12_of_9 (by decide) (by decide)
noncomputable def fX12_pull (M : Mem) (a0 : Nat) (a1 : Int32) (a2 : Int32) : Option (Int32 × Mem) :=
  ck (isK M a0 12) <| bd (fX12_isOne M a0 a1) fun x2 M2 => if x2 = 0 then (some ((-10001 : Int32), M2)) else (bd (fX12_isCell M2 a2) fun x3 M3 => if x3 = 0 then (some ((-10001 : Int32), M3)) else (ck (isK M3 a0 12) <| bd (fX12_pullOf M3 a0 a1 a2) fun x5 M5 => some (x5, M5)))
set_option maxRecDepth 100000 in
set_option maxHeartbeats 4000000 in
theorem tX12_pull (r : Nat) {fx : Fx} {al : Bool} {M N : Mem} {a0 : Nat} {a1 : Int32} {a2 : Int32} {xr : Int32}  (h : fX12_pull M a0 a1 a2 = some (xr, N)) : Ct fx yX12_pull cX12_pull 3 (some .int) (r + 4) 0 0 al [.ref a0, .int a1, .int a2] M (some (.int xr)) N := by
  refine ct_of (lv := [some (.ref a0), some (.int a1), some (.int a2)]) (by decide) (Nat.le_of_ble_eq_true rfl) rfl rfl (fun z hz => ?_)
  unfold fX12_pull at h
  refine v_aload_n hz rfl rfl dX12_pull_0 ?_
  refine v_iload_n hz rfl rfl dX12_pull_1 ?_
  obtain ⟨ck1, h⟩ := ck_inv h
  obtain ⟨ka1, kb1⟩ := isK_of ck1
  obtain ⟨x2, M2, e2, h⟩ := bd_inv h
  refine v_callV hz (As := [.int a1]) vl_X12_116 (tX12_isOne (r + 2) e2) rfl (by decide) ka1 kb1 rfl rfl rfl (Nat.le_of_ble_eq_true rfl) ⟨by decide, by decide⟩ dX12_pull_2 ?_
  show V z 5 [some (.ref a0), some (.int a1), some (.int a2)] [.int x2] M2 0 0
  refine v_if_eq (tgt := 24) hz dX12_pull_5 (by decide) (fun hc => ?_) (fun hc => ?_)
  · replace h := (if_pos hc).symm.trans h
    refine v_sipush hz (v := (-10001 : Int32)) (by decide) dX12_pull_24 ?_
    obtain ⟨rfl, rfl⟩ := sp_inv h
    exact v_iret hz dX12_pull_27 (by decide) (by decide)
  · replace h := (if_neg hc).symm.trans h
    refine v_iload_n hz rfl rfl dX12_pull_8 ?_
    obtain ⟨x3, M3, e3, h⟩ := bd_inv h
    refine v_callS hz (As := [.int a2]) sl_X12_112 (tX12_isCell (r + 2) e3) rfl rfl rfl (Nat.le_of_ble_eq_true rfl) ⟨by decide, by decide⟩ dX12_pull_9 ?_
    show V z 12 [some (.ref a0), some (.int a1), some (.int a2)] [.int x3] M3 0 0
    refine v_if_eq (tgt := 24) hz dX12_pull_12 (by decide) (fun hc => ?_) (fun hc => ?_)
    · replace h := (if_pos hc).symm.trans h
      refine v_sipush hz (v := (-10001 : Int32)) (by decide) dX12_pull_24 ?_
      obtain ⟨rfl, rfl⟩ := sp_inv h
      exact v_iret hz dX12_pull_27 (by decide) (by decide)
    · replace h := (if_neg hc).symm.trans h
      refine v_aload_n hz rfl rfl dX12_pull_15 ?_
      refine v_iload_n hz rfl rfl dX12_pull_16 ?_
      refine v_iload_n hz rfl rfl dX12_pull_17 ?_
      obtain ⟨ck4, h⟩ := ck_inv h
      obtain ⟨ka4, kb4⟩ := isK_of ck4
      obtain ⟨x5, M5, e5, h⟩ := bd_inv h
      refine v_callV hz (As := [.int a1, .int a2]) vl_X12_126 (tX12_pullOf (r + 0) e5) rfl (by decide) ka4 kb4 rfl rfl rfl (Nat.le_of_ble_eq_true rfl) ⟨by decide, by decide⟩ dX12_pull_18 ?_
      show V z 21 [some (.ref a0), some (.int a1), some (.int a2)] [.int x5] M5 0 0
      refine v_goto (tgt := 27) hz dX12_pull_21 (by decide) ?_
      obtain ⟨rfl, rfl⟩ := sp_inv h
      exact v_iret hz dX12_pull_27 (by decide) (by decide)
noncomputable def fX12_put (M : Mem) (a0 : Nat) (a1 : Int32) (a2 : Int32) : Option (Int32 × Mem) :=
  ck (isK M a0 12) <| bd (fX12_isOne M a0 a1) fun x2 M2 => if x2 = 0 then (some ((-1 : Int32), M2)) else (bd (fX12_isCell M2 a2) fun x3 M3 => if x3 = 0 then (some ((-1 : Int32), M3)) else (ck (isK M3 a0 12) <| rb (mR M3 a0 4) fun b5 => ck (isK M3 b5 14) <| ck (inb a1 (mG M3 b5)) <| ck (inb a1 (mG M3 b5)) <| some ((mI M3 b5 a1.toNatClampNeg), (stI M3 b5 a1.toNatClampNeg a2))))
set_option maxRecDepth 100000 in
set_option maxHeartbeats 4000000 in
theorem tX12_put (r : Nat) {fx : Fx} {al : Bool} {M N : Mem} {a0 : Nat} {a1 : Int32} {a2 : Int32} {xr : Int32}  (h : fX12_put M a0 a1 a2 = some (xr, N)) : Ct fx yX12_put cX12_put 4 (some .int) (r + 2) 0 0 al [.ref a0, .int a1, .int a2] M (some (.int xr)) N := by
  refine ct_of (lv := [some (.ref a0), some (.int a1), some (.int a2), none]) (by decide) (Nat.le_of_ble_eq_true rfl) rfl rfl (fun z hz => ?_)
  unfold fX12_put at h
  refine v_aload_n hz rfl rfl dX12_put_0 ?_
  refine v_iload_n hz rfl rfl dX12_put_1 ?_
  obtain ⟨ck1, h⟩ := ck_inv h
  obtain ⟨ka1, kb1⟩ := isK_of ck1
  obtain ⟨x2, M2, e2, h⟩ := bd_inv h
  refine v_callV hz (As := [.int a1]) vl_X12_116 (tX12_isOne (r + 0) e2) rfl (by decide) ka1 kb1 rfl rfl rfl (Nat.le_of_ble_eq_true rfl) ⟨by decide, by decide⟩ dX12_put_2 ?_
  show V z 5 [some (.ref a0), some (.int a1), some (.int a2), none] [.int x2] M2 0 0
  refine v_if_eq (tgt := 15) hz dX12_put_5 (by decide) (fun hc => ?_) (fun hc => ?_)
  · replace h := (if_pos hc).symm.trans h
    refine v_iconst hz (v := (-1 : Int32)) (by decide) dX12_put_15 ?_
    obtain ⟨rfl, rfl⟩ := sp_inv h
    exact v_iret hz dX12_put_16 (by decide) (by decide)
  · replace h := (if_neg hc).symm.trans h
    refine v_iload_n hz rfl rfl dX12_put_8 ?_
    obtain ⟨x3, M3, e3, h⟩ := bd_inv h
    refine v_callS hz (As := [.int a2]) sl_X12_112 (tX12_isCell (r + 0) e3) rfl rfl rfl (Nat.le_of_ble_eq_true rfl) ⟨by decide, by decide⟩ dX12_put_9 ?_
    show V z 12 [some (.ref a0), some (.int a1), some (.int a2), none] [.int x3] M3 0 0
    refine v_if_ne (tgt := 17) hz dX12_put_12 (by decide) (fun hc => ?_) (fun hc => ?_)
    · replace h := (if_neg hc).symm.trans h
      refine v_aload_n hz rfl rfl dX12_put_17 ?_
      obtain ⟨ck4, h⟩ := ck_inv h
      obtain ⟨ka4, kb4⟩ := isK_of ck4
      obtain ⟨b5, r5, h⟩ := rb_inv h
      refine v_getR hz fl_X12_21 rfl dX12_put_18 ka4 kb4 r5 ?_
      refine v_iload_n hz rfl rfl dX12_put_21 ?_
      obtain ⟨ck6, h⟩ := ck_inv h
      obtain ⟨ka6, kb6⟩ := isK_of ck6
      obtain ⟨g7, h⟩ := ck_inv h
      refine v_iaload hz dX12_put_22 ka6 kb6 g7 ?_
      refine v_istore_n hz (lw := [some (.ref a0), some (.int a1), some (.int a2), some (.int (mI M3 b5 a1.toNatClampNeg))]) rfl (Nat.le_of_ble_eq_true rfl) rfl rfl dX12_put_23 ?_
      refine v_aload_n hz rfl rfl dX12_put_24 ?_
      refine v_getR hz fl_X12_21 rfl dX12_put_25 ka4 kb4 r5 ?_
      refine v_iload_n hz rfl rfl dX12_put_28 ?_
      refine v_iload_n hz rfl rfl dX12_put_29 ?_
      obtain ⟨g8, h⟩ := ck_inv h
      refine v_iastore hz dX12_put_30 ka6 kb6 g8 ?_
      refine v_iload_n hz rfl rfl dX12_put_31 ?_
      obtain ⟨rfl, rfl⟩ := sp_inv h
      exact v_iret hz dX12_put_32 (by decide) (by decide)
    · replace h := (if_pos hc).symm.trans h
      refine v_iconst hz (v := (-1 : Int32)) (by decide) dX12_put_15 ?_
      obtain ⟨rfl, rfl⟩ := sp_inv h
      exact v_iret hz dX12_put_16 (by decide) (by decide)
noncomputable def fX12_wear (M : Mem) (a0 : Nat) (a1 : Int32) (a2 : Int32) : Option (Int32 × Mem) :=
  bd (fX12_isCell M a1) fun x1 M1 => if x1 = 0 then (some ((-1 : Int32), M1)) else (bd (fX12_within M1 a2 (0 : Int32) (99 : Int32)) fun x2 M2 => if x2 = 0 then (some ((-2 : Int32), M2)) else (ck (isK M2 a0 12) <| rb (mR M2 a0 0) fun b4 => ck (isK M2 b4 14) <| ck (inb a1 (mG M2 b4)) <| ck (inb a1 (mG M2 b4)) <| some ((mI M2 b4 a1.toNatClampNeg), (stI M2 b4 a1.toNatClampNeg a2))))
set_option maxRecDepth 100000 in
set_option maxHeartbeats 4000000 in
theorem tX12_wear (r : Nat) {fx : Fx} {al : Bool} {M N : Mem} {a0 : Nat} {a1 : Int32} {a2 : Int32} {xr : Int32}  (h : fX12_wear M a0 a1 a2 = some (xr, N)) : Ct fx yX12_wear cX12_wear 4 (some .int) (r + 2) 0 0 al [.ref a0, .int a1, .int a2] M (some (.int xr)) N := by
  refine ct_of (lv := [some (.ref a0), some (.int a1), some (.int a2), none]) (by decide) (Nat.le_of_ble_eq_true rfl) rfl rfl (fun z hz => ?_)
  unfold fX12_wear at h
  refine v_iload_n hz rfl rfl dX12_wear_0 ?_
  obtain ⟨x1, M1, e1, h⟩ := bd_inv h
  refine v_callS hz (As := [.int a1]) sl_X12_112 (tX12_isCell (r + 0) e1) rfl rfl rfl (Nat.le_of_ble_eq_true rfl) ⟨by decide, by decide⟩ dX12_wear_1 ?_
  show V z 4 [some (.ref a0), some (.int a1), some (.int a2), none] [.int x1] M1 0 0
  refine v_if_ne (tgt := 9) hz dX12_wear_4 (by decide) (fun hc => ?_) (fun hc => ?_)
  · replace h := (if_neg hc).symm.trans h
    refine v_iload_n hz rfl rfl dX12_wear_9 ?_
    refine v_iconst hz (v := (0 : Int32)) (by decide) dX12_wear_10 ?_
    refine v_bipush hz (v := (99 : Int32)) (by decide) dX12_wear_11 ?_
    obtain ⟨x2, M2, e2, h⟩ := bd_inv h
    refine v_callS hz (As := [.int a2, .int (0 : Int32), .int (99 : Int32)]) sl_X12_108 (tX12_within (r + 1) e2) rfl rfl rfl (Nat.le_of_ble_eq_true rfl) ⟨by decide, by decide⟩ dX12_wear_13 ?_
    show V z 16 [some (.ref a0), some (.int a1), some (.int a2), none] [.int x2] M2 0 0
    refine v_if_ne (tgt := 22) hz dX12_wear_16 (by decide) (fun hc => ?_) (fun hc => ?_)
    · replace h := (if_neg hc).symm.trans h
      refine v_aload_n hz rfl rfl dX12_wear_22 ?_
      obtain ⟨ck3, h⟩ := ck_inv h
      obtain ⟨ka3, kb3⟩ := isK_of ck3
      obtain ⟨b4, r4, h⟩ := rb_inv h
      refine v_getR hz fl_X12_9 rfl dX12_wear_23 ka3 kb3 r4 ?_
      refine v_iload_n hz rfl rfl dX12_wear_26 ?_
      obtain ⟨ck5, h⟩ := ck_inv h
      obtain ⟨ka5, kb5⟩ := isK_of ck5
      obtain ⟨g6, h⟩ := ck_inv h
      refine v_iaload hz dX12_wear_27 ka5 kb5 g6 ?_
      refine v_istore_n hz (lw := [some (.ref a0), some (.int a1), some (.int a2), some (.int (mI M2 b4 a1.toNatClampNeg))]) rfl (Nat.le_of_ble_eq_true rfl) rfl rfl dX12_wear_28 ?_
      refine v_aload_n hz rfl rfl dX12_wear_29 ?_
      refine v_getR hz fl_X12_9 rfl dX12_wear_30 ka3 kb3 r4 ?_
      refine v_iload_n hz rfl rfl dX12_wear_33 ?_
      refine v_iload_n hz rfl rfl dX12_wear_34 ?_
      obtain ⟨g7, h⟩ := ck_inv h
      refine v_iastore hz dX12_wear_35 ka5 kb5 g7 ?_
      refine v_iload_n hz rfl rfl dX12_wear_36 ?_
      obtain ⟨rfl, rfl⟩ := sp_inv h
      exact v_iret hz dX12_wear_37 (by decide) (by decide)
    · replace h := (if_pos hc).symm.trans h
      refine v_bipush hz (v := (-2 : Int32)) (by decide) dX12_wear_19 ?_
      obtain ⟨rfl, rfl⟩ := sp_inv h
      exact v_iret hz dX12_wear_21 (by decide) (by decide)
  · replace h := (if_pos hc).symm.trans h
    refine v_iconst hz (v := (-1 : Int32)) (by decide) dX12_wear_7 ?_
    obtain ⟨rfl, rfl⟩ := sp_inv h
    exact v_iret hz dX12_wear_8 (by decide) (by decide)
noncomputable def fX12_away (M : Mem) (a0 : Nat) (a1 : Int32) (a2 : Int32) : Option (Int32 × Mem) :=
  ck (isK M a0 12) <| bd (fX12_isOne M a0 a1) fun x2 M2 => if x2 = 0 then (some ((-1 : Int32), M2)) else (ck (isK M2 a0 12) <| rb (mR M2 a0 5) fun b4 => ck (isK M2 b4 14) <| ck (inb a1 (mG M2 b4)) <| if a2 = 0 then (ck (inb a1 (mG M2 b4)) <| some ((mI M2 b4 a1.toNatClampNeg), (stI M2 b4 a1.toNatClampNeg (0 : Int32)))) else (ck (inb a1 (mG M2 b4)) <| some ((mI M2 b4 a1.toNatClampNeg), (stI M2 b4 a1.toNatClampNeg (1 : Int32)))))
set_option maxRecDepth 100000 in
set_option maxHeartbeats 4000000 in
theorem tX12_away (r : Nat) {fx : Fx} {al : Bool} {M N : Mem} {a0 : Nat} {a1 : Int32} {a2 : Int32} {xr : Int32}  (h : fX12_away M a0 a1 a2 = some (xr, N)) : Ct fx yX12_away cX12_away 4 (some .int) (r + 2) 0 0 al [.ref a0, .int a1, .int a2] M (some (.int xr)) N := by
  refine ct_of (lv := [some (.ref a0), some (.int a1), some (.int a2), none]) (by decide) (Nat.le_of_ble_eq_true rfl) rfl rfl (fun z hz => ?_)
  unfold fX12_away at h
  refine v_aload_n hz rfl rfl dX12_away_0 ?_
  refine v_iload_n hz rfl rfl dX12_away_1 ?_
  obtain ⟨ck1, h⟩ := ck_inv h
  obtain ⟨ka1, kb1⟩ := isK_of ck1
  obtain ⟨x2, M2, e2, h⟩ := bd_inv h
  refine v_callV hz (As := [.int a1]) vl_X12_116 (tX12_isOne (r + 0) e2) rfl (by decide) ka1 kb1 rfl rfl rfl (Nat.le_of_ble_eq_true rfl) ⟨by decide, by decide⟩ dX12_away_2 ?_
  show V z 5 [some (.ref a0), some (.int a1), some (.int a2), none] [.int x2] M2 0 0
  refine v_if_ne (tgt := 10) hz dX12_away_5 (by decide) (fun hc => ?_) (fun hc => ?_)
  · replace h := (if_neg hc).symm.trans h
    refine v_aload_n hz rfl rfl dX12_away_10 ?_
    obtain ⟨ck3, h⟩ := ck_inv h
    obtain ⟨ka3, kb3⟩ := isK_of ck3
    obtain ⟨b4, r4, h⟩ := rb_inv h
    refine v_getR hz fl_X12_24 rfl dX12_away_11 ka3 kb3 r4 ?_
    refine v_iload_n hz rfl rfl dX12_away_14 ?_
    obtain ⟨ck5, h⟩ := ck_inv h
    obtain ⟨ka5, kb5⟩ := isK_of ck5
    obtain ⟨g6, h⟩ := ck_inv h
    refine v_iaload hz dX12_away_15 ka5 kb5 g6 ?_
    refine v_istore_n hz (lw := [some (.ref a0), some (.int a1), some (.int a2), some (.int (mI M2 b4 a1.toNatClampNeg))]) rfl (Nat.le_of_ble_eq_true rfl) rfl rfl dX12_away_16 ?_
    refine v_aload_n hz rfl rfl dX12_away_17 ?_
    refine v_getR hz fl_X12_24 rfl dX12_away_18 ka3 kb3 r4 ?_
    refine v_iload_n hz rfl rfl dX12_away_21 ?_
    refine v_iload_n hz rfl rfl dX12_away_22 ?_
    refine v_if_eq (tgt := 30) hz dX12_away_23 (by decide) (fun hc => ?_) (fun hc => ?_)
    · replace h := (if_pos hc).symm.trans h
      refine v_iconst hz (v := (0 : Int32)) (by decide) dX12_away_30 ?_
      obtain ⟨g7, h⟩ := ck_inv h
      refine v_iastore hz dX12_away_31 ka5 kb5 g7 ?_
      refine v_iload_n hz rfl rfl dX12_away_32 ?_
      obtain ⟨rfl, rfl⟩ := sp_inv h
      exact v_iret hz dX12_away_33 (by decide) (by decide)
    · replace h := (if_neg hc).symm.trans h
      refine v_iconst hz (v := (1 : Int32)) (by decide) dX12_away_26 ?_
      refine v_goto (tgt := 31) hz dX12_away_27 (by decide) ?_
      obtain ⟨g8, h⟩ := ck_inv h
      refine v_iastore hz dX12_away_31 ka5 kb5 g8 ?_
      refine v_iload_n hz rfl rfl dX12_away_32 ?_
      obtain ⟨rfl, rfl⟩ := sp_inv h
      exact v_iret hz dX12_away_33 (by decide) (by decide)
  · replace h := (if_pos hc).symm.trans h
    refine v_iconst hz (v := (-1 : Int32)) (by decide) dX12_away_8 ?_
    obtain ⟨rfl, rfl⟩ := sp_inv h
    exact v_iret hz dX12_away_9 (by decide) (by decide)
noncomputable def fX12_row (M : Mem) (a0 : Nat) (a1 : Int32) (a2 : Int32) (a3 : Int32) : Option (Int32 × Mem) :=
  ck (isK M a0 12) <| bd (fX12_isOne M a0 a1) fun x2 M2 => if x2 = 0 then (some ((-1 : Int32), M2)) else (bd (fX12_within M2 a2 (0 : Int32) (3 : Int32)) fun x3 M3 => if x3 = 0 then (some ((-1 : Int32), M3)) else (bd (fX12_within M3 a3 (0 : Int32) (9 : Int32)) fun x4 M4 => if x4 = 0 then (some ((-2 : Int32), M4)) else (ck (isK M4 a0 12) <| rb (mR M4 a0 2) fun b6 => ck (isK M4 b6 14) <| ck (inb a1 (mG M4 b6)) <| if (mI M4 b6 a1.toNatClampNeg) = (6 : Int32) then (rb (mR M4 a0 6) fun b9 => ck (isK M4 b9 14) <| ck (inb (((4 : Int32) * a1) + a2) (mG M4 b9)) <| ck (inb (((4 : Int32) * a1) + a2) (mG M4 b9)) <| some ((mI M4 b9 (((4 : Int32) * a1) + a2).toNatClampNeg), (stI M4 b9 (((4 : Int32) * a1) + a2).toNatClampNeg a3))) else (some ((-3 : Int32), M4)))))
set_option maxRecDepth 100000 in
set_option maxHeartbeats 4000000 in
theorem tX12_row (r : Nat) {fx : Fx} {al : Bool} {M N : Mem} {a0 : Nat} {a1 : Int32} {a2 : Int32} {a3 : Int32} {xr : Int32}  (h : fX12_row M a0 a1 a2 a3 = some (xr, N)) : Ct fx yX12_row cX12_row 5 (some .int) (r + 2) 0 0 al [.ref a0, .int a1, .int a2, .int a3] M (some (.int xr)) N := by
  refine ct_of (lv := [some (.ref a0), some (.int a1), some (.int a2), some (.int a3), none]) (by decide) (Nat.le_of_ble_eq_true rfl) rfl rfl (fun z hz => ?_)
  unfold fX12_row at h
  refine v_aload_n hz rfl rfl dX12_row_0 ?_
  refine v_iload_n hz rfl rfl dX12_row_1 ?_
  obtain ⟨ck1, h⟩ := ck_inv h
  obtain ⟨ka1, kb1⟩ := isK_of ck1
  obtain ⟨x2, M2, e2, h⟩ := bd_inv h
  refine v_callV hz (As := [.int a1]) vl_X12_116 (tX12_isOne (r + 0) e2) rfl (by decide) ka1 kb1 rfl rfl rfl (Nat.le_of_ble_eq_true rfl) ⟨by decide, by decide⟩ dX12_row_2 ?_
  show V z 5 [some (.ref a0), some (.int a1), some (.int a2), some (.int a3), none] [.int x2] M2 0 0
  refine v_if_eq (tgt := 17) hz dX12_row_5 (by decide) (fun hc => ?_) (fun hc => ?_)
  · replace h := (if_pos hc).symm.trans h
    refine v_iconst hz (v := (-1 : Int32)) (by decide) dX12_row_17 ?_
    obtain ⟨rfl, rfl⟩ := sp_inv h
    exact v_iret hz dX12_row_18 (by decide) (by decide)
  · replace h := (if_neg hc).symm.trans h
    refine v_iload_n hz rfl rfl dX12_row_8 ?_
    refine v_iconst hz (v := (0 : Int32)) (by decide) dX12_row_9 ?_
    refine v_iconst hz (v := (3 : Int32)) (by decide) dX12_row_10 ?_
    obtain ⟨x3, M3, e3, h⟩ := bd_inv h
    refine v_callS hz (As := [.int a2, .int (0 : Int32), .int (3 : Int32)]) sl_X12_108 (tX12_within (r + 1) e3) rfl rfl rfl (Nat.le_of_ble_eq_true rfl) ⟨by decide, by decide⟩ dX12_row_11 ?_
    show V z 14 [some (.ref a0), some (.int a1), some (.int a2), some (.int a3), none] [.int x3] M3 0 0
    refine v_if_ne (tgt := 19) hz dX12_row_14 (by decide) (fun hc => ?_) (fun hc => ?_)
    · replace h := (if_neg hc).symm.trans h
      refine v_iload_n hz rfl rfl dX12_row_19 ?_
      refine v_iconst hz (v := (0 : Int32)) (by decide) dX12_row_20 ?_
      refine v_bipush hz (v := (9 : Int32)) (by decide) dX12_row_21 ?_
      obtain ⟨x4, M4, e4, h⟩ := bd_inv h
      refine v_callS hz (As := [.int a3, .int (0 : Int32), .int (9 : Int32)]) sl_X12_108 (tX12_within (r + 1) e4) rfl rfl rfl (Nat.le_of_ble_eq_true rfl) ⟨by decide, by decide⟩ dX12_row_23 ?_
      show V z 26 [some (.ref a0), some (.int a1), some (.int a2), some (.int a3), none] [.int x4] M4 0 0
      refine v_if_ne (tgt := 32) hz dX12_row_26 (by decide) (fun hc => ?_) (fun hc => ?_)
      · replace h := (if_neg hc).symm.trans h
        refine v_aload_n hz rfl rfl dX12_row_32 ?_
        obtain ⟨ck5, h⟩ := ck_inv h
        obtain ⟨ka5, kb5⟩ := isK_of ck5
        obtain ⟨b6, r6, h⟩ := rb_inv h
        refine v_getR hz fl_X12_15 rfl dX12_row_33 ka5 kb5 r6 ?_
        refine v_iload_n hz rfl rfl dX12_row_36 ?_
        obtain ⟨ck7, h⟩ := ck_inv h
        obtain ⟨ka7, kb7⟩ := isK_of ck7
        obtain ⟨g8, h⟩ := ck_inv h
        refine v_iaload hz dX12_row_37 ka7 kb7 g8 ?_
        refine v_bipush hz (v := (6 : Int32)) (by decide) dX12_row_38 ?_
        refine v_icmp_eq (tgt := 46) hz dX12_row_40 (by decide) (fun hc => ?_) (fun hc => ?_)
        · replace h := (if_pos hc).symm.trans h
          refine v_aload_n hz rfl rfl dX12_row_46 ?_
          obtain ⟨b9, r9, h⟩ := rb_inv h
          refine v_getR hz fl_X12_27 rfl dX12_row_47 ka5 kb5 r9 ?_
          refine v_iconst hz (v := (4 : Int32)) (by decide) dX12_row_50 ?_
          refine v_iload_n hz rfl rfl dX12_row_51 ?_
          refine v_imul hz dX12_row_52 ?_
          refine v_iload_n hz rfl rfl dX12_row_53 ?_
          refine v_iadd hz dX12_row_54 ?_
          obtain ⟨ck10, h⟩ := ck_inv h
          obtain ⟨ka10, kb10⟩ := isK_of ck10
          obtain ⟨g11, h⟩ := ck_inv h
          refine v_iaload hz dX12_row_55 ka10 kb10 g11 ?_
          refine v_istore hz (lw := [some (.ref a0), some (.int a1), some (.int a2), some (.int a3), some (.int (mI M4 b9 (((4 : Int32) * a1) + a2).toNatClampNeg))]) (Nat.le_of_ble_eq_true rfl) rfl rfl dX12_row_56 ?_
          refine v_aload_n hz rfl rfl dX12_row_58 ?_
          refine v_getR hz fl_X12_27 rfl dX12_row_59 ka5 kb5 r9 ?_
          refine v_iconst hz (v := (4 : Int32)) (by decide) dX12_row_62 ?_
          refine v_iload_n hz rfl rfl dX12_row_63 ?_
          refine v_imul hz dX12_row_64 ?_
          refine v_iload_n hz rfl rfl dX12_row_65 ?_
          refine v_iadd hz dX12_row_66 ?_
          refine v_iload_n hz rfl rfl dX12_row_67 ?_
          obtain ⟨g12, h⟩ := ck_inv h
          refine v_iastore hz dX12_row_68 ka10 kb10 g12 ?_
          refine v_iload hz rfl dX12_row_69 ?_
          obtain ⟨rfl, rfl⟩ := sp_inv h
          exact v_iret hz dX12_row_71 (by decide) (by decide)
        · replace h := (if_neg hc).symm.trans h
          refine v_bipush hz (v := (-3 : Int32)) (by decide) dX12_row_43 ?_
          obtain ⟨rfl, rfl⟩ := sp_inv h
          exact v_iret hz dX12_row_45 (by decide) (by decide)
      · replace h := (if_pos hc).symm.trans h
        refine v_bipush hz (v := (-2 : Int32)) (by decide) dX12_row_29 ?_
        obtain ⟨rfl, rfl⟩ := sp_inv h
        exact v_iret hz dX12_row_31 (by decide) (by decide)
    · replace h := (if_pos hc).symm.trans h
      refine v_iconst hz (v := (-1 : Int32)) (by decide) dX12_row_17 ?_
      obtain ⟨rfl, rfl⟩ := sp_inv h
      exact v_iret hz dX12_row_18 (by decide) (by decide)
noncomputable def fX12_feed (M : Mem) (a0 : Nat) (a1 : Int32) : Option (Int32 × Mem) :=
  bd (fX12_within M a1 (0 : Int32) (127 : Int32)) fun x1 M1 => if x1 = 0 then (some ((-2 : Int32), M1)) else (ck (isK M1 a0 12) <| if (mI M1 a0 8) = (100 : Int32) then (some ((-4 : Int32), M1)) else (rb (mR M1 a0 9) fun b3 => ck (isK M1 b3 14) <| ck (inb (mI M1 a0 8) (mG M1 b3)) <| some ((mI (stI (stI M1 a0 8 ((mI M1 a0 8) + (1 : Int32))) b3 (mI M1 a0 8).toNatClampNeg a1) a0 8), (stI (stI M1 a0 8 ((mI M1 a0 8) + (1 : Int32))) b3 (mI M1 a0 8).toNatClampNeg a1))))
set_option maxRecDepth 100000 in
set_option maxHeartbeats 4000000 in
theorem tX12_feed (r : Nat) {fx : Fx} {al : Bool} {M N : Mem} {a0 : Nat} {a1 : Int32} {xr : Int32}  (h : fX12_feed M a0 a1 = some (xr, N)) : Ct fx yX12_feed cX12_feed 2 (some .int) (r + 1) 0 0 al [.ref a0, .int a1] M (some (.int xr)) N := by
  refine ct_of (lv := [some (.ref a0), some (.int a1)]) (by decide) (Nat.le_of_ble_eq_true rfl) rfl rfl (fun z hz => ?_)
  unfold fX12_feed at h
  refine v_iload_n hz rfl rfl dX12_feed_0 ?_
  refine v_iconst hz (v := (0 : Int32)) (by decide) dX12_feed_1 ?_
  refine v_bipush hz (v := (127 : Int32)) (by decide) dX12_feed_2 ?_
  obtain ⟨x1, M1, e1, h⟩ := bd_inv h
  refine v_callS hz (As := [.int a1, .int (0 : Int32), .int (127 : Int32)]) sl_X12_108 (tX12_within (r + 0) e1) rfl rfl rfl (Nat.le_of_ble_eq_true rfl) ⟨by decide, by decide⟩ dX12_feed_4 ?_
  show V z 7 [some (.ref a0), some (.int a1)] [.int x1] M1 0 0
  refine v_if_ne (tgt := 13) hz dX12_feed_7 (by decide) (fun hc => ?_) (fun hc => ?_)
  · replace h := (if_neg hc).symm.trans h
    refine v_aload_n hz rfl rfl dX12_feed_13 ?_
    obtain ⟨ck2, h⟩ := ck_inv h
    obtain ⟨ka2, kb2⟩ := isK_of ck2
    refine v_getI hz fl_X12_130 rfl dX12_feed_14 ka2 kb2 ?_
    refine v_bipush hz (v := (100 : Int32)) (by decide) dX12_feed_17 ?_
    refine v_icmp_ne (tgt := 25) hz dX12_feed_19 (by decide) (fun hc => ?_) (fun hc => ?_)
    · replace h := (if_neg hc).symm.trans h
      refine v_aload_n hz rfl rfl dX12_feed_25 ?_
      obtain ⟨b3, r3, h⟩ := rb_inv h
      refine v_getR hz fl_X12_30 rfl dX12_feed_26 ka2 kb2 r3 ?_
      refine v_aload_n hz rfl rfl dX12_feed_29 ?_
      refine v_dup hz rfl dX12_feed_30 ?_
      refine v_getI hz fl_X12_130 rfl dX12_feed_31 ka2 kb2 ?_
      refine v_dup_x1 hz rfl rfl dX12_feed_34 ?_
      refine v_iconst hz (v := (1 : Int32)) (by decide) dX12_feed_35 ?_
      refine v_iadd hz dX12_feed_36 ?_
      refine v_putI hz fl_X12_130 ft_12_8 (by decide) rfl rfl rfl dX12_feed_37 ka2 kb2 ?_
      refine v_iload_n hz rfl rfl dX12_feed_40 ?_
      obtain ⟨ck4, h⟩ := ck_inv h
      obtain ⟨ka4, kb4⟩ := isK_of ck4
      obtain ⟨g5, h⟩ := ck_inv h
      refine v_iastore hz dX12_feed_41 ka4 kb4 g5 ?_
      refine v_aload_n hz rfl rfl dX12_feed_42 ?_
      refine v_getI hz fl_X12_130 rfl dX12_feed_43 ka2 kb2 ?_
      obtain ⟨rfl, rfl⟩ := sp_inv h
      exact v_iret hz dX12_feed_46 (by decide) (by decide)
    · replace h := (if_pos hc).symm.trans h
      refine v_bipush hz (v := (-4 : Int32)) (by decide) dX12_feed_22 ?_
      obtain ⟨rfl, rfl⟩ := sp_inv h
      exact v_iret hz dX12_feed_24 (by decide) (by decide)
  · replace h := (if_pos hc).symm.trans h
    refine v_bipush hz (v := (-2 : Int32)) (by decide) dX12_feed_10 ?_
    obtain ⟨rfl, rfl⟩ := sp_inv h
    exact v_iret hz dX12_feed_12 (by decide) (by decide)
