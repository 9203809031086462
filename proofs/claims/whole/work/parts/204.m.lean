noncomputable def fJ1_indexOf_4cfef (M : Mem) (a0 : Nat) (a1 : Int32) (a2 : Int32) (a3 : Int32) : Option (Int32 × Mem) :=
  bd (fJ1_canEncode_9a6ad M a1) fun x1 M1 => if x1 = 0 then (some ((-1 : Int32), M1)) else (ck (isB a0) <| if (if a2 < (0 : Int32) then (0 : Int32) else a2) < (if (Int32.ofNat (xLen.getD (a0 - 10) 0)) < a3 then (Int32.ofNat (xLen.getD (a0 - 10) 0)) else a3) then (bd (fJ1_indexOfChar_4cfef M1 a0 a1 (if a2 < (0 : Int32) then (0 : Int32) else a2) (if (Int32.ofNat (xLen.getD (a0 - 10) 0)) < a3 then (Int32.ofNat (xLen.getD (a0 - 10) 0)) else a3)) fun x3 M3 => some (x3, M3)) else (some ((-1 : Int32), M1)))
set_option maxRecDepth 100000 in
set_option maxHeartbeats 4000000 in
theorem tJ1_indexOf_4cfef (r : Nat) {fx : Fx} {al : Bool} {M N : Mem} {a0 : Nat} {a1 : Int32} {a2 : Int32} {a3 : Int32} {xr : Int32}  (h : fJ1_indexOf_4cfef M a0 a1 a2 a3 = some (xr, N)) : Ct fx yJ1_indexOf_4cfef cJ1_indexOf_4cfef 4 (some .int) (r + 1) 0 0 al [.retAddr a0, .int a1, .int a2, .int a3] M (some (.int xr)) N := by
  refine ct_of (lv := [some (.retAddr a0), some (.int a1), some (.int a2), some (.int a3)]) (by decide) (Nat.le_of_ble_eq_true rfl) rfl rfl (fun z hz => ?_)
  unfold fJ1_indexOf_4cfef at h
  refine v_iload_n hz rfl rfl dJ1_indexOf_4cfef_0 ?_
  obtain ⟨x1, M1, e1, h⟩ := bd_inv h
  refine v_callSX hz (As := [.int a1]) sx_J1_88 (tJ1_canEncode_9a6ad (r + 0) e1) rfl rfl rfl (Nat.le_of_ble_eq_true rfl) ⟨by decide, by decide⟩ dJ1_indexOf_4cfef_1 ?_
  show V z 4 [some (.retAddr a0), some (.int a1), some (.int a2), some (.int a3)] [.int x1] M1 0 0
  refine v_if_ne (tgt := 9) hz dJ1_indexOf_4cfef_4 (by decide) (fun hc => ?_) (fun hc => ?_)
  · replace h := (if_neg hc).symm.trans h
    refine v_iload_n hz rfl rfl dJ1_indexOf_4cfef_9 ?_
    refine v_iconst hz (v := (0 : Int32)) (by decide) dJ1_indexOf_4cfef_10 ?_
    refine v_mmax hz ml_J1_92 rfl (Nat.le_of_ble_eq_true rfl) (by decide) (by decide) dJ1_indexOf_4cfef_11 ?_
    refine v_istore_n hz (lw := [some (.retAddr a0), some (.int a1), some (.int (if a2 < (0 : Int32) then (0 : Int32) else a2)), some (.int a3)]) rfl (Nat.le_of_ble_eq_true rfl) rfl rfl dJ1_indexOf_4cfef_14 ?_
    refine v_iload_n hz rfl rfl dJ1_indexOf_4cfef_15 ?_
    refine v_xload_n hz rfl rfl dJ1_indexOf_4cfef_16 ?_
    obtain ⟨g2, h⟩ := ck_inv h
    refine v_xlen hz dJ1_indexOf_4cfef_17 g2 ?_
    refine v_mmin hz ml_J1_38 rfl (Nat.le_of_ble_eq_true rfl) (by decide) (by decide) dJ1_indexOf_4cfef_18 ?_
    refine v_istore_n hz (lw := [some (.retAddr a0), some (.int a1), some (.int (if a2 < (0 : Int32) then (0 : Int32) else a2)), some (.int (if (Int32.ofNat (xLen.getD (a0 - 10) 0)) < a3 then (Int32.ofNat (xLen.getD (a0 - 10) 0)) else a3))]) rfl (Nat.le_of_ble_eq_true rfl) rfl rfl dJ1_indexOf_4cfef_21 ?_
    refine v_iload_n hz rfl rfl dJ1_indexOf_4cfef_22 ?_
    refine v_iload_n hz rfl rfl dJ1_indexOf_4cfef_23 ?_
    refine v_icmp_lt (tgt := 29) hz dJ1_indexOf_4cfef_24 (by decide) (fun hc => ?_) (fun hc => ?_)
    · replace h := (if_pos hc).symm.trans h
      refine v_xload_n hz rfl rfl dJ1_indexOf_4cfef_29 ?_
      refine v_iload_n hz rfl rfl dJ1_indexOf_4cfef_30 ?_
      refine v_iload_n hz rfl rfl dJ1_indexOf_4cfef_31 ?_
      refine v_iload_n hz rfl rfl dJ1_indexOf_4cfef_32 ?_
      obtain ⟨x3, M3, e3, h⟩ := bd_inv h
      refine v_callSX hz (As := [.retAddr a0, .int a1, .int (if a2 < (0 : Int32) then (0 : Int32) else a2), .int (if (Int32.ofNat (xLen.getD (a0 - 10) 0)) < a3 then (Int32.ofNat (xLen.getD (a0 - 10) 0)) else a3)]) sx_J1_95 (tJ1_indexOfChar_4cfef (r + 0) e3) rfl rfl rfl (Nat.le_of_ble_eq_true rfl) ⟨by decide, by decide⟩ dJ1_indexOf_4cfef_33 ?_
      show V z 36 [some (.retAddr a0), some (.int a1), some (.int (if a2 < (0 : Int32) then (0 : Int32) else a2)), some (.int (if (Int32.ofNat (xLen.getD (a0 - 10) 0)) < a3 then (Int32.ofNat (xLen.getD (a0 - 10) 0)) else a3))] [.int x3] M3 0 0
      obtain ⟨rfl, rfl⟩ := sp_inv h
      exact v_iret hz dJ1_indexOf_4cfef_36 (by decide) (by decide)
    · replace h := (if_neg hc).symm.trans h
      refine v_iconst hz (v := (-1 : Int32)) (by decide) dJ1_indexOf_4cfef_27 ?_
      obtain ⟨rfl, rfl⟩ := sp_inv h
      exact v_iret hz dJ1_indexOf_4cfef_28 (by decide) (by decide)
  · replace h := (if_pos hc).symm.trans h
    refine v_iconst hz (v := (-1 : Int32)) (by decide) dJ1_indexOf_4cfef_7 ?_
    obtain ⟨rfl, rfl⟩ := sp_inv h
    exact v_iret hz dJ1_indexOf_4cfef_8 (by decide) (by decide)
noncomputable def fJ0_indexOf_7cf53 (M : Mem) (a0 : Nat) (a1 : Int32) (a2 : Int32) : Option (Int32 × Mem) :=
  ck (isS a0) <| ck (isS a0) <| ck (isS a0) <| bd (fJ0_length_8abf5 M a0) fun x4 M4 => bd (fJ1_indexOf_4cfef M4 (10 + a0) a1 a2 x4) fun x5 M5 => some (x5, M5)
set_option maxRecDepth 100000 in
set_option maxHeartbeats 4000000 in
theorem tJ0_indexOf_7cf53 (r : Nat) {fx : Fx} {al : Bool} {M N : Mem} {a0 : Nat} {a1 : Int32} {a2 : Int32} {xr : Int32}  (h : fJ0_indexOf_7cf53 M a0 a1 a2 = some (xr, N)) : Ct fx yJ0_indexOf_7cf53 cJ0_indexOf_7cf53 3 (some .int) (r + 2) 0 0 al [.retAddr a0, .int a1, .int a2] M (some (.int xr)) N := by
  refine ct_of (lv := [some (.retAddr a0), some (.int a1), some (.int a2)]) (by decide) (Nat.le_of_ble_eq_true rfl) rfl rfl (fun z hz => ?_)
  unfold fJ0_indexOf_7cf53 at h
  refine v_xload_n hz rfl rfl dJ0_indexOf_7cf53_0 ?_
  obtain ⟨g1, h⟩ := ck_inv h
  refine v_callVX hz (As := []) (rv1 := some (.int (1 : Int32))) vl_J0_492 (tJ0_isLatin1 (r + 1) (M := M) (N := M) (xr := (1 : Int32)) wq_461 wq_1345 (by unfold fJ0_isLatin1; rw [g1]; rfl)) g1 rfl rfl rfl (Nat.le_of_ble_eq_true rfl) ⟨by decide, by decide⟩ dJ0_indexOf_7cf53_1 ?_
  show V z 4 [some (.retAddr a0), some (.int a1), some (.int a2)] [.int (1 : Int32)] M 0 0
  refine v_if_eq (tgt := 23) hz dJ0_indexOf_7cf53_4 (by decide) (fun hc => absurd hc (by decide)) (fun _ => ?_)
  refine v_xload_n hz rfl rfl dJ0_indexOf_7cf53_7 ?_
  obtain ⟨g2, h⟩ := ck_inv h
  refine v_xval hz wq_1344 dJ0_indexOf_7cf53_8 g2 ?_
  refine v_iload_n hz rfl rfl dJ0_indexOf_7cf53_11 ?_
  refine v_iload_n hz rfl rfl dJ0_indexOf_7cf53_12 ?_
  refine v_xload_n hz rfl rfl dJ0_indexOf_7cf53_13 ?_
  obtain ⟨g3, h⟩ := ck_inv h
  obtain ⟨x4, M4, e4, h⟩ := bd_inv h
  refine v_callVX hz (As := []) vl_J0_505 (tJ0_length_8abf5 (r + 0) e4) g3 rfl rfl rfl (Nat.le_of_ble_eq_true rfl) ⟨by decide, by decide⟩ dJ0_indexOf_7cf53_14 ?_
  show V z 17 [some (.retAddr a0), some (.int a1), some (.int a2)] [.int x4, .int a2, .int a1, .retAddr (10 + a0)] M4 0 0
  obtain ⟨x5, M5, e5, h⟩ := bd_inv h
  refine v_callSX hz (As := [.retAddr (10 + a0), .int a1, .int a2, .int x4]) sx_J0_637 (tJ1_indexOf_4cfef (r + 0) e5) rfl rfl rfl (Nat.le_of_ble_eq_true rfl) ⟨by decide, by decide⟩ dJ0_indexOf_7cf53_17 ?_
  show V z 20 [some (.retAddr a0), some (.int a1), some (.int a2)] [.int x5] M5 0 0
  refine v_goto (tgt := 36) hz dJ0_indexOf_7cf53_20 (by decide) ?_
  obtain ⟨rfl, rfl⟩ := sp_inv h
  exact v_iret hz dJ0_indexOf_7cf53_36 (by decide) (by decide)
noncomputable def fJ0_indexOf_0f7a4 (M : Mem) (a0 : Nat) (a1 : Int32) : Option (Int32 × Mem) :=
  ck (isS a0) <| bd (fJ0_indexOf_7cf53 M a0 a1 (0 : Int32)) fun x2 M2 => some (x2, M2)
set_option maxRecDepth 100000 in
set_option maxHeartbeats 4000000 in
theorem tJ0_indexOf_0f7a4 (r : Nat) {fx : Fx} {al : Bool} {M N : Mem} {a0 : Nat} {a1 : Int32} {xr : Int32}  (h : fJ0_indexOf_0f7a4 M a0 a1 = some (xr, N)) : Ct fx yJ0_indexOf_0f7a4 cJ0_indexOf_0f7a4 2 (some .int) (r + 3) 0 0 al [.retAddr a0, .int a1] M (some (.int xr)) N := by
  refine ct_of (lv := [some (.retAddr a0), some (.int a1)]) (by decide) (Nat.le_of_ble_eq_true rfl) rfl rfl (fun z hz => ?_)
  unfold fJ0_indexOf_0f7a4 at h
  refine v_xload_n hz rfl rfl dJ0_indexOf_0f7a4_0 ?_
  refine v_iload_n hz rfl rfl dJ0_indexOf_0f7a4_1 ?_
  refine v_iconst hz (v := (0 : Int32)) (by decide) dJ0_indexOf_0f7a4_2 ?_
  obtain ⟨g1, h⟩ := ck_inv h
  obtain ⟨x2, M2, e2, h⟩ := bd_inv h
  refine v_callVX hz (As := [.int a1, .int (0 : Int32)]) vl_J0_633 (tJ0_indexOf_7cf53 (r + 0) e2) g1 rfl rfl rfl (Nat.le_of_ble_eq_true rfl) ⟨by decide, by decide⟩ dJ0_indexOf_0f7a4_3 ?_
  show V z 6 [some (.retAddr a0), some (.int a1)] [.int x2] M2 0 0
  obtain ⟨rfl, rfl⟩ := sp_inv h
  exact v_iret hz dJ0_indexOf_0f7a4_6 (by decide) (by decide)
noncomputable def gX7_readTest_59  (M : Mem) (l0 : Nat) (l1 : Int32) (s0 : Int32) : Option (Int32 × Mem) :=
  if 0 ≤ s0 then (ck (isK M l0 7) <| bd (fX7_goTo M l0 ((mI M l0 5) + (1 : Int32))) fun x10 M10 => ck (isK M10 l0 7) <| bd (fX7_readNumber M10 l0) fun x12 M12 => if x12 = (-1 : Int32) then (some ((0 : Int32), M12)) else (ck (isK M12 l0 7) <| bd (fX7_addStep M12 l0 (0 : Int32) (((l1 <<< ((9 : Int32) &&& 31)) ||| (s0 <<< ((7 : Int32) &&& 31))) ||| x12)) fun x14 M14 => some ((1 : Int32), M14))) else (some ((0 : Int32), M))
noncomputable def gX7_readTest_21  (M : Mem) (l0 : Nat) (s0 : Int32) : Option (Int32 × Mem) :=
  if 0 ≤ s0 then (ck (isK M l0 7) <| bd (fX7_goTo M l0 ((mI M l0 5) + (1 : Int32))) fun x5 M5 => ck (isK M5 l0 7) <| if 0 ≤ (mI M5 l0 6) then (ck (isS 6) <| bd (fJ0_indexOf_0f7a4 M5 6 (((mI M5 l0 6).toUInt32 % 65536).toInt32)) fun x8 M8 => gX7_readTest_59 M8 l0 s0 x8) else (gX7_readTest_59 M5 l0 s0 (-1 : Int32))) else (some ((0 : Int32), M))
noncomputable def fX7_readTest (M : Mem) (a0 : Nat) : Option (Int32 × Mem) :=
  ck (isK M a0 7) <| if 0 ≤ (mI M a0 6) then (ck (isS 5) <| bd (fJ0_indexOf_0f7a4 M 5 (((mI M a0 6).toUInt32 % 65536).toInt32)) fun x3 M3 => gX7_readTest_21 M3 a0 x3) else (gX7_readTest_21 M a0 (-1 : Int32))
set_option maxRecDepth 100000 in
set_option maxHeartbeats 4000000 in
theorem wX7_readTest_59 {z : Zx} {fx : Fx} {al : Bool} {r : Nat} {N : Mem} {xr : Int32} (hz : Zok z fx al yX7_readTest.cls yX7_readTest.name cX7_readTest (some .boolean) 4 (r + 4) 0 0 (some (.int xr)) N)    {M : Mem} {l0 : Nat} {l1 : Int32} {s0 : Int32} (h : gX7_readTest_59  M l0 l1 s0 = some (xr, N)) : V z 59 [some (.ref l0), some (.int l1), none, none] [.int s0] M 0 0 := by
  unfold gX7_readTest_59 at h
  refine v_istore_n hz (lw := [some (.ref l0), some (.int l1), some (.int s0), none]) rfl (Nat.le_of_ble_eq_true rfl) rfl rfl dX7_readTest_59 ?_
  refine v_iload_n hz rfl rfl dX7_readTest_60 ?_
  refine v_if_ge (tgt := 66) hz dX7_readTest_61 (by decide) (fun hc => ?_) (fun hc => ?_)
  · replace h := (if_pos hc).symm.trans h
    refine v_aload_n hz rfl rfl dX7_readTest_66 ?_
    refine v_aload_n hz rfl rfl dX7_readTest_67 ?_
    obtain ⟨ck9, h⟩ := ck_inv h
    obtain ⟨ka9, kb9⟩ := isK_of ck9
    refine v_getI hz fl_X7_40 rfl dX7_readTest_68 ka9 kb9 ?_
    refine v_iconst hz (v := (1 : Int32)) (by decide) dX7_readTest_71 ?_
    refine v_iadd hz dX7_readTest_72 ?_
    obtain ⟨x10, M10, e10, h⟩ := bd_inv h
    refine v_callV hz (As := [.int ((mI M l0 5) + (1 : Int32))]) vl_X7_29 (tX7_goTo (r + 3) e10) rfl (by decide) ka9 kb9 rfl rfl rfl (Nat.le_of_ble_eq_true rfl) ⟨by decide, by decide⟩ dX7_readTest_73 ?_
    show V z 76 [some (.ref l0), some (.int l1), some (.int s0), none] [] M10 0 0
    refine v_aload_n hz rfl rfl dX7_readTest_76 ?_
    obtain ⟨ck11, h⟩ := ck_inv h
    obtain ⟨ka11, kb11⟩ := isK_of ck11
    obtain ⟨x12, M12, e12, h⟩ := bd_inv h
    refine v_callV hz (As := []) vl_X7_65 (tX7_readNumber (r + 2) e12) rfl (by decide) ka11 kb11 rfl rfl rfl (Nat.le_of_ble_eq_true rfl) ⟨by decide, by decide⟩ dX7_readTest_77 ?_
    show V z 80 [some (.ref l0), some (.int l1), some (.int s0), none] [.int x12] M12 0 0
    refine v_istore_n hz (lw := [some (.ref l0), some (.int l1), some (.int s0), some (.int x12)]) rfl (Nat.le_of_ble_eq_true rfl) rfl rfl dX7_readTest_80 ?_
    refine v_iload_n hz rfl rfl dX7_readTest_81 ?_
    refine v_iconst hz (v := (-1 : Int32)) (by decide) dX7_readTest_82 ?_
    refine v_icmp_ne (tgt := 88) hz dX7_readTest_83 (by decide) (fun hc => ?_) (fun hc => ?_)
    · replace h := (if_neg hc).symm.trans h
      refine v_aload_n hz rfl rfl dX7_readTest_88 ?_
      refine v_iconst hz (v := (0 : Int32)) (by decide) dX7_readTest_89 ?_
      refine v_iload_n hz rfl rfl dX7_readTest_90 ?_
      refine v_bipush hz (v := (9 : Int32)) (by decide) dX7_readTest_91 ?_
      refine v_ishl hz dX7_readTest_93 ?_
      refine v_iload_n hz rfl rfl dX7_readTest_94 ?_
      refine v_bipush hz (v := (7 : Int32)) (by decide) dX7_readTest_95 ?_
      refine v_ishl hz dX7_readTest_97 ?_
      refine v_ior hz dX7_readTest_98 ?_
      refine v_iload_n hz rfl rfl dX7_readTest_99 ?_
      refine v_ior hz dX7_readTest_100 ?_
      obtain ⟨ck13, h⟩ := ck_inv h
      obtain ⟨ka13, kb13⟩ := isK_of ck13
      obtain ⟨x14, M14, e14, h⟩ := bd_inv h
      refine v_callV hz (As := [.int (0 : Int32), .int (((l1 <<< ((9 : Int32) &&& 31)) ||| (s0 <<< ((7 : Int32) &&& 31))) ||| x12)]) vl_X7_74 (tX7_addStep (r + 3) e14) rfl (by decide) ka13 kb13 rfl rfl rfl (Nat.le_of_ble_eq_true rfl) ⟨by decide, by decide⟩ dX7_readTest_101 ?_
      show V z 104 [some (.ref l0), some (.int l1), some (.int s0), some (.int x12)] [] M14 0 0
      refine v_iconst hz (v := (1 : Int32)) (by decide) dX7_readTest_104 ?_
      obtain ⟨rfl, rfl⟩ := sp_inv h
      exact v_zret hz (Or.inr rfl) dX7_readTest_105 (by decide) (by decide)
    · replace h := (if_pos hc).symm.trans h
      refine v_iconst hz (v := (0 : Int32)) (by decide) dX7_readTest_86 ?_
      obtain ⟨rfl, rfl⟩ := sp_inv h
      exact v_zret hz (Or.inl rfl) dX7_readTest_87 (by decide) (by decide)
  · replace h := (if_neg hc).symm.trans h
    refine v_iconst hz (v := (0 : Int32)) (by decide) dX7_readTest_64 ?_
    obtain ⟨rfl, rfl⟩ := sp_inv h
    exact v_zret hz (Or.inl rfl) dX7_readTest_65 (by decide) (by decide)
set_option maxRecDepth 100000 in
set_option maxHeartbeats 4000000 in
theorem wX7_readTest_21 {z : Zx} {fx : Fx} {al : Bool} {r : Nat} {N : Mem} {xr : Int32} (hz : Zok z fx al yX7_readTest.cls yX7_readTest.name cX7_readTest (some .boolean) 4 (r + 4) 0 0 (some (.int xr)) N)    {M : Mem} {l0 : Nat} {s0 : Int32} (h : gX7_readTest_21  M l0 s0 = some (xr, N)) : V z 21 [some (.ref l0), none, none, none] [.int s0] M 0 0 := by
  unfold gX7_readTest_21 at h
  refine v_istore_n hz (lw := [some (.ref l0), some (.int s0), none, none]) rfl (Nat.le_of_ble_eq_true rfl) rfl rfl dX7_readTest_21 ?_
  refine v_iload_n hz rfl rfl dX7_readTest_22 ?_
  refine v_if_ge (tgt := 28) hz dX7_readTest_23 (by decide) (fun hc => ?_) (fun hc => ?_)
  · replace h := (if_pos hc).symm.trans h
    refine v_aload_n hz rfl rfl dX7_readTest_28 ?_
    refine v_aload_n hz rfl rfl dX7_readTest_29 ?_
    obtain ⟨ck4, h⟩ := ck_inv h
    obtain ⟨ka4, kb4⟩ := isK_of ck4
    refine v_getI hz fl_X7_40 rfl dX7_readTest_30 ka4 kb4 ?_
    refine v_iconst hz (v := (1 : Int32)) (by decide) dX7_readTest_33 ?_
    refine v_iadd hz dX7_readTest_34 ?_
    obtain ⟨x5, M5, e5, h⟩ := bd_inv h
    refine v_callV hz (As := [.int ((mI M l0 5) + (1 : Int32))]) vl_X7_29 (tX7_goTo (r + 3) e5) rfl (by decide) ka4 kb4 rfl rfl rfl (Nat.le_of_ble_eq_true rfl) ⟨by decide, by decide⟩ dX7_readTest_35 ?_
    show V z 38 [some (.ref l0), some (.int s0), none, none] [] M5 0 0
    refine v_aload_n hz rfl rfl dX7_readTest_38 ?_
    obtain ⟨ck6, h⟩ := ck_inv h
    obtain ⟨ka6, kb6⟩ := isK_of ck6
    refine v_getI hz fl_X7_37 rfl dX7_readTest_39 ka6 kb6 ?_
    refine v_if_ge (tgt := 49) hz dX7_readTest_42 (by decide) (fun hc => ?_) (fun hc => ?_)
    · replace h := (if_pos hc).symm.trans h
      refine v_ldcS hz (tx := "<=>") (j := 6) (by decide +kernel) dX7_readTest_49 ?_
      refine v_aload_n hz rfl rfl dX7_readTest_51 ?_
      refine v_getI hz fl_X7_37 rfl dX7_readTest_52 ka6 kb6 ?_
      refine v_i2c hz dX7_readTest_55 ?_
      obtain ⟨g7, h⟩ := ck_inv h
      obtain ⟨x8, M8, e8, h⟩ := bd_inv h
      refine v_callVX hz (As := [.int (((mI M5 l0 6).toUInt32 % 65536).toInt32)]) vl_X7_90 (tJ0_indexOf_0f7a4 (r + 0) e8) g7 rfl rfl rfl (Nat.le_of_ble_eq_true rfl) ⟨by decide, by decide⟩ dX7_readTest_56 ?_
      show V z 59 [some (.ref l0), some (.int s0), none, none] [.int x8] M8 0 0
      exact v_weak (lvle_s (lvle_s (lvle_n (lvle_n lvle_0)))) (wX7_readTest_59 hz   h)
    · replace h := (if_neg hc).symm.trans h
      refine v_iconst hz (v := (-1 : Int32)) (by decide) dX7_readTest_45 ?_
      refine v_goto (tgt := 59) hz dX7_readTest_46 (by decide) ?_
      exact v_weak (lvle_s (lvle_s (lvle_n (lvle_n lvle_0)))) (wX7_readTest_59 hz   h)
  · replace h := (if_neg hc).symm.trans h
    refine v_iconst hz (v := (0 : Int32)) (by decide) dX7_readTest_26 ?_
    obtain ⟨rfl, rfl⟩ := sp_inv h
    exact v_zret hz (Or.inl rfl) dX7_readTest_27 (by decide) (by decide)
set_option maxRecDepth 100000 in
set_option maxHeartbeats 4000000 in
theorem tX7_readTest (r : Nat) {fx : Fx} {al : Bool} {M N : Mem} {a0 : Nat} {xr : Int32}  (h : fX7_readTest M a0 = some (xr, N)) : Ct fx yX7_readTest cX7_readTest 4 (some .boolean) (r + 4) 0 0 al [.ref a0] M (some (.int xr)) N := by
  refine ct_of (lv := [some (.ref a0), none, none, none]) (by decide) (Nat.le_of_ble_eq_true rfl) rfl rfl (fun z hz => ?_)
  unfold fX7_readTest at h
  refine v_aload_n hz rfl rfl dX7_readTest_0 ?_
  obtain ⟨ck1, h⟩ := ck_inv h
  obtain ⟨ka1, kb1⟩ := isK_of ck1
  refine v_getI hz fl_X7_37 rfl dX7_readTest_1 ka1 kb1 ?_
  refine v_if_ge (tgt := 11) hz dX7_readTest_4 (by decide) (fun hc => ?_) (fun hc => ?_)
  · replace h := (if_pos hc).symm.trans h
    refine v_ldcS hz (tx := "pkvcwh") (j := 5) (by decide +kernel) dX7_readTest_11 ?_
    refine v_aload_n hz rfl rfl dX7_readTest_13 ?_
    refine v_getI hz fl_X7_37 rfl dX7_readTest_14 ka1 kb1 ?_
    refine v_i2c hz dX7_readTest_17 ?_
    obtain ⟨g2, h⟩ := ck_inv h
    obtain ⟨x3, M3, e3, h⟩ := bd_inv h
    refine v_callVX hz (As := [.int (((mI M a0 6).toUInt32 % 65536).toInt32)]) vl_X7_90 (tJ0_indexOf_0f7a4 (r + 0) e3) g2 rfl rfl rfl (Nat.le_of_ble_eq_true rfl) ⟨by decide, by decide⟩ dX7_readTest_18 ?_
    show V z 21 [some (.ref a0), none, none, none] [.int x3] M3 0 0
    exact v_weak (lvle_s (lvle_n (lvle_n (lvle_n lvle_0)))) (wX7_readTest_21 hz   h)
  · replace h := (if_neg hc).symm.trans h
    refine v_iconst hz (v := (-1 : Int32)) (by decide) dX7_readTest_7 ?_
    refine v_goto (tgt := 21) hz dX7_readTest_8 (by decide) ?_
    exact v_weak (lvle_s (lvle_n (lvle_n (lvle_n lvle_0)))) (wX7_readTest_21 hz   h)
noncomputable def gX7_readEither_84 (F0 : Mem → Nat → Int32 → Option (Int32 × Mem)) (F1 : Mem → Nat → Int32 → Option (Int32 × Mem)) (K7 : Mem → Nat → Int32 → Int32 → Int32 → Int32 → Option (Int32 × Mem)) (M : Mem) (l0 : Nat) (l1 : Int32) (l2 : Int32) (l3 : Int32) (l4 : Int32) : Option (Int32 × Mem) :=
  ck (isK M l0 7) <| bd (fX7_goTo M l0 ((mI M l0 5) + (1 : Int32))) fun x5 M5 => K7 M5 l0 l1 l2 l3 (l4 + (1 : Int32))
noncomputable def gX7_readEither_77 (F0 : Mem → Nat → Int32 → Option (Int32 × Mem)) (F1 : Mem → Nat → Int32 → Option (Int32 × Mem)) (K7 : Mem → Nat → Int32 → Int32 → Int32 → Int32 → Option (Int32 × Mem)) (M : Mem) (l0 : Nat) (l1 : Int32) (l2 : Int32) (l4 : Int32) (s0 : Int32) : Option (Int32 × Mem) :=
  if s0 = 0 then (some ((1 : Int32), M)) else (gX7_readEither_84 F0 F1 K7 M l0 l1 l2 s0 l4)
noncomputable def gX7_readEither_63 (F0 : Mem → Nat → Int32 → Option (Int32 × Mem)) (F1 : Mem → Nat → Int32 → Option (Int32 × Mem)) (K7 : Mem → Nat → Int32 → Int32 → Int32 → Int32 → Option (Int32 × Mem)) (M : Mem) (l0 : Nat) (l1 : Int32) (l2 : Int32) (l4 : Int32) : Option (Int32 × Mem) :=
  ck (isK M l0 7) <| if (mI M l0 6) = (124 : Int32) then (gX7_readEither_77 F0 F1 K7 M l0 l1 l2 l4 (1 : Int32)) else (gX7_readEither_77 F0 F1 K7 M l0 l1 l2 l4 (0 : Int32))
noncomputable def gX7_readEither_48 (F0 : Mem → Nat → Int32 → Option (Int32 × Mem)) (F1 : Mem → Nat → Int32 → Option (Int32 × Mem)) (K7 : Mem → Nat → Int32 → Int32 → Int32 → Int32 → Option (Int32 × Mem)) (M : Mem) (l0 : Nat) (l1 : Int32) (l3 : Int32) (l4 : Int32) (s0 : Int32) : Option (Int32 × Mem) :=
  if s0 = 0 then (if l3 = 0 then (gX7_readEither_63 F0 F1 K7 M l0 l1 s0 l4) else (ck (isK M l0 7) <| bd (fX7_addStep M l0 (3 : Int32) (0 : Int32)) fun x8 M8 => gX7_readEither_63 F0 F1 K7 M8 l0 l1 s0 l4)) else (gX7_readEither_84 F0 F1 K7 M l0 l1 s0 l3 l4)
noncomputable def gX7_readEither_34 (F0 : Mem → Nat → Int32 → Option (Int32 × Mem)) (F1 : Mem → Nat → Int32 → Option (Int32 × Mem)) (K7 : Mem → Nat → Int32 → Int32 → Int32 → Int32 → Option (Int32 × Mem)) (M : Mem) (l0 : Nat) (l1 : Int32) (l3 : Int32) (l4 : Int32) : Option (Int32 × Mem) :=
  ck (isK M l0 7) <| if (mI M l0 6) = (38 : Int32) then (gX7_readEither_48 F0 F1 K7 M l0 l1 l3 l4 (1 : Int32)) else (gX7_readEither_48 F0 F1 K7 M l0 l1 l3 l4 (0 : Int32))
noncomputable def gX7_readEither_7 (F0 : Mem → Nat → Int32 → Option (Int32 × Mem)) (F1 : Mem → Nat → Int32 → Option (Int32 × Mem)) : Nat → Mem → Nat → Int32 → Int32 → Int32 → Int32 → Option (Int32 × Mem)
  | 0, _, _, _, _, _, _ => none
  | n + 1, M, l0, l1, l2, l3, l4 => if (100 : Int32) ≤ l4 then (some ((0 : Int32), M)) else (ck (isK M l0 7) <| bd (F1 M l0 l1) fun x2 M2 => if x2 = 0 then (some ((0 : Int32), M2)) else (if l2 = 0 then (gX7_readEither_34 F0 F1 (gX7_readEither_7 F0 F1 n) M2 l0 l1 l3 l4) else (ck (isK M2 l0 7) <| bd (fX7_addStep M2 l0 (2 : Int32) (0 : Int32)) fun x10 M10 => gX7_readEither_34 F0 F1 (gX7_readEither_7 F0 F1 n) M10 l0 l1 l3 l4)))
noncomputable def bX7_readEither (F0 : Mem → Nat → Int32 → Option (Int32 × Mem)) (F1 : Mem → Nat → Int32 → Option (Int32 × Mem)) (M : Mem) (a0 : Nat) (a1 : Int32) : Option (Int32 × Mem) :=
  gX7_readEither_7 F0 F1 FU M a0 a1 (0 : Int32) (0 : Int32) (0 : Int32)
set_option maxRecDepth 100000 in
set_option maxHeartbeats 4000000 in
theorem wX7_readEither_84 {z : Zx} {fx : Fx} {al : Bool} {r : Nat} {N : Mem} {xr : Int32} {F0 : Mem → Nat → Int32 → Option (Int32 × Mem)}  {F1 : Mem → Nat → Int32 → Option (Int32 × Mem)} (hz : Zok z fx al yX7_readEither.cls yX7_readEither.name cX7_readEither (some .boolean) 5 (r + 6) 0 0 (some (.int xr)) N) (hF0 : ∀ {M N : Mem} {a0 : Nat} {a1 : Int32} {xr : Int32}, F0 M a0 a1 = some (xr, N) → Ct fx yX7_readEither cX7_readEither 5 (some .boolean) (r + 5) 0 0 al [.ref a0, .int a1] M (some (.int xr)) N) (hF1 : ∀ {M N : Mem} {a0 : Nat} {a1 : Int32} {xr : Int32}, F1 M a0 a1 = some (xr, N) → Ct fx yX7_readFactor cX7_readFactor 3 (some .boolean) (r + 5) 0 0 al [.ref a0, .int a1] M (some (.int xr)) N) {K7 : Mem → Nat → Int32 → Int32 → Int32 → Int32 → Option (Int32 × Mem)} (hK7 : ∀ {M : Mem} {l0 : Nat} {l1 : Int32} {l2 : Int32} {l3 : Int32} {l4 : Int32}, K7 M l0 l1 l2 l3 l4 = some (xr, N) → V z 7 [some (.ref l0), some (.int l1), some (.int l2), some (.int l3), some (.int l4)] [] M 0 0) {M : Mem} {l0 : Nat} {l1 : Int32} {l2 : Int32} {l3 : Int32} {l4 : Int32} (h : gX7_readEither_84 F0 F1 K7 M l0 l1 l2 l3 l4 = some (xr, N)) : V z 84 [some (.ref l0), some (.int l1), some (.int l2), some (.int l3), some (.int l4)] [] M 0 0 := by
  unfold gX7_readEither_84 at h
  refine v_aload_n hz rfl rfl dX7_readEither_84 ?_
  refine v_aload_n hz rfl rfl dX7_readEither_85 ?_
  obtain ⟨ck4, h⟩ := ck_inv h
  obtain ⟨ka4, kb4⟩ := isK_of ck4
  refine v_getI hz fl_X7_40 rfl dX7_readEither_86 ka4 kb4 ?_
  refine v_iconst hz (v := (1 : Int32)) (by decide) dX7_readEither_89 ?_
  refine v_iadd hz dX7_readEither_90 ?_
  obtain ⟨x5, M5, e5, h⟩ := bd_inv h
  refine v_callV hz (As := [.int ((mI M l0 5) + (1 : Int32))]) vl_X7_29 (tX7_goTo (r + 5) e5) rfl (by decide) ka4 kb4 rfl rfl rfl (Nat.le_of_ble_eq_true rfl) ⟨by decide, by decide⟩ dX7_readEither_91 ?_
  show V z 94 [some (.ref l0), some (.int l1), some (.int l2), some (.int l3), some (.int l4)] [] M5 0 0
  refine v_iinc hz (v := (l4 + (1 : Int32))) (lw := [some (.ref l0), some (.int l1), some (.int l2), some (.int l3), some (.int (l4 + (1 : Int32)))]) rfl (congrArg (fun q => l4 + q) (show Int32.ofInt (1) = (1 : Int32) by decide)) rfl rfl dX7_readEither_94 ?_
  refine v_goto (tgt := 7) hz dX7_readEither_97 (by decide) ?_
  exact v_weak (lvle_s (lvle_s (lvle_s (lvle_s (lvle_s lvle_0))))) (hK7 h)
set_option maxRecDepth 100000 in
set_option maxHeartbeats 4000000 in
theorem wX7_readEither_77 {z : Zx} {fx : Fx} {al : Bool} {r : Nat} {N : Mem} {xr : Int32} {F0 : Mem → Nat → Int32 → Option (Int32 × Mem)}  {F1 : Mem → Nat → Int32 → Option (Int32 × Mem)} (hz : Zok z fx al yX7_readEither.cls yX7_readEither.name cX7_readEither (some .boolean) 5 (r + 6) 0 0 (some (.int xr)) N) (hF0 : ∀ {M N : Mem} {a0 : Nat} {a1 : Int32} {xr : Int32}, F0 M a0 a1 = some (xr, N) → Ct fx yX7_readEither cX7_readEither 5 (some .boolean) (r + 5) 0 0 al [.ref a0, .int a1] M (some (.int xr)) N) (hF1 : ∀ {M N : Mem} {a0 : Nat} {a1 : Int32} {xr : Int32}, F1 M a0 a1 = some (xr, N) → Ct fx yX7_readFactor cX7_readFactor 3 (some .boolean) (r + 5) 0 0 al [.ref a0, .int a1] M (some (.int xr)) N) {K7 : Mem → Nat → Int32 → Int32 → Int32 → Int32 → Option (Int32 × Mem)} (hK7 : ∀ {M : Mem} {l0 : Nat} {l1 : Int32} {l2 : Int32} {l3 : Int32} {l4 : Int32}, K7 M l0 l1 l2 l3 l4 = some (xr, N) → V z 7 [some (.ref l0), some (.int l1), some (.int l2), some (.int l3), some (.int l4)] [] M 0 0) {M : Mem} {l0 : Nat} {l1 : Int32} {l2 : Int32} {l4 : Int32} {s0 : Int32} (h : gX7_readEither_77 F0 F1 K7 M l0 l1 l2 l4 s0 = some (xr, N)) : V z 77 [some (.ref l0), some (.int l1), some (.int l2), none, some (.int l4)] [.int s0] M 0 0 := by
  unfold gX7_readEither_77 at h
  refine v_istore_n hz (lw := [some (.ref l0), some (.int l1), some (.int l2), some (.int s0), some (.int l4)]) rfl (Nat.le_of_ble_eq_true rfl) rfl rfl dX7_readEither_77 ?_
  refine v_iload_n hz rfl rfl dX7_readEither_78 ?_
  refine v_if_ne (tgt := 84) hz dX7_readEither_79 (by decide) (fun hc => ?_) (fun hc => ?_)
  · replace h := (if_neg hc).symm.trans h
    exact v_weak (lvle_s (lvle_s (lvle_s (lvle_s (lvle_s lvle_0))))) (wX7_readEither_84 hz hF0 hF1 (fun h => hK7 h) h)
  · replace h := (if_pos hc).symm.trans h
    refine v_iconst hz (v := (1 : Int32)) (by decide) dX7_readEither_82 ?_
    obtain ⟨rfl, rfl⟩ := sp_inv h
    exact v_zret hz (Or.inr rfl) dX7_readEither_83 (by decide) (by decide)
set_option maxRecDepth 100000 in
set_option maxHeartbeats 4000000 in
theorem wX7_readEither_63 {z : Zx} {fx : Fx} {al : Bool} {r : Nat} {N : Mem} {xr : Int32} {F0 : Mem → Nat → Int32 → Option (Int32 × Mem)}  {F1 : Mem → Nat → Int32 → Option (Int32 × Mem)} (hz : Zok z fx al yX7_readEither.cls yX7_readEither.name cX7_readEither (some .boolean) 5 (r + 6) 0 0 (some (.int xr)) N) (hF0 : ∀ {M N : Mem} {a0 : Nat} {a1 : Int32} {xr : Int32}, F0 M a0 a1 = some (xr, N) → Ct fx yX7_readEither cX7_readEither 5 (some .boolean) (r + 5) 0 0 al [.ref a0, .int a1] M (some (.int xr)) N) (hF1 : ∀ {M N : Mem} {a0 : Nat} {a1 : Int32} {xr : Int32}, F1 M a0 a1 = some (xr, N) → Ct fx yX7_readFactor cX7_readFactor 3 (some .boolean) (r + 5) 0 0 al [.ref a0, .int a1] M (some (.int xr)) N) {K7 : Mem → Nat → Int32 → Int32 → Int32 → Int32 → Option (Int32 × Mem)} (hK7 : ∀ {M : Mem} {l0 : Nat} {l1 : Int32} {l2 : Int32} {l3 : Int32} {l4 : Int32}, K7 M l0 l1 l2 l3 l4 = some (xr, N) → V z 7 [some (.ref l0), some (.int l1), some (.int l2), some (.int l3), some (.int l4)] [] M 0 0) {M : Mem} {l0 : Nat} {l1 : Int32} {l2 : Int32} {l4 : Int32} (h : gX7_readEither_63 F0 F1 K7 M l0 l1 l2 l4 = some (xr, N)) : V z 63 [some (.ref l0), some (.int l1), some (.int l2), none, some (.int l4)] [] M 0 0 := by
  unfold gX7_readEither_63 at h
  refine v_aload_n hz rfl rfl dX7_readEither_63 ?_
  obtain ⟨ck6, h⟩ := ck_inv h
  obtain ⟨ka6, kb6⟩ := isK_of ck6
  refine v_getI hz fl_X7_37 rfl dX7_readEither_64 ka6 kb6 ?_
  refine v_bipush hz (v := (124 : Int32)) (by decide) dX7_readEither_67 ?_
  refine v_icmp_ne (tgt := 76) hz dX7_readEither_69 (by decide) (fun hc => ?_) (fun hc => ?_)
  · replace h := (if_neg hc).symm.trans h
    refine v_iconst hz (v := (0 : Int32)) (by decide) dX7_readEither_76 ?_
    exact v_weak (lvle_s (lvle_s (lvle_s (lvle_n (lvle_s lvle_0))))) (wX7_readEither_77 hz hF0 hF1 (fun h => hK7 h) h)
  · replace h := (if_pos hc).symm.trans h
    refine v_iconst hz (v := (1 : Int32)) (by decide) dX7_readEither_72 ?_
    refine v_goto (tgt := 77) hz dX7_readEither_73 (by decide) ?_
    exact v_weak (lvle_s (lvle_s (lvle_s (lvle_n (lvle_s lvle_0))))) (wX7_readEither_77 hz hF0 hF1 (fun h => hK7 h) h)
set_option maxRecDepth 100000 in
set_option maxHeartbeats 4000000 in
theorem wX7_readEither_48 {z : Zx} {fx : Fx} {al : Bool} {r : Nat} {N : Mem} {xr : Int32} {F0 : Mem → Nat → Int32 → Option (Int32 × Mem)}  {F1 : Mem → Nat → Int32 → Option (Int32 × Mem)} (hz : Zok z fx al yX7_readEither.cls yX7_readEither.name cX7_readEither (some .boolean) 5 (r + 6) 0 0 (some (.int xr)) N) (hF0 : ∀ {M N : Mem} {a0 : Nat} {a1 : Int32} {xr : Int32}, F0 M a0 a1 = some (xr, N) → Ct fx yX7_readEither cX7_readEither 5 (some .boolean) (r + 5) 0 0 al [.ref a0, .int a1] M (some (.int xr)) N) (hF1 : ∀ {M N : Mem} {a0 : Nat} {a1 : Int32} {xr : Int32}, F1 M a0 a1 = some (xr, N) → Ct fx yX7_readFactor cX7_readFactor 3 (some .boolean) (r + 5) 0 0 al [.ref a0, .int a1] M (some (.int xr)) N) {K7 : Mem → Nat → Int32 → Int32 → Int32 → Int32 → Option (Int32 × Mem)} (hK7 : ∀ {M : Mem} {l0 : Nat} {l1 : Int32} {l2 : Int32} {l3 : Int32} {l4 : Int32}, K7 M l0 l1 l2 l3 l4 = some (xr, N) → V z 7 [some (.ref l0), some (.int l1), some (.int l2), some (.int l3), some (.int l4)] [] M 0 0) {M : Mem} {l0 : Nat} {l1 : Int32} {l3 : Int32} {l4 : Int32} {s0 : Int32} (h : gX7_readEither_48 F0 F1 K7 M l0 l1 l3 l4 s0 = some (xr, N)) : V z 48 [some (.ref l0), some (.int l1), none, some (.int l3), some (.int l4)] [.int s0] M 0 0 := by
  unfold gX7_readEither_48 at h
  refine v_istore_n hz (lw := [some (.ref l0), some (.int l1), some (.int s0), some (.int l3), some (.int l4)]) rfl (Nat.le_of_ble_eq_true rfl) rfl rfl dX7_readEither_48 ?_
  refine v_iload_n hz rfl rfl dX7_readEither_49 ?_
  refine v_if_ne (tgt := 84) hz dX7_readEither_50 (by decide) (fun hc => ?_) (fun hc => ?_)
  · replace h := (if_neg hc).symm.trans h
    exact v_weak (lvle_s (lvle_s (lvle_s (lvle_s (lvle_s lvle_0))))) (wX7_readEither_84 hz hF0 hF1 (fun h => hK7 h) h)
  · replace h := (if_pos hc).symm.trans h
    refine v_iload_n hz rfl rfl dX7_readEither_53 ?_
    refine v_if_eq (tgt := 63) hz dX7_readEither_54 (by decide) (fun hc => ?_) (fun hc => ?_)
    · replace h := (if_pos hc).symm.trans h
      exact v_weak (lvle_s (lvle_s (lvle_s (lvle_n (lvle_s lvle_0))))) (wX7_readEither_63 hz hF0 hF1 (fun h => hK7 h) h)
    · replace h := (if_neg hc).symm.trans h
      refine v_aload_n hz rfl rfl dX7_readEither_57 ?_
      refine v_iconst hz (v := (3 : Int32)) (by decide) dX7_readEither_58 ?_
      refine v_iconst hz (v := (0 : Int32)) (by decide) dX7_readEither_59 ?_
      obtain ⟨ck7, h⟩ := ck_inv h
      obtain ⟨ka7, kb7⟩ := isK_of ck7
      obtain ⟨x8, M8, e8, h⟩ := bd_inv h
      refine v_callV hz (As := [.int (3 : Int32), .int (0 : Int32)]) vl_X7_74 (tX7_addStep (r + 5) e8) rfl (by decide) ka7 kb7 rfl rfl rfl (Nat.le_of_ble_eq_true rfl) ⟨by decide, by decide⟩ dX7_readEither_60 ?_
      show V z 63 [some (.ref l0), some (.int l1), some (.int s0), some (.int l3), some (.int l4)] [] M8 0 0
      exact v_weak (lvle_s (lvle_s (lvle_s (lvle_n (lvle_s lvle_0))))) (wX7_readEither_63 hz hF0 hF1 (fun h => hK7 h) h)
set_option maxRecDepth 100000 in
set_option maxHeartbeats 4000000 in
theorem wX7_readEither_34 {z : Zx} {fx : Fx} {al : Bool} {r : Nat} {N : Mem} {xr : Int32} {F0 : Mem → Nat → Int32 → Option (Int32 × Mem)}  {F1 : Mem → Nat → Int32 → Option (Int32 × Mem)} (hz : Zok z fx al yX7_readEither.cls yX7_readEither.name cX7_readEither (some .boolean) 5 (r + 6) 0 0 (some (.int xr)) N) (hF0 : ∀ {M N : Mem} {a0 : Nat} {a1 : Int32} {xr : Int32}, F0 M a0 a1 = some (xr, N) → Ct fx yX7_readEither cX7_readEither 5 (some .boolean) (r + 5) 0 0 al [.ref a0, .int a1] M (some (.int xr)) N) (hF1 : ∀ {M N : Mem} {a0 : Nat} {a1 : Int32} {xr : Int32}, F1 M a0 a1 = some (xr, N) → Ct fx yX7_readFactor cX7_readFactor 3 (some .boolean) (r + 5) 0 0 al [.ref a0, .int a1] M (some (.int xr)) N) {K7 : Mem → Nat → Int32 → Int32 → Int32 → Int32 → Option (Int32 × Mem)} (hK7 : ∀ {M : Mem} {l0 : Nat} {l1 : Int32} {l2 : Int32} {l3 : Int32} {l4 : Int32}, K7 M l0 l1 l2 l3 l4 = some (xr, N) → V z 7 [some (.ref l0), some (.int l1), some (.int l2), some (.int l3), some (.int l4)] [] M 0 0) {M : Mem} {l0 : Nat} {l1 : Int32} {l3 : Int32} {l4 : Int32} (h : gX7_readEither_34 F0 F1 K7 M l0 l1 l3 l4 = some (xr, N)) : V z 34 [some (.ref l0), some (.int l1), none, some (.int l3), some (.int l4)] [] M 0 0 := by
  unfold gX7_readEither_34 at h
  refine v_aload_n hz rfl rfl dX7_readEither_34 ?_
  obtain ⟨ck3, h⟩ := ck_inv h
  obtain ⟨ka3, kb3⟩ := isK_of ck3
  refine v_getI hz fl_X7_37 rfl dX7_readEither_35 ka3 kb3 ?_
  refine v_bipush hz (v := (38 : Int32)) (by decide) dX7_readEither_38 ?_
  refine v_icmp_ne (tgt := 47) hz dX7_readEither_40 (by decide) (fun hc => ?_) (fun hc => ?_)
  · replace h := (if_neg hc).symm.trans h
    refine v_iconst hz (v := (0 : Int32)) (by decide) dX7_readEither_47 ?_
    exact v_weak (lvle_s (lvle_s (lvle_n (lvle_s (lvle_s lvle_0))))) (wX7_readEither_48 hz hF0 hF1 (fun h => hK7 h) h)
  · replace h := (if_pos hc).symm.trans h
    refine v_iconst hz (v := (1 : Int32)) (by decide) dX7_readEither_43 ?_
    refine v_goto (tgt := 48) hz dX7_readEither_44 (by decide) ?_
    exact v_weak (lvle_s (lvle_s (lvle_n (lvle_s (lvle_s lvle_0))))) (wX7_readEither_48 hz hF0 hF1 (fun h => hK7 h) h)
set_option maxRecDepth 100000 in
set_option maxHeartbeats 4000000 in
theorem gX7_readEither_7_s (F0 : Mem → Nat → Int32 → Option (Int32 × Mem)) (F1 : Mem → Nat → Int32 → Option (Int32 × Mem)) (n : Nat) (M : Mem) (l0 : Nat) (l1 : Int32) (l2 : Int32) (l3 : Int32) (l4 : Int32) : gX7_readEither_7 F0 F1 (n + 1) M l0 l1 l2 l3 l4 = (if (100 : Int32) ≤ l4 then (some ((0 : Int32), M)) else (ck (isK M l0 7) <| bd (F1 M l0 l1) fun x2 M2 => if x2 = 0 then (some ((0 : Int32), M2)) else (if l2 = 0 then (gX7_readEither_34 F0 F1 (gX7_readEither_7 F0 F1 n) M2 l0 l1 l3 l4) else (ck (isK M2 l0 7) <| bd (fX7_addStep M2 l0 (2 : Int32) (0 : Int32)) fun x10 M10 => gX7_readEither_34 F0 F1 (gX7_readEither_7 F0 F1 n) M10 l0 l1 l3 l4)))) := rfl
set_option maxRecDepth 100000 in
set_option maxHeartbeats 4000000 in
theorem wX7_readEither_7 {z : Zx} {fx : Fx} {al : Bool} {r : Nat} {N : Mem} {xr : Int32} {F0 : Mem → Nat → Int32 → Option (Int32 × Mem)}  {F1 : Mem → Nat → Int32 → Option (Int32 × Mem)} (hz : Zok z fx al yX7_readEither.cls yX7_readEither.name cX7_readEither (some .boolean) 5 (r + 6) 0 0 (some (.int xr)) N) (hF0 : ∀ {M N : Mem} {a0 : Nat} {a1 : Int32} {xr : Int32}, F0 M a0 a1 = some (xr, N) → Ct fx yX7_readEither cX7_readEither 5 (some .boolean) (r + 5) 0 0 al [.ref a0, .int a1] M (some (.int xr)) N) (hF1 : ∀ {M N : Mem} {a0 : Nat} {a1 : Int32} {xr : Int32}, F1 M a0 a1 = some (xr, N) → Ct fx yX7_readFactor cX7_readFactor 3 (some .boolean) (r + 5) 0 0 al [.ref a0, .int a1] M (some (.int xr)) N)   : ∀ {n : Nat} {M : Mem} {l0 : Nat} {l1 : Int32} {l2 : Int32} {l3 : Int32} {l4 : Int32}, gX7_readEither_7 F0 F1 n M l0 l1 l2 l3 l4 = some (xr, N) → V z 7 [some (.ref l0), some (.int l1), some (.int l2), some (.int l3), some (.int l4)] [] M 0 0 := by
  intro n
  induction n with
  | zero => intro M l0 l1 l2 l3 l4 h; cases h
  | succ n ih =>
    intro M l0 l1 l2 l3 l4 h
    replace h := (gX7_readEither_7_s F0 F1 n M l0 l1 l2 l3 l4).symm.trans h
    refine v_iload hz rfl dX7_readEither_7 ?_
    refine v_bipush hz (v := (100 : Int32)) (by decide) dX7_readEither_9 ?_
    refine v_icmp_ge (tgt := 100) hz dX7_readEither_11 (by decide) (fun hc => ?_) (fun hc => ?_)
    · replace h := (if_pos hc).symm.trans h
      refine v_iconst hz (v := (0 : Int32)) (by decide) dX7_readEither_100 ?_
      obtain ⟨rfl, rfl⟩ := sp_inv h
      exact v_zret hz (Or.inl rfl) dX7_readEither_101 (by decide) (by decide)
    · replace h := (if_neg hc).symm.trans h
      refine v_aload_n hz rfl rfl dX7_readEither_14 ?_
      refine v_iload_n hz rfl rfl dX7_readEither_15 ?_
      obtain ⟨ck1, h⟩ := ck_inv h
      obtain ⟨ka1, kb1⟩ := isK_of ck1
      obtain ⟨x2, M2, e2, h⟩ := bd_inv h
      refine v_callV hz (As := [.int l1]) vl_X7_80 (hF1 e2) rfl (by decide) ka1 kb1 rfl rfl rfl (Nat.le_of_ble_eq_true rfl) ⟨by decide, by decide⟩ dX7_readEither_16 ?_
      show V z 19 [some (.ref l0), some (.int l1), some (.int l2), some (.int l3), some (.int l4)] [.int x2] M2 0 0
      refine v_if_ne (tgt := 24) hz dX7_readEither_19 (by decide) (fun hc => ?_) (fun hc => ?_)
      · replace h := (if_neg hc).symm.trans h
        refine v_iload_n hz rfl rfl dX7_readEither_24 ?_
        refine v_if_eq (tgt := 34) hz dX7_readEither_25 (by decide) (fun hc => ?_) (fun hc => ?_)
        · replace h := (if_pos hc).symm.trans h
          exact v_weak (lvle_s (lvle_s (lvle_n (lvle_s (lvle_s lvle_0))))) (wX7_readEither_34 hz hF0 hF1 (fun h => ih h) h)
        · replace h := (if_neg hc).symm.trans h
          refine v_aload_n hz rfl rfl dX7_readEither_28 ?_
          refine v_iconst hz (v := (2 : Int32)) (by decide) dX7_readEither_29 ?_
          refine v_iconst hz (v := (0 : Int32)) (by decide) dX7_readEither_30 ?_
          obtain ⟨ck9, h⟩ := ck_inv h
          obtain ⟨ka9, kb9⟩ := isK_of ck9
          obtain ⟨x10, M10, e10, h⟩ := bd_inv h
          refine v_callV hz (As := [.int (2 : Int32), .int (0 : Int32)]) vl_X7_74 (tX7_addStep (r + 5) e10) rfl (by decide) ka9 kb9 rfl rfl rfl (Nat.le_of_ble_eq_true rfl) ⟨by decide, by decide⟩ dX7_readEither_31 ?_
          show V z 34 [some (.ref l0), some (.int l1), some (.int l2), some (.int l3), some (.int l4)] [] M10 0 0
          exact v_weak (lvle_s (lvle_s (lvle_n (lvle_s (lvle_s lvle_0))))) (wX7_readEither_34 hz hF0 hF1 (fun h => ih h) h)
      · replace h := (if_pos hc).symm.trans h
        refine v_iconst hz (v := (0 : Int32)) (by decide) dX7_readEither_22 ?_
        obtain ⟨rfl, rfl⟩ := sp_inv h
        exact v_zret hz (Or.inl rfl) dX7_readEither_23 (by decide) (by decide)
set_option maxRecDepth 100000 in
set_option maxHeartbeats 4000000 in
theorem tX7_readEither_b (r : Nat) {fx : Fx} {al : Bool} {M N : Mem} {a0 : Nat} {a1 : Int32} {xr : Int32} {F0 : Mem → Nat → Int32 → Option (Int32 × Mem)}  {F1 : Mem → Nat → Int32 → Option (Int32 × Mem)} (hF0 : ∀ {M N : Mem} {a0 : Nat} {a1 : Int32} {xr : Int32}, F0 M a0 a1 = some (xr, N) → Ct fx yX7_readEither cX7_readEither 5 (some .boolean) (r + 5) 0 0 al [.ref a0, .int a1] M (some (.int xr)) N) (hF1 : ∀ {M N : Mem} {a0 : Nat} {a1 : Int32} {xr : Int32}, F1 M a0 a1 = some (xr, N) → Ct fx yX7_readFactor cX7_readFactor 3 (some .boolean) (r + 5) 0 0 al [.ref a0, .int a1] M (some (.int xr)) N) (h : bX7_readEither F0 F1 M a0 a1 = some (xr, N)) : Ct fx yX7_readEither cX7_readEither 5 (some .boolean) (r + 6) 0 0 al [.ref a0, .int a1] M (some (.int xr)) N := by
  refine ct_of (lv := [some (.ref a0), some (.int a1), none, none, none]) (by decide) (Nat.le_of_ble_eq_true rfl) rfl rfl (fun z hz => ?_)
  unfold bX7_readEither at h
  refine v_iconst hz (v := (0 : Int32)) (by decide) dX7_readEither_0 ?_
  refine v_istore_n hz (lw := [some (.ref a0), some (.int a1), some (.int (0 : Int32)), none, none]) rfl (Nat.le_of_ble_eq_true rfl) rfl rfl dX7_readEither_1 ?_
  refine v_iconst hz (v := (0 : Int32)) (by decide) dX7_readEither_2 ?_
  refine v_istore_n hz (lw := [some (.ref a0), some (.int a1), some (.int (0 : Int32)), some (.int (0 : Int32)), none]) rfl (Nat.le_of_ble_eq_true rfl) rfl rfl dX7_readEither_3 ?_
  refine v_iconst hz (v := (0 : Int32)) (by decide) dX7_readEither_4 ?_
  refine v_istore hz (lw := [some (.ref a0), some (.int a1), some (.int (0 : Int32)), some (.int (0 : Int32)), some (.int (0 : Int32))]) (Nat.le_of_ble_eq_true rfl) rfl rfl dX7_readEither_5 ?_
  exact v_weak (lvle_s (lvle_s (lvle_s (lvle_s (lvle_s lvle_0))))) (wX7_readEither_7 hz hF0 hF1  h)
noncomputable def gX7_readFactor_44 (F0 : Mem → Nat → Int32 → Option (Int32 × Mem)) (F1 : Mem → Nat → Int32 → Option (Int32 × Mem)) (M : Mem) (l0 : Nat) (l1 : Int32) (s0 : Int32) : Option (Int32 × Mem) :=
  ck (isK M l0 7) <| bd (fX7_goTo M l0 ((mI M l0 5) + (1 : Int32))) fun x4 M4 => if s0 = 0 then (ck (isK M4 l0 7) <| bd (F0 M4 l0 (l1 + (1 : Int32))) fun x10 M10 => if x10 = 0 then (some ((0 : Int32), M10)) else (ck (isK M10 l0 7) <| bd (fX7_readWord M10 l0 7) fun x12 M12 => if x12 = 0 then (some ((0 : Int32), M12)) else (some ((1 : Int32), M12)))) else (ck (isK M4 l0 7) <| bd (F1 M4 l0 (l1 + (1 : Int32))) fun x6 M6 => if x6 = 0 then (some ((0 : Int32), M6)) else (ck (isK M6 l0 7) <| bd (fX7_addStep M6 l0 (1 : Int32) (0 : Int32)) fun x8 M8 => some ((1 : Int32), M8)))
noncomputable def gX7_readFactor_23 (F0 : Mem → Nat → Int32 → Option (Int32 × Mem)) (F1 : Mem → Nat → Int32 → Option (Int32 × Mem)) (M : Mem) (l0 : Nat) (l1 : Int32) : Option (Int32 × Mem) :=
  if l1 < (4 : Int32) then (ck (isK M l0 7) <| if (mI M l0 6) = (33 : Int32) then (gX7_readFactor_44 F0 F1 M l0 l1 (1 : Int32)) else (gX7_readFactor_44 F0 F1 M l0 l1 (0 : Int32))) else (some ((0 : Int32), M))
noncomputable def bX7_readFactor (F0 : Mem → Nat → Int32 → Option (Int32 × Mem)) (F1 : Mem → Nat → Int32 → Option (Int32 × Mem)) (M : Mem) (a0 : Nat) (a1 : Int32) : Option (Int32 × Mem) :=
  ck (isK M a0 7) <| if (mI M a0 6) = (33 : Int32) then (gX7_readFactor_23 F0 F1 M a0 a1) else (if (mI M a0 6) = (40 : Int32) then (gX7_readFactor_23 F0 F1 M a0 a1) else (bd (fX7_readTest M a0) fun x13 M13 => ck (b01 x13) <| some (x13, M13)))
set_option maxRecDepth 100000 in
set_option maxHeartbeats 4000000 in
theorem wX7_readFactor_44 {z : Zx} {fx : Fx} {al : Bool} {r : Nat} {N : Mem} {xr : Int32} {F0 : Mem → Nat → Int32 → Option (Int32 × Mem)}  {F1 : Mem → Nat → Int32 → Option (Int32 × Mem)} (hz : Zok z fx al yX7_readFactor.cls yX7_readFactor.name cX7_readFactor (some .boolean) 3 (r + 6) 0 0 (some (.int xr)) N) (hF0 : ∀ {M N : Mem} {a0 : Nat} {a1 : Int32} {xr : Int32}, F0 M a0 a1 = some (xr, N) → Ct fx yX7_readEither cX7_readEither 5 (some .boolean) (r + 5) 0 0 al [.ref a0, .int a1] M (some (.int xr)) N) (hF1 : ∀ {M N : Mem} {a0 : Nat} {a1 : Int32} {xr : Int32}, F1 M a0 a1 = some (xr, N) → Ct fx yX7_readFactor cX7_readFactor 3 (some .boolean) (r + 5) 0 0 al [.ref a0, .int a1] M (some (.int xr)) N)   {M : Mem} {l0 : Nat} {l1 : Int32} {s0 : Int32} (h : gX7_readFactor_44 F0 F1 M l0 l1 s0 = some (xr, N)) : V z 44 [some (.ref l0), some (.int l1), none] [.int s0] M 0 0 := by
  unfold gX7_readFactor_44 at h
  refine v_istore_n hz (lw := [some (.ref l0), some (.int l1), some (.int s0)]) rfl (Nat.le_of_ble_eq_true rfl) rfl rfl dX7_readFactor_44 ?_
  refine v_aload_n hz rfl rfl dX7_readFactor_45 ?_
  refine v_aload_n hz rfl rfl dX7_readFactor_46 ?_
  obtain ⟨ck3, h⟩ := ck_inv h
  obtain ⟨ka3, kb3⟩ := isK_of ck3
  refine v_getI hz fl_X7_40 rfl dX7_readFactor_47 ka3 kb3 ?_
  refine v_iconst hz (v := (1 : Int32)) (by decide) dX7_readFactor_50 ?_
  refine v_iadd hz dX7_readFactor_51 ?_
  obtain ⟨x4, M4, e4, h⟩ := bd_inv h
  refine v_callV hz (As := [.int ((mI M l0 5) + (1 : Int32))]) vl_X7_29 (tX7_goTo (r + 5) e4) rfl (by decide) ka3 kb3 rfl rfl rfl (Nat.le_of_ble_eq_true rfl) ⟨by decide, by decide⟩ dX7_readFactor_52 ?_
  show V z 55 [some (.ref l0), some (.int l1), some (.int s0)] [] M4 0 0
  refine v_iload_n hz rfl rfl dX7_readFactor_55 ?_
  refine v_if_ne (tgt := 84) hz dX7_readFactor_56 (by decide) (fun hc => ?_) (fun hc => ?_)
  · replace h := (if_neg hc).symm.trans h
    refine v_aload_n hz rfl rfl dX7_readFactor_84 ?_
    refine v_iload_n hz rfl rfl dX7_readFactor_85 ?_
    refine v_iconst hz (v := (1 : Int32)) (by decide) dX7_readFactor_86 ?_
    refine v_iadd hz dX7_readFactor_87 ?_
    obtain ⟨ck5, h⟩ := ck_inv h
    obtain ⟨ka5, kb5⟩ := isK_of ck5
    obtain ⟨x6, M6, e6, h⟩ := bd_inv h
    refine v_callV hz (As := [.int (l1 + (1 : Int32))]) vl_X7_80 (hF1 e6) rfl (by decide) ka5 kb5 rfl rfl rfl (Nat.le_of_ble_eq_true rfl) ⟨by decide, by decide⟩ dX7_readFactor_88 ?_
    show V z 91 [some (.ref l0), some (.int l1), some (.int s0)] [.int x6] M6 0 0
    refine v_if_ne (tgt := 96) hz dX7_readFactor_91 (by decide) (fun hc => ?_) (fun hc => ?_)
    · replace h := (if_neg hc).symm.trans h
      refine v_aload_n hz rfl rfl dX7_readFactor_96 ?_
      refine v_iconst hz (v := (1 : Int32)) (by decide) dX7_readFactor_97 ?_
      refine v_iconst hz (v := (0 : Int32)) (by decide) dX7_readFactor_98 ?_
      obtain ⟨ck7, h⟩ := ck_inv h
      obtain ⟨ka7, kb7⟩ := isK_of ck7
      obtain ⟨x8, M8, e8, h⟩ := bd_inv h
      refine v_callV hz (As := [.int (1 : Int32), .int (0 : Int32)]) vl_X7_74 (tX7_addStep (r + 5) e8) rfl (by decide) ka7 kb7 rfl rfl rfl (Nat.le_of_ble_eq_true rfl) ⟨by decide, by decide⟩ dX7_readFactor_99 ?_
      show V z 102 [some (.ref l0), some (.int l1), some (.int s0)] [] M8 0 0
      refine v_iconst hz (v := (1 : Int32)) (by decide) dX7_readFactor_102 ?_
      obtain ⟨rfl, rfl⟩ := sp_inv h
      exact v_zret hz (Or.inr rfl) dX7_readFactor_103 (by decide) (by decide)
    · replace h := (if_pos hc).symm.trans h
      refine v_iconst hz (v := (0 : Int32)) (by decide) dX7_readFactor_94 ?_
      obtain ⟨rfl, rfl⟩ := sp_inv h
      exact v_zret hz (Or.inl rfl) dX7_readFactor_95 (by decide) (by decide)
  · replace h := (if_pos hc).symm.trans h
    refine v_aload_n hz rfl rfl dX7_readFactor_59 ?_
    refine v_iload_n hz rfl rfl dX7_readFactor_60 ?_
    refine v_iconst hz (v := (1 : Int32)) (by decide) dX7_readFactor_61 ?_
    refine v_iadd hz dX7_readFactor_62 ?_
    obtain ⟨ck9, h⟩ := ck_inv h
    obtain ⟨ka9, kb9⟩ := isK_of ck9
    obtain ⟨x10, M10, e10, h⟩ := bd_inv h
    refine v_callV hz (As := [.int (l1 + (1 : Int32))]) vl_X7_70 (hF0 e10) rfl (by decide) ka9 kb9 rfl rfl rfl (Nat.le_of_ble_eq_true rfl) ⟨by decide, by decide⟩ dX7_readFactor_63 ?_
    show V z 66 [some (.ref l0), some (.int l1), some (.int s0)] [.int x10] M10 0 0
    refine v_if_eq (tgt := 82) hz dX7_readFactor_66 (by decide) (fun hc => ?_) (fun hc => ?_)
    · replace h := (if_pos hc).symm.trans h
      refine v_iconst hz (v := (0 : Int32)) (by decide) dX7_readFactor_82 ?_
      obtain ⟨rfl, rfl⟩ := sp_inv h
      exact v_zret hz (Or.inl rfl) dX7_readFactor_83 (by decide) (by decide)
    · replace h := (if_neg hc).symm.trans h
      refine v_aload_n hz rfl rfl dX7_readFactor_69 ?_
      refine v_ldcS hz (tx := ")") (j := 7) (by decide +kernel) dX7_readFactor_70 ?_
      obtain ⟨ck11, h⟩ := ck_inv h
      obtain ⟨ka11, kb11⟩ := isK_of ck11
      obtain ⟨x12, M12, e12, h⟩ := bd_inv h
      refine v_callV hz (As := [.retAddr 7]) vl_X7_54 (tX7_readWord (r + 0) e12) rfl (by decide) ka11 kb11 rfl rfl rfl (Nat.le_of_ble_eq_true rfl) ⟨by decide, by decide⟩ dX7_readFactor_72 ?_
      show V z 75 [some (.ref l0), some (.int l1), some (.int s0)] [.int x12] M12 0 0
      refine v_if_eq (tgt := 82) hz dX7_readFactor_75 (by decide) (fun hc => ?_) (fun hc => ?_)
      · replace h := (if_pos hc).symm.trans h
        refine v_iconst hz (v := (0 : Int32)) (by decide) dX7_readFactor_82 ?_
        obtain ⟨rfl, rfl⟩ := sp_inv h
        exact v_zret hz (Or.inl rfl) dX7_readFactor_83 (by decide) (by decide)
      · replace h := (if_neg hc).symm.trans h
        refine v_iconst hz (v := (1 : Int32)) (by decide) dX7_readFactor_78 ?_
        refine v_goto (tgt := 83) hz dX7_readFactor_79 (by decide) ?_
        obtain ⟨rfl, rfl⟩ := sp_inv h
        exact v_zret hz (Or.inr rfl) dX7_readFactor_83 (by decide) (by decide)
set_option maxRecDepth 100000 in
set_option maxHeartbeats 4000000 in
theorem wX7_readFactor_23 {z : Zx} {fx : Fx} {al : Bool} {r : Nat} {N : Mem} {xr : Int32} {F0 : Mem → Nat → Int32 → Option (Int32 × Mem)}  {F1 : Mem → Nat → Int32 → Option (Int32 × Mem)} (hz : Zok z fx al yX7_readFactor.cls yX7_readFactor.name cX7_readFactor (some .boolean) 3 (r + 6) 0 0 (some (.int xr)) N) (hF0 : ∀ {M N : Mem} {a0 : Nat} {a1 : Int32} {xr : Int32}, F0 M a0 a1 = some (xr, N) → Ct fx yX7_readEither cX7_readEither 5 (some .boolean) (r + 5) 0 0 al [.ref a0, .int a1] M (some (.int xr)) N) (hF1 : ∀ {M N : Mem} {a0 : Nat} {a1 : Int32} {xr : Int32}, F1 M a0 a1 = some (xr, N) → Ct fx yX7_readFactor cX7_readFactor 3 (some .boolean) (r + 5) 0 0 al [.ref a0, .int a1] M (some (.int xr)) N)   {M : Mem} {l0 : Nat} {l1 : Int32} (h : gX7_readFactor_23 F0 F1 M l0 l1 = some (xr, N)) : V z 23 [some (.ref l0), some (.int l1), none] [] M 0 0 := by
  unfold gX7_readFactor_23 at h
  refine v_iload_n hz rfl rfl dX7_readFactor_23 ?_
  refine v_iconst hz (v := (4 : Int32)) (by decide) dX7_readFactor_24 ?_
  refine v_icmp_lt (tgt := 30) hz dX7_readFactor_25 (by decide) (fun hc => ?_) (fun hc => ?_)
  · replace h := (if_pos hc).symm.trans h
    refine v_aload_n hz rfl rfl dX7_readFactor_30 ?_
    obtain ⟨ck2, h⟩ := ck_inv h
    obtain ⟨ka2, kb2⟩ := isK_of ck2
    refine v_getI hz fl_X7_37 rfl dX7_readFactor_31 ka2 kb2 ?_
    refine v_bipush hz (v := (33 : Int32)) (by decide) dX7_readFactor_34 ?_
    refine v_icmp_ne (tgt := 43) hz dX7_readFactor_36 (by decide) (fun hc => ?_) (fun hc => ?_)
    · replace h := (if_neg hc).symm.trans h
      refine v_iconst hz (v := (0 : Int32)) (by decide) dX7_readFactor_43 ?_
      exact v_weak (lvle_s (lvle_s (lvle_n lvle_0))) (wX7_readFactor_44 hz hF0 hF1  h)
    · replace h := (if_pos hc).symm.trans h
      refine v_iconst hz (v := (1 : Int32)) (by decide) dX7_readFactor_39 ?_
      refine v_goto (tgt := 44) hz dX7_readFactor_40 (by decide) ?_
      exact v_weak (lvle_s (lvle_s (lvle_n lvle_0))) (wX7_readFactor_44 hz hF0 hF1  h)
  · replace h := (if_neg hc).symm.trans h
    refine v_iconst hz (v := (0 : Int32)) (by decide) dX7_readFactor_28 ?_
    obtain ⟨rfl, rfl⟩ := sp_inv h
    exact v_zret hz (Or.inl rfl) dX7_readFactor_29 (by decide) (by decide)
set_option maxRecDepth 100000 in
set_option maxHeartbeats 4000000 in
theorem tX7_readFactor_b (r : Nat) {fx : Fx} {al : Bool} {M N : Mem} {a0 : Nat} {a1 : Int32} {xr : Int32} {F0 : Mem → Nat → Int32 → Option (Int32 × Mem)}  {F1 : Mem → Nat → Int32 → Option (Int32 × Mem)} (hF0 : ∀ {M N : Mem} {a0 : Nat} {a1 : Int32} {xr : Int32}, F0 M a0 a1 = some (xr, N) → Ct fx yX7_readEither cX7_readEither 5 (some .boolean) (r + 5) 0 0 al [.ref a0, .int a1] M (some (.int xr)) N) (hF1 : ∀ {M N : Mem} {a0 : Nat} {a1 : Int32} {xr : Int32}, F1 M a0 a1 = some (xr, N) → Ct fx yX7_readFactor cX7_readFactor 3 (some .boolean) (r + 5) 0 0 al [.ref a0, .int a1] M (some (.int xr)) N) (h : bX7_readFactor F0 F1 M a0 a1 = some (xr, N)) : Ct fx yX7_readFactor cX7_readFactor 3 (some .boolean) (r + 6) 0 0 al [.ref a0, .int a1] M (some (.int xr)) N := by
  refine ct_of (lv := [some (.ref a0), some (.int a1), none]) (by decide) (Nat.le_of_ble_eq_true rfl) rfl rfl (fun z hz => ?_)
  unfold bX7_readFactor at h
  refine v_aload_n hz rfl rfl dX7_readFactor_0 ?_
  obtain ⟨ck1, h⟩ := ck_inv h
  obtain ⟨ka1, kb1⟩ := isK_of ck1
  refine v_getI hz fl_X7_37 rfl dX7_readFactor_1 ka1 kb1 ?_
  refine v_bipush hz (v := (33 : Int32)) (by decide) dX7_readFactor_4 ?_
  refine v_icmp_eq (tgt := 23) hz dX7_readFactor_6 (by decide) (fun hc => ?_) (fun hc => ?_)
  · replace h := (if_pos hc).symm.trans h
    exact v_weak (lvle_s (lvle_s (lvle_n lvle_0))) (wX7_readFactor_23 hz hF0 hF1  h)
  · replace h := (if_neg hc).symm.trans h
    refine v_aload_n hz rfl rfl dX7_readFactor_9 ?_
    refine v_getI hz fl_X7_37 rfl dX7_readFactor_10 ka1 kb1 ?_
    refine v_bipush hz (v := (40 : Int32)) (by decide) dX7_readFactor_13 ?_
    refine v_icmp_eq (tgt := 23) hz dX7_readFactor_15 (by decide) (fun hc => ?_) (fun hc => ?_)
    · replace h := (if_pos hc).symm.trans h
      exact v_weak (lvle_s (lvle_s (lvle_n lvle_0))) (wX7_readFactor_23 hz hF0 hF1  h)
    · replace h := (if_neg hc).symm.trans h
      refine v_aload_n hz rfl rfl dX7_readFactor_18 ?_
      obtain ⟨x13, M13, e13, h⟩ := bd_inv h
      refine v_callV hz (As := []) vl_X7_83 (tX7_readTest (r + 1) e13) rfl (by decide) ka1 kb1 rfl rfl rfl (Nat.le_of_ble_eq_true rfl) ⟨by decide, by decide⟩ dX7_readFactor_19 ?_
      show V z 22 [some (.ref a0), some (.int a1), none] [.int x13] M13 0 0
      obtain ⟨g14, h⟩ := ck_inv h
      obtain ⟨rfl, rfl⟩ := sp_inv h
      exact v_zret hz (b01_of g14) dX7_readFactor_22 (by decide) (by decide)
noncomputable def rgA : Nat → Nat → Mem → Nat → Int32 → Option (Int32 × Mem)
  | 0, _, _, _, _ => none
  | n + 1, 0, M, a0, a1 => bX7_readEither (rgA n 0) (rgA n 1) M a0 a1
  | n + 1, _, M, a0, a1 => bX7_readFactor (rgA n 0) (rgA n 1) M a0 a1
set_option maxRecDepth 100000 in
theorem rgA_c {fx : Fx} {al : Bool} (r : Nat) : ∀ n : Nat, (∀ {M N : Mem} {a0 : Nat} {a1 : Int32} {xr : Int32}, rgA n 0 M a0 a1 = some (xr, N) → Ct fx yX7_readEither cX7_readEither 5 (some .boolean) (r + n + 5) 0 0 al [.ref a0, .int a1] M (some (.int xr)) N) ∧ (∀ {M N : Mem} {a0 : Nat} {a1 : Int32} {xr : Int32}, rgA n 1 M a0 a1 = some (xr, N) → Ct fx yX7_readFactor cX7_readFactor 3 (some .boolean) (r + n + 5) 0 0 al [.ref a0, .int a1] M (some (.int xr)) N) := by
  intro n
  induction n with
  | zero => exact ⟨(fun h => by cases (show (none : Option (Int32 × Mem)) = some _ from h)), (fun h => by cases (show (none : Option (Int32 × Mem)) = some _ from h))⟩
  | succ n ih => exact ⟨fun h => tX7_readEither_b (r + n) ih.1 ih.2 h, fun h => tX7_readFactor_b (r + n) ih.1 ih.2 h⟩
noncomputable def fX7_readEither (M : Mem) (a0 : Nat) (a1 : Int32) : Option (Int32 × Mem) := rgA 24 0 M a0 a1
theorem tX7_readEither (r : Nat) {fx : Fx} {al : Bool} {M N : Mem} {a0 : Nat} {a1 : Int32} {xr : Int32} (h : fX7_readEither M a0 a1 = some (xr, N)) : Ct fx yX7_readEither cX7_readEither 5 (some .boolean) (r + 29) 0 0 al [.ref a0, .int a1] M (some (.int xr)) N := (rgA_c (fx := fx) (al := al) r 24).1 h
noncomputable def fX7_readFactor (M : Mem) (a0 : Nat) (a1 : Int32) : Option (Int32 × Mem) := rgA 24 1 M a0 a1
theorem tX7_readFactor (r : Nat) {fx : Fx} {al : Bool} {M N : Mem} {a0 : Nat} {a1 : Int32} {xr : Int32} (h : fX7_readFactor M a0 a1 = some (xr, N)) : Ct fx yX7_readFactor cX7_readFactor 3 (some .boolean) (r + 29) 0 0 al [.ref a0, .int a1] M (some (.int xr)) N := (rgA_c (fx := fx) (al := al) r 24).2 h
noncomputable def fX7_readBald (M : Mem) (a0 : Nat) : Option (Int32 × Mem) :=
  ck (isK M a0 7) <| bd (fX7_readWord M a0 2) fun x2 M2 => if x2 = 0 then (some ((0 : Int32), M2)) else (ck (isK M2 a0 7) <| bd (fX7_readNumber M2 a0) fun x4 M4 => if x4 = (-1 : Int32) then (some ((0 : Int32), M4)) else (ck (isK M4 a0 7) <| some ((1 : Int32), (stI M4 a0 2 x4))))
set_option maxRecDepth 100000 in
set_option maxHeartbeats 4000000 in
theorem tX7_readBald (r : Nat) {fx : Fx} {al : Bool} {M N : Mem} {a0 : Nat} {xr : Int32}  (h : fX7_readBald M a0 = some (xr, N)) : Ct fx yX7_readBald cX7_readBald 2 (some .boolean) (r + 6) 0 0 al [.ref a0] M (some (.int xr)) N := by
  refine ct_of (lv := [some (.ref a0), none]) (by decide) (Nat.le_of_ble_eq_true rfl) rfl rfl (fun z hz => ?_)
  unfold fX7_readBald at h
  refine v_aload_n hz rfl rfl dX7_readBald_0 ?_
  refine v_ldcS hz (tx := "ld ") (j := 2) (by decide +kernel) dX7_readBald_1 ?_
  obtain ⟨ck1, h⟩ := ck_inv h
  obtain ⟨ka1, kb1⟩ := isK_of ck1
  obtain ⟨x2, M2, e2, h⟩ := bd_inv h
  refine v_callV hz (As := [.retAddr 2]) vl_X7_54 (tX7_readWord (r + 0) e2) rfl (by decide) ka1 kb1 rfl rfl rfl (Nat.le_of_ble_eq_true rfl) ⟨by decide, by decide⟩ dX7_readBald_3 ?_
  show V z 6 [some (.ref a0), none] [.int x2] M2 0 0
  refine v_if_ne (tgt := 11) hz dX7_readBald_6 (by decide) (fun hc => ?_) (fun hc => ?_)
  · replace h := (if_neg hc).symm.trans h
    refine v_aload_n hz rfl rfl dX7_readBald_11 ?_
    obtain ⟨ck3, h⟩ := ck_inv h
    obtain ⟨ka3, kb3⟩ := isK_of ck3
    obtain ⟨x4, M4, e4, h⟩ := bd_inv h
    refine v_callV hz (As := []) vl_X7_65 (tX7_readNumber (r + 4) e4) rfl (by decide) ka3 kb3 rfl rfl rfl (Nat.le_of_ble_eq_true rfl) ⟨by decide, by decide⟩ dX7_readBald_12 ?_
    show V z 15 [some (.ref a0), none] [.int x4] M4 0 0
    refine v_istore_n hz (lw := [some (.ref a0), some (.int x4)]) rfl (Nat.le_of_ble_eq_true rfl) rfl rfl dX7_readBald_15 ?_
    refine v_iload_n hz rfl rfl dX7_readBald_16 ?_
    refine v_iconst hz (v := (-1 : Int32)) (by decide) dX7_readBald_17 ?_
    refine v_icmp_ne (tgt := 23) hz dX7_readBald_18 (by decide) (fun hc => ?_) (fun hc => ?_)
    · replace h := (if_neg hc).symm.trans h
      refine v_aload_n hz rfl rfl dX7_readBald_23 ?_
      refine v_iload_n hz rfl rfl dX7_readBald_24 ?_
      obtain ⟨ck5, h⟩ := ck_inv h
      obtain ⟨ka5, kb5⟩ := isK_of ck5
      refine v_putI hz fl_X7_15 ft_7_2 (by decide) rfl rfl rfl dX7_readBald_25 ka5 kb5 ?_
      refine v_iconst hz (v := (1 : Int32)) (by decide) dX7_readBald_28 ?_
      obtain ⟨rfl, rfl⟩ := sp_inv h
      exact v_zret hz (Or.inr rfl) dX7_readBald_29 (by decide) (by decide)
    · replace h := (if_pos hc).symm.trans h
      refine v_iconst hz (v := (0 : Int32)) (by decide) dX7_readBald_21 ?_
      obtain ⟨rfl, rfl⟩ := sp_inv h
      exact v_zret hz (Or.inl rfl) dX7_readBald_22 (by decide) (by decide)
  · replace h := (if_pos hc).symm.trans h
    refine v_iconst hz (v := (0 : Int32)) (by decide) dX7_readBald_9 ?_
    obtain ⟨rfl, rfl⟩ := sp_inv h
    exact v_zret hz (Or.inl rfl) dX7_readBald_10 (by decide) (by decide)
