noncomputable def gX3_stepsTo_47  : Nat → Mem → Int32 → Int32 → Int32 → Int32 → Option (Int32 × Mem)
  | 0, _, _, _, _, _ => none
  | n + 1, M, l2, l3, l4, l5 => if (25 : Int32) ≤ l5 then (some ((-5 : Int32), M)) else (if ((l4 >>> (l2 &&& 31)) &&& (1 : Int32)) = (1 : Int32) then (some (l5, M)) else ((gX3_stepsTo_47 n) M l2 l3 (l4 ||| ((((l4 >>> ((5 : Int32) &&& 31)) ||| (l4 <<< ((5 : Int32) &&& 31))) ||| (((l4 &&& (-1082402 : Int32)) >>> ((1 : Int32) &&& 31)) ||| ((l4 &&& (-17318417 : Int32)) <<< ((1 : Int32) &&& 31)))) &&& l3)) (l5 + (1 : Int32))))
noncomputable def gX3_stepsTo_28 (K5 : Mem → Nat → Int32 → Int32 → Int32 → Int32 → Option (Int32 × Mem)) (M : Mem) (l0 : Nat) (l1 : Int32) (l2 : Int32) (l3 : Int32) (l4 : Int32) : Option (Int32 × Mem) :=
  K5 M l0 l1 l2 l3 (l4 + (1 : Int32))
noncomputable def gX3_stepsTo_5  : Nat → Mem → Nat → Int32 → Int32 → Int32 → Int32 → Option (Int32 × Mem)
  | 0, _, _, _, _, _, _ => none
  | n + 1, M, l0, l1, l2, l3, l4 => if (25 : Int32) ≤ l4 then (ck (isK M l0 3) <| rb (mR M l0 7) fun b2 => ck (isK M b2 14) <| ck (inb l1 (mG M b2)) <| gX3_stepsTo_47 FU M l2 l3 ((1 : Int32) <<< ((mI M b2 l1.toNatClampNeg) &&& 31)) (0 : Int32)) else (ck (isK M l0 3) <| bd (fX3_isBald M l0 l4) fun x6 M6 => if x6 = 0 then (gX3_stepsTo_28 (gX3_stepsTo_5 n) M6 l0 l1 l2 (l3 ||| ((1 : Int32) <<< (l4 &&& 31))) l4) else (gX3_stepsTo_28 (gX3_stepsTo_5 n) M6 l0 l1 l2 l3 l4))
noncomputable def fX3_stepsTo (M : Mem) (a0 : Nat) (a1 : Int32) (a2 : Int32) : Option (Int32 × Mem) :=
  gX3_stepsTo_5 FU M a0 a1 a2 (0 : Int32) (0 : Int32)
set_option maxRecDepth 100000 in
set_option maxHeartbeats 4000000 in
theorem gX3_stepsTo_47_s  (n : Nat) (M : Mem) (l2 : Int32) (l3 : Int32) (l4 : Int32) (l5 : Int32) : gX3_stepsTo_47  (n + 1) M l2 l3 l4 l5 = (if (25 : Int32) ≤ l5 then (some ((-5 : Int32), M)) else (if ((l4 >>> (l2 &&& 31)) &&& (1 : Int32)) = (1 : Int32) then (some (l5, M)) else ((gX3_stepsTo_47 n) M l2 l3 (l4 ||| ((((l4 >>> ((5 : Int32) &&& 31)) ||| (l4 <<< ((5 : Int32) &&& 31))) ||| (((l4 &&& (-1082402 : Int32)) >>> ((1 : Int32) &&& 31)) ||| ((l4 &&& (-17318417 : Int32)) <<< ((1 : Int32) &&& 31)))) &&& l3)) (l5 + (1 : Int32))))) := rfl
set_option maxRecDepth 100000 in
set_option maxHeartbeats 4000000 in
theorem wX3_stepsTo_47 {z : Zx} {fx : Fx} {al : Bool} {r : Nat} {N : Mem} {xr : Int32} (hz : Zok z fx al yX3_stepsTo.cls yX3_stepsTo.name cX3_stepsTo (some .int) 8 (r + 1) 0 0 (some (.int xr)) N)    : ∀ {n : Nat} {M : Mem} {l2 : Int32} {l3 : Int32} {l4 : Int32} {l5 : Int32}, gX3_stepsTo_47  n M l2 l3 l4 l5 = some (xr, N) → V z 47 [none, none, some (.int l2), some (.int l3), some (.int l4), some (.int l5), none, none] [] M 0 0 := by
  intro n
  induction n with
  | zero => intro M l2 l3 l4 l5 h; cases h
  | succ n ih =>
    intro M l2 l3 l4 l5 h
    replace h := (gX3_stepsTo_47_s  n M l2 l3 l4 l5).symm.trans h
    refine v_iload hz rfl dX3_stepsTo_47 ?_
    refine v_bipush hz (v := (25 : Int32)) (by decide) dX3_stepsTo_49 ?_
    refine v_icmp_ge (tgt := 113) hz dX3_stepsTo_51 (by decide) (fun hc => ?_) (fun hc => ?_)
    · replace h := (if_pos hc).symm.trans h
      refine v_bipush hz (v := (-5 : Int32)) (by decide) dX3_stepsTo_113 ?_
      obtain ⟨rfl, rfl⟩ := sp_inv h
      exact v_iret hz dX3_stepsTo_115 (by decide) (by decide)
    · replace h := (if_neg hc).symm.trans h
      refine v_iload hz rfl dX3_stepsTo_54 ?_
      refine v_iload_n hz rfl rfl dX3_stepsTo_56 ?_
      refine v_ishr hz dX3_stepsTo_57 ?_
      refine v_iconst hz (v := (1 : Int32)) (by decide) dX3_stepsTo_58 ?_
      refine v_iand hz dX3_stepsTo_59 ?_
      refine v_iconst hz (v := (1 : Int32)) (by decide) dX3_stepsTo_60 ?_
      refine v_icmp_ne (tgt := 67) hz dX3_stepsTo_61 (by decide) (fun hc => ?_) (fun hc => ?_)
      · replace h := (if_neg hc).symm.trans h
        refine v_iload hz rfl dX3_stepsTo_67 ?_
        refine v_iconst hz (v := (5 : Int32)) (by decide) dX3_stepsTo_69 ?_
        refine v_ishr hz dX3_stepsTo_70 ?_
        refine v_iload hz rfl dX3_stepsTo_71 ?_
        refine v_iconst hz (v := (5 : Int32)) (by decide) dX3_stepsTo_73 ?_
        refine v_ishl hz dX3_stepsTo_74 ?_
        refine v_ior hz dX3_stepsTo_75 ?_
        refine v_istore hz (lw := [none, none, some (.int l2), some (.int l3), some (.int l4), some (.int l5), some (.int ((l4 >>> ((5 : Int32) &&& 31)) ||| (l4 <<< ((5 : Int32) &&& 31)))), none]) (Nat.le_of_ble_eq_true rfl) rfl rfl dX3_stepsTo_76 ?_
        refine v_iload hz rfl dX3_stepsTo_78 ?_
        refine v_ldc hz wq_653 dX3_stepsTo_80 ?_
        refine v_iand hz dX3_stepsTo_82 ?_
        refine v_iconst hz (v := (1 : Int32)) (by decide) dX3_stepsTo_83 ?_
        refine v_ishr hz dX3_stepsTo_84 ?_
        refine v_iload hz rfl dX3_stepsTo_85 ?_
        refine v_ldc hz wq_654 dX3_stepsTo_87 ?_
        refine v_iand hz dX3_stepsTo_89 ?_
        refine v_iconst hz (v := (1 : Int32)) (by decide) dX3_stepsTo_90 ?_
        refine v_ishl hz dX3_stepsTo_91 ?_
        refine v_ior hz dX3_stepsTo_92 ?_
        refine v_istore hz (lw := [none, none, some (.int l2), some (.int l3), some (.int l4), some (.int l5), some (.int ((l4 >>> ((5 : Int32) &&& 31)) ||| (l4 <<< ((5 : Int32) &&& 31)))), some (.int (((l4 &&& (-1082402 : Int32)) >>> ((1 : Int32) &&& 31)) ||| ((l4 &&& (-17318417 : Int32)) <<< ((1 : Int32) &&& 31))))]) (Nat.le_of_ble_eq_true rfl) rfl rfl dX3_stepsTo_93 ?_
        refine v_iload hz rfl dX3_stepsTo_95 ?_
        refine v_iload hz rfl dX3_stepsTo_97 ?_
        refine v_iload hz rfl dX3_stepsTo_99 ?_
        refine v_ior hz dX3_stepsTo_101 ?_
        refine v_iload_n hz rfl rfl dX3_stepsTo_102 ?_
        refine v_iand hz dX3_stepsTo_103 ?_
        refine v_ior hz dX3_stepsTo_104 ?_
        refine v_istore hz (lw := [none, none, some (.int l2), some (.int l3), some (.int (l4 ||| ((((l4 >>> ((5 : Int32) &&& 31)) ||| (l4 <<< ((5 : Int32) &&& 31))) ||| (((l4 &&& (-1082402 : Int32)) >>> ((1 : Int32) &&& 31)) ||| ((l4 &&& (-17318417 : Int32)) <<< ((1 : Int32) &&& 31)))) &&& l3))), some (.int l5), some (.int ((l4 >>> ((5 : Int32) &&& 31)) ||| (l4 <<< ((5 : Int32) &&& 31)))), some (.int (((l4 &&& (-1082402 : Int32)) >>> ((1 : Int32) &&& 31)) ||| ((l4 &&& (-17318417 : Int32)) <<< ((1 : Int32) &&& 31))))]) (Nat.le_of_ble_eq_true rfl) rfl rfl dX3_stepsTo_105 ?_
        refine v_iinc hz (v := (l5 + (1 : Int32))) (lw := [none, none, some (.int l2), some (.int l3), some (.int (l4 ||| ((((l4 >>> ((5 : Int32) &&& 31)) ||| (l4 <<< ((5 : Int32) &&& 31))) ||| (((l4 &&& (-1082402 : Int32)) >>> ((1 : Int32) &&& 31)) ||| ((l4 &&& (-17318417 : Int32)) <<< ((1 : Int32) &&& 31)))) &&& l3))), some (.int (l5 + (1 : Int32))), some (.int ((l4 >>> ((5 : Int32) &&& 31)) ||| (l4 <<< ((5 : Int32) &&& 31)))), some (.int (((l4 &&& (-1082402 : Int32)) >>> ((1 : Int32) &&& 31)) ||| ((l4 &&& (-17318417 : Int32)) <<< ((1 : Int32) &&& 31))))]) rfl (congrArg (fun q => l5 + q) (show Int32.ofInt (1) = (1 : Int32) by decide)) rfl rfl dX3_stepsTo_107 ?_
        refine v_goto (tgt := 47) hz dX3_stepsTo_110 (by decide) ?_
        exact v_weak (lvle_n (lvle_n (lvle_s (lvle_s (lvle_s (lvle_s (lvle_n (lvle_n lvle_0)))))))) (ih h)
      · replace h := (if_pos hc).symm.trans h
        refine v_iload hz rfl dX3_stepsTo_64 ?_
        obtain ⟨rfl, rfl⟩ := sp_inv h
        exact v_iret hz dX3_stepsTo_66 (by decide) (by decide)
set_option maxRecDepth 100000 in
set_option maxHeartbeats 4000000 in
theorem wX3_stepsTo_28 {z : Zx} {fx : Fx} {al : Bool} {r : Nat} {N : Mem} {xr : Int32} (hz : Zok z fx al yX3_stepsTo.cls yX3_stepsTo.name cX3_stepsTo (some .int) 8 (r + 1) 0 0 (some (.int xr)) N)  {K5 : Mem → Nat → Int32 → Int32 → Int32 → Int32 → Option (Int32 × Mem)} (hK5 : ∀ {M : Mem} {l0 : Nat} {l1 : Int32} {l2 : Int32} {l3 : Int32} {l4 : Int32}, K5 M l0 l1 l2 l3 l4 = some (xr, N) → V z 5 [some (.ref l0), some (.int l1), some (.int l2), some (.int l3), some (.int l4), none, none, none] [] M 0 0) {M : Mem} {l0 : Nat} {l1 : Int32} {l2 : Int32} {l3 : Int32} {l4 : Int32} (h : gX3_stepsTo_28 K5 M l0 l1 l2 l3 l4 = some (xr, N)) : V z 28 [some (.ref l0), some (.int l1), some (.int l2), some (.int l3), some (.int l4), none, none, none] [] M 0 0 := by
  unfold gX3_stepsTo_28 at h
  refine v_iinc hz (v := (l4 + (1 : Int32))) (lw := [some (.ref l0), some (.int l1), some (.int l2), some (.int l3), some (.int (l4 + (1 : Int32))), none, none, none]) rfl (congrArg (fun q => l4 + q) (show Int32.ofInt (1) = (1 : Int32) by decide)) rfl rfl dX3_stepsTo_28 ?_
  refine v_goto (tgt := 5) hz dX3_stepsTo_31 (by decide) ?_
  exact v_weak (lvle_s (lvle_s (lvle_s (lvle_s (lvle_s (lvle_n (lvle_n (lvle_n lvle_0)))))))) (hK5 h)
set_option maxRecDepth 100000 in
set_option maxHeartbeats 4000000 in
theorem gX3_stepsTo_5_s  (n : Nat) (M : Mem) (l0 : Nat) (l1 : Int32) (l2 : Int32) (l3 : Int32) (l4 : Int32) : gX3_stepsTo_5  (n + 1) M l0 l1 l2 l3 l4 = (if (25 : Int32) ≤ l4 then (ck (isK M l0 3) <| rb (mR M l0 7) fun b2 => ck (isK M b2 14) <| ck (inb l1 (mG M b2)) <| gX3_stepsTo_47 FU M l2 l3 ((1 : Int32) <<< ((mI M b2 l1.toNatClampNeg) &&& 31)) (0 : Int32)) else (ck (isK M l0 3) <| bd (fX3_isBald M l0 l4) fun x6 M6 => if x6 = 0 then (gX3_stepsTo_28 (gX3_stepsTo_5 n) M6 l0 l1 l2 (l3 ||| ((1 : Int32) <<< (l4 &&& 31))) l4) else (gX3_stepsTo_28 (gX3_stepsTo_5 n) M6 l0 l1 l2 l3 l4))) := rfl
set_option maxRecDepth 100000 in
set_option maxHeartbeats 4000000 in
theorem wX3_stepsTo_5 {z : Zx} {fx : Fx} {al : Bool} {r : Nat} {N : Mem} {xr : Int32} (hz : Zok z fx al yX3_stepsTo.cls yX3_stepsTo.name cX3_stepsTo (some .int) 8 (r + 1) 0 0 (some (.int xr)) N)    : ∀ {n : Nat} {M : Mem} {l0 : Nat} {l1 : Int32} {l2 : Int32} {l3 : Int32} {l4 : Int32}, gX3_stepsTo_5  n M l0 l1 l2 l3 l4 = some (xr, N) → V z 5 [some (.ref l0), some (.int l1), some (.int l2), some (.int l3), some (.int l4), none, none, none] [] M 0 0 := by
  intro n
  induction n with
  | zero => intro M l0 l1 l2 l3 l4 h; cases h
  | succ n ih =>
    intro M l0 l1 l2 l3 l4 h
    replace h := (gX3_stepsTo_5_s  n M l0 l1 l2 l3 l4).symm.trans h
    refine v_iload hz rfl dX3_stepsTo_5 ?_
    refine v_bipush hz (v := (25 : Int32)) (by decide) dX3_stepsTo_7 ?_
    refine v_icmp_ge (tgt := 34) hz dX3_stepsTo_9 (by decide) (fun hc => ?_) (fun hc => ?_)
    · replace h := (if_pos hc).symm.trans h
      refine v_iconst hz (v := (1 : Int32)) (by decide) dX3_stepsTo_34 ?_
      refine v_aload_n hz rfl rfl dX3_stepsTo_35 ?_
      obtain ⟨ck1, h⟩ := ck_inv h
      obtain ⟨ka1, kb1⟩ := isK_of ck1
      obtain ⟨b2, r2, h⟩ := rb_inv h
      refine v_getR hz fl_X3_21 rfl dX3_stepsTo_36 ka1 kb1 r2 ?_
      refine v_iload_n hz rfl rfl dX3_stepsTo_39 ?_
      obtain ⟨ck3, h⟩ := ck_inv h
      obtain ⟨ka3, kb3⟩ := isK_of ck3
      obtain ⟨g4, h⟩ := ck_inv h
      refine v_iaload hz dX3_stepsTo_40 ka3 kb3 g4 ?_
      refine v_ishl hz dX3_stepsTo_41 ?_
      refine v_istore hz (lw := [some (.ref l0), some (.int l1), some (.int l2), some (.int l3), some (.int ((1 : Int32) <<< ((mI M b2 l1.toNatClampNeg) &&& 31))), none, none, none]) (Nat.le_of_ble_eq_true rfl) rfl rfl dX3_stepsTo_42 ?_
      refine v_iconst hz (v := (0 : Int32)) (by decide) dX3_stepsTo_44 ?_
      refine v_istore hz (lw := [some (.ref l0), some (.int l1), some (.int l2), some (.int l3), some (.int ((1 : Int32) <<< ((mI M b2 l1.toNatClampNeg) &&& 31))), some (.int (0 : Int32)), none, none]) (Nat.le_of_ble_eq_true rfl) rfl rfl dX3_stepsTo_45 ?_
      exact v_weak (lvle_n (lvle_n (lvle_s (lvle_s (lvle_s (lvle_s (lvle_n (lvle_n lvle_0)))))))) (wX3_stepsTo_47 hz   h)
    · replace h := (if_neg hc).symm.trans h
      refine v_aload_n hz rfl rfl dX3_stepsTo_12 ?_
      refine v_iload hz rfl dX3_stepsTo_13 ?_
      obtain ⟨ck5, h⟩ := ck_inv h
      obtain ⟨ka5, kb5⟩ := isK_of ck5
      obtain ⟨x6, M6, e6, h⟩ := bd_inv h
      refine v_callV hz (As := [.int l4]) vl_X3_60 (tX3_isBald (r + 0) e6) rfl (by decide) ka5 kb5 rfl rfl rfl (Nat.le_of_ble_eq_true rfl) ⟨by decide, by decide⟩ dX3_stepsTo_15 ?_
      show V z 18 [some (.ref l0), some (.int l1), some (.int l2), some (.int l3), some (.int l4), none, none, none] [.int x6] M6 0 0
      refine v_if_ne (tgt := 28) hz dX3_stepsTo_18 (by decide) (fun hc => ?_) (fun hc => ?_)
      · replace h := (if_neg hc).symm.trans h
        exact v_weak (lvle_s (lvle_s (lvle_s (lvle_s (lvle_s (lvle_n (lvle_n (lvle_n lvle_0)))))))) (wX3_stepsTo_28 hz  (fun h => ih h) h)
      · replace h := (if_pos hc).symm.trans h
        refine v_iload_n hz rfl rfl dX3_stepsTo_21 ?_
        refine v_iconst hz (v := (1 : Int32)) (by decide) dX3_stepsTo_22 ?_
        refine v_iload hz rfl dX3_stepsTo_23 ?_
        refine v_ishl hz dX3_stepsTo_25 ?_
        refine v_ior hz dX3_stepsTo_26 ?_
        refine v_istore_n hz (lw := [some (.ref l0), some (.int l1), some (.int l2), some (.int (l3 ||| ((1 : Int32) <<< (l4 &&& 31)))), some (.int l4), none, none, none]) rfl (Nat.le_of_ble_eq_true rfl) rfl rfl dX3_stepsTo_27 ?_
        exact v_weak (lvle_s (lvle_s (lvle_s (lvle_s (lvle_s (lvle_n (lvle_n (lvle_n lvle_0)))))))) (wX3_stepsTo_28 hz  (fun h => ih h) h)
set_option maxRecDepth 100000 in
set_option maxHeartbeats 4000000 in
theorem tX3_stepsTo (r : Nat) {fx : Fx} {al : Bool} {M N : Mem} {a0 : Nat} {a1 : Int32} {a2 : Int32} {xr : Int32}  (h : fX3_stepsTo M a0 a1 a2 = some (xr, N)) : Ct fx yX3_stepsTo cX3_stepsTo 8 (some .int) (r + 1) 0 0 al [.ref a0, .int a1, .int a2] M (some (.int xr)) N := by
  refine ct_of (lv := [some (.ref a0), some (.int a1), some (.int a2), none, none, none, none, none]) (by decide) (Nat.le_of_ble_eq_true rfl) rfl rfl (fun z hz => ?_)
  unfold fX3_stepsTo at h
  refine v_iconst hz (v := (0 : Int32)) (by decide) dX3_stepsTo_0 ?_
  refine v_istore_n hz (lw := [some (.ref a0), some (.int a1), some (.int a2), some (.int (0 : Int32)), none, none, none, none]) rfl (Nat.le_of_ble_eq_true rfl) rfl rfl dX3_stepsTo_1 ?_
  refine v_iconst hz (v := (0 : Int32)) (by decide) dX3_stepsTo_2 ?_
  refine v_istore hz (lw := [some (.ref a0), some (.int a1), some (.int a2), some (.int (0 : Int32)), some (.int (0 : Int32)), none, none, none]) (Nat.le_of_ble_eq_true rfl) rfl rfl dX3_stepsTo_3 ?_
  exact v_weak (lvle_s (lvle_s (lvle_s (lvle_s (lvle_s (lvle_n (lvle_n (lvle_n lvle_0)))))))) (wX3_stepsTo_5 hz   h)
noncomputable def fX4_init (M : Mem) (a0 : Nat) : Option (Unit × Mem) :=
  bd (fX10_init M a0) fun x1 M1 => some ((), M1)
set_option maxRecDepth 100000 in
set_option maxHeartbeats 4000000 in
theorem tX4_init (r : Nat) {fx : Fx} {al : Bool} {M N : Mem} {a0 : Nat}  (h : fX4_init M a0 = some ((), N)) : Ct fx yX4_init cX4_init 1 none (r + 2) 0 0 al [.ref a0] M none N := by
  refine ct_of (lv := [some (.ref a0)]) (by decide) (Nat.le_of_ble_eq_true rfl) rfl rfl (fun z hz => ?_)
  unfold fX4_init at h
  refine v_aload_n hz rfl rfl dX4_init_0 ?_
  obtain ⟨x1, M1, e1, h⟩ := bd_inv h
  refine v_callIN hz (As := []) nl_X4_1 rfl (tX10_init (r + 0) e1) rfl rfl rfl (Nat.le_of_ble_eq_true rfl) ⟨by decide, by decide⟩ dX4_init_1 ?_
  show V z 4 [some (.ref a0)] [] M1 0 0
  obtain ⟨-, rfl⟩ := sp_inv h
  exact v_vret hz dX4_init_4 (by decide) (by decide)
noncomputable def vt4_walks (M : Mem) (a0 : Nat) (a1 : Nat) (a2 : Int32) : Option (Int32 × Mem) := ck (decide (a0 < mN M)) <| if mK M a0 = 4 then fX10_walks M a0 a1 a2 else if mK M a0 = 8 then fX8_walks M a0 a1 a2 else none
noncomputable def fX4_tells (M : Mem) (a0 : Nat) (a1 : Nat) (a2 : Int32) : Option (Int32 × Mem) :=
  ck (isK M a1 1) <| bd (fX1_begin M a1 (40 : Int32)) fun x2 M2 => bd (fX10_tells M2 a0 a1 a2) fun x3 M3 => ck (isW M2 a0) <| bd (vt4_walks M3 a0 a1 (1 : Int32)) fun x5 M5 => some ((x3 + x5), M5)
set_option maxRecDepth 100000 in
set_option maxHeartbeats 4000000 in
theorem tX4_tells (r : Nat) {fx : Fx} {al : Bool} {M N : Mem} {a0 : Nat} {a1 : Nat} {a2 : Int32} {xr : Int32}  (h : fX4_tells M a0 a1 a2 = some (xr, N)) : Ct fx yX4_tells cX4_tells 3 (some .int) (r + 7) 0 0 al [.ref a0, .ref a1, .int a2] M (some (.int xr)) N := by
  refine ct_of (lv := [some (.ref a0), some (.ref a1), some (.int a2)]) (by decide) (Nat.le_of_ble_eq_true rfl) rfl rfl (fun z hz => ?_)
  unfold fX4_tells at h
  refine v_aload_n hz rfl rfl dX4_tells_0 ?_
  refine v_bipush hz (v := (40 : Int32)) (by decide) dX4_tells_1 ?_
  obtain ⟨ck1, h⟩ := ck_inv h
  obtain ⟨ka1, kb1⟩ := isK_of ck1
  obtain ⟨x2, M2, e2, h⟩ := bd_inv h
  refine v_callV hz (As := [.int (40 : Int32)]) vl_X4_13 (tX1_begin (r + 6) e2) rfl (by decide) ka1 kb1 rfl rfl rfl (Nat.le_of_ble_eq_true rfl) ⟨by decide, by decide⟩ dX4_tells_3 ?_
  show V z 6 [some (.ref a0), some (.ref a1), some (.int a2)] [] M2 0 0
  refine v_aload_n hz rfl rfl dX4_tells_6 ?_
  refine v_aload_n hz rfl rfl dX4_tells_7 ?_
  refine v_iload_n hz rfl rfl dX4_tells_8 ?_
  obtain ⟨x3, M3, e3, h⟩ := bd_inv h
  obtain ⟨g4, h⟩ := ck_inv h
  refine v_callSUw hz (As := [.ref a1, .int a2]) upl_X4_19 (tX10_tells (r + 0) e3) g4 rfl rfl rfl (Nat.le_of_ble_eq_true rfl) ⟨by decide, by decide⟩ dX4_tells_9 ?_
  show V z 12 [some (.ref a0), some (.ref a1), some (.int a2)] [.int x3] M3 0 0
  refine v_aload_n hz rfl rfl dX4_tells_12 ?_
  refine v_aload_n hz rfl rfl dX4_tells_13 ?_
  refine v_iconst hz (v := (1 : Int32)) (by decide) dX4_tells_14 ?_
  obtain ⟨x5, M5, e5, h⟩ := bd_inv h
  have kk5 : V z 18 [some (.ref a0), some (.ref a1), some (.int a2)] [.int x5, .int x3] M5 0 0 := by
    refine v_iadd hz dX4_tells_18 ?_
    obtain ⟨rfl, rfl⟩ := sp_inv h
    exact v_iret hz dX4_tells_19 (by decide) (by decide)
  obtain ⟨gq5, e5⟩ := ck_inv e5
  replace gq5 := of_decide_eq_true gq5
  by_cases hq5 : mK M3 a0 = 4
  · replace e5 := (if_pos hq5).symm.trans e5
    exact v_callU hz (As := [.ref a1, .int (1 : Int32)]) ul_X4_23_X4 (tX10_walks (r + 3) e5) rfl (by decide) gq5 hq5 rfl rfl rfl (Nat.le_of_ble_eq_true rfl) ⟨by decide, by decide⟩ dX4_tells_15 kk5
  replace e5 := (if_neg hq5).symm.trans e5
  by_cases hq5 : mK M3 a0 = 8
  · replace e5 := (if_pos hq5).symm.trans e5
    exact v_callU hz (As := [.ref a1, .int (1 : Int32)]) ul_X4_23_X8 (tX8_walks (r + 2) e5) rfl (by decide) gq5 hq5 rfl rfl rfl (Nat.le_of_ble_eq_true rfl) ⟨by decide, by decide⟩ dX4_tells_15 kk5
  replace e5 := (if_neg hq5).symm.trans e5
  cases e5
noncomputable def fX5_init (M : Mem) (a0 : Nat) (a1 : Int32) : Option (Unit × Mem) :=
  ck (isK M a0 5) <| ck (decide (¬ (a1 * (3 : Int32)) < 0)) <| ck (decide ((a1 * (3 : Int32)).toNatClampNeg ≤ 30)) <| nm (alc (stI M a0 0 a1) 14 (a1 * (3 : Int32)).toNatClampNeg) fun M4 => ck (isK M4 a0 5) <| some ((), (stR M4 a0 1 (some (mN (stI M a0 0 a1)))))
set_option maxRecDepth 100000 in
set_option maxHeartbeats 4000000 in
theorem tX5_init (r : Nat) {fx : Fx} {M N : Mem} {a0 : Nat} {a1 : Int32}  (h : fX5_init M a0 a1 = some ((), N)) : Ct fx yX5_init cX5_init 2 none (r + 1) 1 30 true [.ref a0, .int a1] M none N := by
  refine ct_of (lv := [some (.ref a0), some (.int a1)]) (by decide) (Nat.le_of_ble_eq_true rfl) rfl rfl (fun z hz => ?_)
  unfold fX5_init at h
  refine v_aload_n hz rfl rfl dX5_init_0 ?_
  refine v_objInit hz wq_84 wq_77 wq_78 rfl rfl dX5_init_1 ?_
  refine v_aload_n hz rfl rfl dX5_init_4 ?_
  refine v_iload_n hz rfl rfl dX5_init_5 ?_
  obtain ⟨ck1, h⟩ := ck_inv h
  obtain ⟨ka1, kb1⟩ := isK_of ck1
  refine v_putIF hz fl_X5_9 ft_5_0 rfl (by decide) rfl rfl rfl dX5_init_6 ka1 kb1 ?_
  refine v_aload_n hz rfl rfl dX5_init_9 ?_
  refine v_iload_n hz rfl rfl dX5_init_10 ?_
  refine v_iconst hz (v := (3 : Int32)) (by decide) dX5_init_11 ?_
  refine v_imul hz dX5_init_12 ?_
  obtain ⟨g2, h⟩ := ck_inv h
  obtain ⟨g3, h⟩ := ck_inv h
  refine v_newI hz (t0 := 0) (c := 14) (N' := (a1 * (3 : Int32)).toNatClampNeg) wq_96 (by decide) (of_decide_eq_true g2) rfl (Nat.le_trans (of_decide_eq_true g3) (by decide)) (by decide) (Nat.le_trans (Nat.add_le_add_left (of_decide_eq_true g3) _) (by decide)) dX5_init_13 ?_
  refine v_wide (nc2 := 1) (ns2 := 30) (Nat.le_refl _) (Nat.le_trans (Nat.add_le_add_left (of_decide_eq_true g3) _) (by decide)) ?_
  obtain ⟨M4, eM4, h⟩ := nm_inv h
  refine v_mem eM4.symm ?_
  obtain ⟨ck5, h⟩ := ck_inv h
  obtain ⟨ka5, kb5⟩ := isK_of ck5
  refine v_putRF hz fl_X5_15 ft_5_1 rfl (by decide) rfl (fun _ => rfl) (fun _ => rfl) dX5_init_15 ka5 kb5 ?_
  obtain ⟨-, rfl⟩ := sp_inv h
  exact v_vret hz dX5_init_18 (by decide) (by decide)
noncomputable def fX5_clear (M : Mem) (a0 : Nat) : Option (Int32 × Mem) :=
  ck (isK M a0 5) <| some ((0 : Int32), (stI M a0 2 (0 : Int32)))
set_option maxRecDepth 100000 in
set_option maxHeartbeats 4000000 in
theorem tX5_clear (r : Nat) {fx : Fx} {al : Bool} {M N : Mem} {a0 : Nat} {xr : Int32}  (h : fX5_clear M a0 = some (xr, N)) : Ct fx yX5_clear cX5_clear 1 (some .int) (r + 0) 0 0 al [.ref a0] M (some (.int xr)) N := by
  refine ct_of (lv := [some (.ref a0)]) (by decide) (Nat.le_of_ble_eq_true rfl) rfl rfl (fun z hz => ?_)
  unfold fX5_clear at h
  refine v_aload_n hz rfl rfl dX5_clear_0 ?_
  refine v_iconst hz (v := (0 : Int32)) (by decide) dX5_clear_1 ?_
  obtain ⟨ck1, h⟩ := ck_inv h
  obtain ⟨ka1, kb1⟩ := isK_of ck1
  refine v_putI hz fl_X5_19 ft_5_2 (by decide) rfl rfl rfl dX5_clear_2 ka1 kb1 ?_
  refine v_iconst hz (v := (0 : Int32)) (by decide) dX5_clear_5 ?_
  obtain ⟨rfl, rfl⟩ := sp_inv h
  exact v_iret hz dX5_clear_6 (by decide) (by decide)
noncomputable def fX5_add (M : Mem) (a0 : Nat) (a1 : Int32) (a2 : Int32) (a3 : Int32) : Option (Int32 × Mem) :=
  ck (isK M a0 5) <| if (mI M a0 2) < (mI M a0 0) then (rb (mR M a0 1) fun b2 => ck (isK M b2 14) <| ck (inb ((mI M a0 2) * (3 : Int32)) (mG M b2)) <| ck (inb (((mI (stI M b2 ((mI M a0 2) * (3 : Int32)).toNatClampNeg a1) a0 2) * (3 : Int32)) + (1 : Int32)) (mG M b2)) <| nm (stI (stI M b2 ((mI M a0 2) * (3 : Int32)).toNatClampNeg a1) b2 (((mI (stI M b2 ((mI M a0 2) * (3 : Int32)).toNatClampNeg a1) a0 2) * (3 : Int32)) + (1 : Int32)).toNatClampNeg a2) fun M6 => ck (isK M6 a0 5) <| rb (mR M6 a0 1) fun b8 => ck (isK M6 b8 14) <| ck (inb (((mI M6 a0 2) * (3 : Int32)) + (2 : Int32)) (mG M6 b8)) <| nm (stI (stI M6 b8 (((mI M6 a0 2) * (3 : Int32)) + (2 : Int32)).toNatClampNeg a3) a0 2 ((mI (stI M6 b8 (((mI M6 a0 2) * (3 : Int32)) + (2 : Int32)).toNatClampNeg a3) a0 2) + (1 : Int32))) fun M11 => ck (isK M11 a0 5) <| some ((mI M11 a0 2), M11)) else (some ((-4 : Int32), M))
set_option maxRecDepth 100000 in
set_option maxHeartbeats 4000000 in
theorem tX5_add (r : Nat) {fx : Fx} {al : Bool} {M N : Mem} {a0 : Nat} {a1 : Int32} {a2 : Int32} {a3 : Int32} {xr : Int32}  (h : fX5_add M a0 a1 a2 a3 = some (xr, N)) : Ct fx yX5_add cX5_add 4 (some .int) (r + 0) 0 0 al [.ref a0, .int a1, .int a2, .int a3] M (some (.int xr)) N := by
  refine ct_of (lv := [some (.ref a0), some (.int a1), some (.int a2), some (.int a3)]) (by decide) (Nat.le_of_ble_eq_true rfl) rfl rfl (fun z hz => ?_)
  unfold fX5_add at h
  refine v_aload_n hz rfl rfl dX5_add_0 ?_
  obtain ⟨ck1, h⟩ := ck_inv h
  obtain ⟨ka1, kb1⟩ := isK_of ck1
  refine v_getI hz fl_X5_19 rfl dX5_add_1 ka1 kb1 ?_
  refine v_aload_n hz rfl rfl dX5_add_4 ?_
  refine v_getI hz fl_X5_9 rfl dX5_add_5 ka1 kb1 ?_
  refine v_icmp_lt (tgt := 14) hz dX5_add_8 (by decide) (fun hc => ?_) (fun hc => ?_)
  · replace h := (if_pos hc).symm.trans h
    refine v_aload_n hz rfl rfl dX5_add_14 ?_
    obtain ⟨b2, r2, h⟩ := rb_inv h
    refine v_getR hz fl_X5_15 rfl dX5_add_15 ka1 kb1 r2 ?_
    refine v_aload_n hz rfl rfl dX5_add_18 ?_
    refine v_getI hz fl_X5_19 rfl dX5_add_19 ka1 kb1 ?_
    refine v_iconst hz (v := (3 : Int32)) (by decide) dX5_add_22 ?_
    refine v_imul hz dX5_add_23 ?_
    refine v_iload_n hz rfl rfl dX5_add_24 ?_
    obtain ⟨ck3, h⟩ := ck_inv h
    obtain ⟨ka3, kb3⟩ := isK_of ck3
    obtain ⟨g4, h⟩ := ck_inv h
    refine v_iastore hz dX5_add_25 ka3 kb3 g4 ?_
    refine v_aload_n hz rfl rfl dX5_add_26 ?_
    refine v_getR hz fl_X5_15 rfl dX5_add_27 ka1 kb1 r2 ?_
    refine v_aload_n hz rfl rfl dX5_add_30 ?_
    refine v_getI hz fl_X5_19 rfl dX5_add_31 ka1 kb1 ?_
    refine v_iconst hz (v := (3 : Int32)) (by decide) dX5_add_34 ?_
    refine v_imul hz dX5_add_35 ?_
    refine v_iconst hz (v := (1 : Int32)) (by decide) dX5_add_36 ?_
    refine v_iadd hz dX5_add_37 ?_
    refine v_iload_n hz rfl rfl dX5_add_38 ?_
    obtain ⟨g5, h⟩ := ck_inv h
    refine v_iastore hz dX5_add_39 ka3 kb3 g5 ?_
    obtain ⟨M6, eM6, h⟩ := nm_inv h
    refine v_mem eM6.symm ?_
    refine v_aload_n hz rfl rfl dX5_add_40 ?_
    obtain ⟨ck7, h⟩ := ck_inv h
    obtain ⟨ka7, kb7⟩ := isK_of ck7
    obtain ⟨b8, r8, h⟩ := rb_inv h
    refine v_getR hz fl_X5_15 rfl dX5_add_41 ka7 kb7 r8 ?_
    refine v_aload_n hz rfl rfl dX5_add_44 ?_
    refine v_getI hz fl_X5_19 rfl dX5_add_45 ka7 kb7 ?_
    refine v_iconst hz (v := (3 : Int32)) (by decide) dX5_add_48 ?_
    refine v_imul hz dX5_add_49 ?_
    refine v_iconst hz (v := (2 : Int32)) (by decide) dX5_add_50 ?_
    refine v_iadd hz dX5_add_51 ?_
    refine v_iload_n hz rfl rfl dX5_add_52 ?_
    obtain ⟨ck9, h⟩ := ck_inv h
    obtain ⟨ka9, kb9⟩ := isK_of ck9
    obtain ⟨g10, h⟩ := ck_inv h
    refine v_iastore hz dX5_add_53 ka9 kb9 g10 ?_
    refine v_aload_n hz rfl rfl dX5_add_54 ?_
    refine v_dup hz rfl dX5_add_55 ?_
    refine v_getI hz fl_X5_19 rfl dX5_add_56 ka7 kb7 ?_
    refine v_iconst hz (v := (1 : Int32)) (by decide) dX5_add_59 ?_
    refine v_iadd hz dX5_add_60 ?_
    refine v_putI hz fl_X5_19 ft_5_2 (by decide) rfl rfl rfl dX5_add_61 ka7 kb7 ?_
    obtain ⟨M11, eM11, h⟩ := nm_inv h
    refine v_mem eM11.symm ?_
    refine v_aload_n hz rfl rfl dX5_add_64 ?_
    obtain ⟨ck12, h⟩ := ck_inv h
    obtain ⟨ka12, kb12⟩ := isK_of ck12
    refine v_getI hz fl_X5_19 rfl dX5_add_65 ka12 kb12 ?_
    obtain ⟨rfl, rfl⟩ := sp_inv h
    exact v_iret hz dX5_add_68 (by decide) (by decide)
  · replace h := (if_neg hc).symm.trans h
    refine v_bipush hz (v := (-4 : Int32)) (by decide) dX5_add_11 ?_
    obtain ⟨rfl, rfl⟩ := sp_inv h
    exact v_iret hz dX5_add_13 (by decide) (by decide)
noncomputable def fX5_part (M : Mem) (a0 : Nat) (a1 : Int32) (a2 : Int32) : Option (Int32 × Mem) :=
  ck (isK M a0 5) <| rb (mR M a0 1) fun b2 => ck (isK M b2 14) <| ck (inb ((a1 * (3 : Int32)) + a2) (mG M b2)) <| some ((mI M b2 ((a1 * (3 : Int32)) + a2).toNatClampNeg), M)
set_option maxRecDepth 100000 in
set_option maxHeartbeats 4000000 in
theorem tX5_part (r : Nat) {fx : Fx} {al : Bool} {M N : Mem} {a0 : Nat} {a1 : Int32} {a2 : Int32} {xr : Int32}  (h : fX5_part M a0 a1 a2 = some (xr, N)) : Ct fx yX5_part cX5_part 3 (some .int) (r + 0) 0 0 al [.ref a0, .int a1, .int a2] M (some (.int xr)) N := by
  refine ct_of (lv := [some (.ref a0), some (.int a1), some (.int a2)]) (by decide) (Nat.le_of_ble_eq_true rfl) rfl rfl (fun z hz => ?_)
  unfold fX5_part at h
  refine v_aload_n hz rfl rfl dX5_part_0 ?_
  obtain ⟨ck1, h⟩ := ck_inv h
  obtain ⟨ka1, kb1⟩ := isK_of ck1
  obtain ⟨b2, r2, h⟩ := rb_inv h
  refine v_getR hz fl_X5_15 rfl dX5_part_1 ka1 kb1 r2 ?_
  refine v_iload_n hz rfl rfl dX5_part_4 ?_
  refine v_iconst hz (v := (3 : Int32)) (by decide) dX5_part_5 ?_
  refine v_imul hz dX5_part_6 ?_
  refine v_iload_n hz rfl rfl dX5_part_7 ?_
  refine v_iadd hz dX5_part_8 ?_
  obtain ⟨ck3, h⟩ := ck_inv h
  obtain ⟨ka3, kb3⟩ := isK_of ck3
  obtain ⟨g4, h⟩ := ck_inv h
  refine v_iaload hz dX5_part_9 ka3 kb3 g4 ?_
  obtain ⟨rfl, rfl⟩ := sp_inv h
  exact v_iret hz dX5_part_10 (by decide) (by decide)
noncomputable def fX5_take (M : Mem) (a0 : Nat) (a1 : Nat) : Option (Unit × Mem) :=
  ck (isK M a1 5) <| ck (isK M a0 5) <| rb (mR (stI M a0 2 (mI M a1 2)) a1 1) fun b3 => rb (mR (stI M a0 2 (mI M a1 2)) a0 1) fun b4 => ck (isK M b4 14) <| ck (isK M b3 14) <| ck (cpok (0 : Int32) (0 : Int32) (Int32.ofNat (mG M b4)) (mG M b3) (mG M b4)) <| some ((), (cpI (stI M a0 2 (mI M a1 2)) b3 b4 (0 : Int32).toNatClampNeg (0 : Int32).toNatClampNeg (Int32.ofNat (mG M b4)).toNatClampNeg))
set_option maxRecDepth 100000 in
set_option maxHeartbeats 4000000 in
theorem tX5_take (r : Nat) {fx : Fx} {al : Bool} {M N : Mem} {a0 : Nat} {a1 : Nat}  (h : fX5_take M a0 a1 = some ((), N)) : Ct fx yX5_take cX5_take 2 none (r + 1) 0 0 al [.ref a0, .ref a1] M none N := by
  refine ct_of (lv := [some (.ref a0), some (.ref a1)]) (by decide) (Nat.le_of_ble_eq_true rfl) rfl rfl (fun z hz => ?_)
  unfold fX5_take at h
  refine v_aload_n hz rfl rfl dX5_take_0 ?_
  refine v_aload_n hz rfl rfl dX5_take_1 ?_
  obtain ⟨ck1, h⟩ := ck_inv h
  obtain ⟨ka1, kb1⟩ := isK_of ck1
  refine v_getI hz fl_X5_19 rfl dX5_take_2 ka1 kb1 ?_
  obtain ⟨ck2, h⟩ := ck_inv h
  obtain ⟨ka2, kb2⟩ := isK_of ck2
  refine v_putI hz fl_X5_19 ft_5_2 (by decide) rfl rfl rfl dX5_take_5 ka2 kb2 ?_
  refine v_aload_n hz rfl rfl dX5_take_8 ?_
  obtain ⟨b3, r3, h⟩ := rb_inv h
  refine v_getR hz fl_X5_15 rfl dX5_take_9 ka1 kb1 r3 ?_
  refine v_iconst hz (v := (0 : Int32)) (by decide) dX5_take_12 ?_
  refine v_aload_n hz rfl rfl dX5_take_13 ?_
  obtain ⟨b4, r4, h⟩ := rb_inv h
  refine v_getR hz fl_X5_15 rfl dX5_take_14 ka2 kb2 r4 ?_
  refine v_iconst hz (v := (0 : Int32)) (by decide) dX5_take_17 ?_
  refine v_aload_n hz rfl rfl dX5_take_18 ?_
  refine v_getR hz fl_X5_15 rfl dX5_take_19 ka2 kb2 r4 ?_
  obtain ⟨ck5, h⟩ := ck_inv h
  obtain ⟨ka5, kb5⟩ := isK_of ck5
  refine v_alen hz dX5_take_22 ka5 kb5 ?_
  obtain ⟨ck6, h⟩ := ck_inv h
  obtain ⟨ka6, kb6⟩ := isK_of ck6
  obtain ⟨g7, h⟩ := ck_inv h
  refine v_copyI hz cl_X5_22 (Or.inl rfl) rfl ka6 kb6 ka5 kb5 g7 (Nat.le_of_ble_eq_true rfl) dX5_take_23 ?_
  obtain ⟨-, rfl⟩ := sp_inv h
  exact v_vret hz dX5_take_26 (by decide) (by decide)
noncomputable def fX7_init (M : Mem) (a0 : Nat) : Option (Unit × Mem) :=
  nm (alc M 14 100) fun M1 => ck (isK M1 a0 7) <| some ((), (stI (stR M1 a0 0 (some (mN M))) a0 2 (95 : Int32)))
set_option maxRecDepth 100000 in
set_option maxHeartbeats 4000000 in
theorem tX7_init (r : Nat) {fx : Fx} {M N : Mem} {a0 : Nat}  (h : fX7_init M a0 = some ((), N)) : Ct fx yX7_init cX7_init 1 none (r + 1) 1 100 true [.ref a0] M none N := by
  refine ct_of (lv := [some (.ref a0)]) (by decide) (Nat.le_of_ble_eq_true rfl) rfl rfl (fun z hz => ?_)
  unfold fX7_init at h
  refine v_aload_n hz rfl rfl dX7_init_0 ?_
  refine v_objInit hz wq_102 wq_77 wq_78 rfl rfl dX7_init_1 ?_
  refine v_aload_n hz rfl rfl dX7_init_4 ?_
  refine v_bipush hz (v := (100 : Int32)) (by decide) dX7_init_5 ?_
  refine v_newI hz (t0 := 0) (c := 14) (N' := 100) wq_96 (by decide) (by decide) (by decide) (by decide) (by decide) (by decide) dX7_init_7 ?_
  obtain ⟨M1, eM1, h⟩ := nm_inv h
  refine v_mem eM1.symm ?_
  obtain ⟨ck2, h⟩ := ck_inv h
  obtain ⟨ka2, kb2⟩ := isK_of ck2
  refine v_putRF hz fl_X7_9 ft_7_0 rfl (by decide) rfl (fun _ => rfl) (fun _ => rfl) dX7_init_9 ka2 kb2 ?_
  refine v_aload_n hz rfl rfl dX7_init_12 ?_
  refine v_bipush hz (v := (95 : Int32)) (by decide) dX7_init_13 ?_
  refine v_putI hz fl_X7_15 ft_7_2 (by decide) rfl rfl rfl dX7_init_15 ka2 kb2 ?_
  obtain ⟨-, rfl⟩ := sp_inv h
  exact v_vret hz dX7_init_18 (by decide) (by decide)
noncomputable def fX7_goTo (M : Mem) (a0 : Nat) (a1 : Int32) : Option (Unit × Mem) :=
  ck (isK M a0 7) <| if a1 < 0 then (some ((), (stI (stI M a0 5 a1) a0 6 (-1 : Int32)))) else (if (mI (stI M a0 5 a1) a0 4) ≤ a1 then (some ((), (stI (stI M a0 5 a1) a0 6 (-1 : Int32)))) else (rb (mR (stI M a0 5 a1) a0 3) fun b2 => ck (isK (stI M a0 5 a1) b2 13) <| ck (inb a1 (mG (stI M a0 5 a1) b2)) <| some ((), (stI (stI M a0 5 a1) a0 6 (mI (stI M a0 5 a1) b2 a1.toNatClampNeg)))))
set_option maxRecDepth 100000 in
set_option maxHeartbeats 4000000 in
theorem tX7_goTo (r : Nat) {fx : Fx} {al : Bool} {M N : Mem} {a0 : Nat} {a1 : Int32}  (h : fX7_goTo M a0 a1 = some ((), N)) : Ct fx yX7_goTo cX7_goTo 2 none (r + 0) 0 0 al [.ref a0, .int a1] M none N := by
  refine ct_of (lv := [some (.ref a0), some (.int a1)]) (by decide) (Nat.le_of_ble_eq_true rfl) rfl rfl (fun z hz => ?_)
  unfold fX7_goTo at h
  refine v_aload_n hz rfl rfl dX7_goTo_0 ?_
  refine v_iload_n hz rfl rfl dX7_goTo_1 ?_
  obtain ⟨ck1, h⟩ := ck_inv h
  obtain ⟨ka1, kb1⟩ := isK_of ck1
  refine v_putI hz fl_X7_40 ft_7_5 (by decide) rfl rfl rfl dX7_goTo_2 ka1 kb1 ?_
  refine v_aload_n hz rfl rfl dX7_goTo_5 ?_
  refine v_iload_n hz rfl rfl dX7_goTo_6 ?_
  refine v_if_lt (tgt := 27) hz dX7_goTo_7 (by decide) (fun hc => ?_) (fun hc => ?_)
  · replace h := (if_pos hc).symm.trans h
    refine v_iconst hz (v := (-1 : Int32)) (by decide) dX7_goTo_27 ?_
    refine v_putI hz fl_X7_37 ft_7_6 (by decide) rfl rfl rfl dX7_goTo_28 ka1 kb1 ?_
    obtain ⟨-, rfl⟩ := sp_inv h
    exact v_vret hz dX7_goTo_31 (by decide) (by decide)
  · replace h := (if_neg hc).symm.trans h
    refine v_iload_n hz rfl rfl dX7_goTo_10 ?_
    refine v_aload_n hz rfl rfl dX7_goTo_11 ?_
    refine v_getI hz fl_X7_23 rfl dX7_goTo_12 ka1 kb1 ?_
    refine v_icmp_ge (tgt := 27) hz dX7_goTo_15 (by decide) (fun hc => ?_) (fun hc => ?_)
    · replace h := (if_pos hc).symm.trans h
      refine v_iconst hz (v := (-1 : Int32)) (by decide) dX7_goTo_27 ?_
      refine v_putI hz fl_X7_37 ft_7_6 (by decide) rfl rfl rfl dX7_goTo_28 ka1 kb1 ?_
      obtain ⟨-, rfl⟩ := sp_inv h
      exact v_vret hz dX7_goTo_31 (by decide) (by decide)
    · replace h := (if_neg hc).symm.trans h
      refine v_aload_n hz rfl rfl dX7_goTo_18 ?_
      obtain ⟨b2, r2, h⟩ := rb_inv h
      refine v_getR hz fl_X7_19 rfl dX7_goTo_19 ka1 kb1 r2 ?_
      refine v_iload_n hz rfl rfl dX7_goTo_22 ?_
      obtain ⟨ck3, h⟩ := ck_inv h
      obtain ⟨ka3, kb3⟩ := isK_of ck3
      obtain ⟨g4, h⟩ := ck_inv h
      refine v_baload hz dX7_goTo_23 ka3 kb3 g4 ?_
      refine v_goto (tgt := 28) hz dX7_goTo_24 (by decide) ?_
      refine v_putI hz fl_X7_37 ft_7_6 (by decide) rfl rfl rfl dX7_goTo_28 ka1 kb1 ?_
      obtain ⟨-, rfl⟩ := sp_inv h
      exact v_vret hz dX7_goTo_31 (by decide) (by decide)
noncomputable def fJ0_length_8abf5 (M : Mem) (a0 : Nat) : Option (Int32 × Mem) :=
  ck (isS a0) <| ck (isB (10 + a0)) <| ck (isS a0) <| some (((Int32.ofNat (xLen.getD ((10 + a0) - 10) 0)) >>> ((0 : Int32) &&& 31)), M)
set_option maxRecDepth 100000 in
set_option maxHeartbeats 4000000 in
theorem tJ0_length_8abf5 (r : Nat) {fx : Fx} {al : Bool} {M N : Mem} {a0 : Nat} {xr : Int32}  (h : fJ0_length_8abf5 M a0 = some (xr, N)) : Ct fx yJ0_length_8abf5 cJ0_length_8abf5 1 (some .int) (r + 1) 0 0 al [.retAddr a0] M (some (.int xr)) N := by
  refine ct_of (lv := [some (.retAddr a0)]) (by decide) (Nat.le_of_ble_eq_true rfl) rfl rfl (fun z hz => ?_)
  unfold fJ0_length_8abf5 at h
  refine v_xload_n hz rfl rfl dJ0_length_8abf5_0 ?_
  obtain ⟨g1, h⟩ := ck_inv h
  refine v_xval hz wq_1344 dJ0_length_8abf5_1 g1 ?_
  obtain ⟨g2, h⟩ := ck_inv h
  refine v_xlen hz dJ0_length_8abf5_4 g2 ?_
  refine v_xload_n hz rfl rfl dJ0_length_8abf5_5 ?_
  obtain ⟨g3, h⟩ := ck_inv h
  refine v_callVX hz (As := []) (rv1 := some (.int (0 : Int32))) vl_J0_335 (tJ0_coder (r + 0) (M := M) (N := M) (xr := (0 : Int32)) wq_461 wq_1345 (by unfold fJ0_coder; rw [g3]; rfl)) g3 rfl rfl rfl (Nat.le_of_ble_eq_true rfl) ⟨by decide, by decide⟩ dJ0_length_8abf5_6 ?_
  show V z 9 [some (.retAddr a0)] [.int (0 : Int32), .int (Int32.ofNat (xLen.getD ((10 + a0) - 10) 0))] M 0 0
  refine v_ishr hz dJ0_length_8abf5_9 ?_
  obtain ⟨rfl, rfl⟩ := sp_inv h
  exact v_iret hz dJ0_length_8abf5_10 (by decide) (by decide)
noncomputable def fJ1_charAt_3b067 (M : Mem) (a0 : Nat) (a1 : Int32) : Option (Int32 × Mem) :=
  ck (isB a0) <| bd (fJ0_checkIndex_df160 M a1 (Int32.ofNat (xLen.getD (a0 - 10) 0))) fun x2 M2 => ck (isB a0) <| ck (inb a1 (xLen.getD (a0 - 10) 0)) <| ck (okc (((((xByt.getD (a0 - 10) []).getD a1.toNatClampNeg 0) &&& (255 : Int32)).toUInt32 % 65536).toInt32)) <| some (((((xByt.getD (a0 - 10) []).getD a1.toNatClampNeg 0) &&& (255 : Int32)).toUInt32 % 65536).toInt32, M2)
set_option maxRecDepth 100000 in
set_option maxHeartbeats 4000000 in
theorem tJ1_charAt_3b067 (r : Nat) {fx : Fx} {al : Bool} {M N : Mem} {a0 : Nat} {a1 : Int32} {xr : Int32}  (h : fJ1_charAt_3b067 M a0 a1 = some (xr, N)) : Ct fx yJ1_charAt_3b067 cJ1_charAt_3b067 2 (some .char) (r + 3) 0 0 al [.retAddr a0, .int a1] M (some (.int xr)) N := by
  refine ct_of (lv := [some (.retAddr a0), some (.int a1)]) (by decide) (Nat.le_of_ble_eq_true rfl) rfl rfl (fun z hz => ?_)
  unfold fJ1_charAt_3b067 at h
  refine v_iload_n hz rfl rfl dJ1_charAt_3b067_0 ?_
  refine v_xload_n hz rfl rfl dJ1_charAt_3b067_1 ?_
  obtain ⟨g1, h⟩ := ck_inv h
  refine v_xlen hz dJ1_charAt_3b067_2 g1 ?_
  obtain ⟨x2, M2, e2, h⟩ := bd_inv h
  refine v_callSX hz (As := [.int a1, .int (Int32.ofNat (xLen.getD (a0 - 10) 0))]) sx_J1_9 (tJ0_checkIndex_df160 (r + 0) e2) rfl rfl rfl (Nat.le_of_ble_eq_true rfl) ⟨by decide, by decide⟩ dJ1_charAt_3b067_3 ?_
  show V z 6 [some (.retAddr a0), some (.int a1)] [] M2 0 0
  refine v_xload_n hz rfl rfl dJ1_charAt_3b067_6 ?_
  refine v_iload_n hz rfl rfl dJ1_charAt_3b067_7 ?_
  obtain ⟨g3, h⟩ := ck_inv h
  obtain ⟨g4, h⟩ := ck_inv h
  refine v_xbaload hz dJ1_charAt_3b067_8 g3 g4 ?_
  refine v_sipush hz (v := (255 : Int32)) (by decide) dJ1_charAt_3b067_9 ?_
  refine v_iand hz dJ1_charAt_3b067_12 ?_
  refine v_i2c hz dJ1_charAt_3b067_13 ?_
  obtain ⟨g5, h⟩ := ck_inv h
  obtain ⟨rfl, rfl⟩ := sp_inv h
  exact v_cret hz g5 dJ1_charAt_3b067_14 (by decide) (by decide)
noncomputable def fJ0_charAt_5068e (M : Mem) (a0 : Nat) (a1 : Int32) : Option (Int32 × Mem) :=
  ck (isS a0) <| ck (isS a0) <| bd (fJ1_charAt_3b067 M (10 + a0) a1) fun x3 M3 => ck (okc x3) <| some (x3, M3)
set_option maxRecDepth 100000 in
set_option maxHeartbeats 4000000 in
theorem tJ0_charAt_5068e (r : Nat) {fx : Fx} {al : Bool} {M N : Mem} {a0 : Nat} {a1 : Int32} {xr : Int32}  (h : fJ0_charAt_5068e M a0 a1 = some (xr, N)) : Ct fx yJ0_charAt_5068e cJ0_charAt_5068e 2 (some .char) (r + 4) 0 0 al [.retAddr a0, .int a1] M (some (.int xr)) N := by
  refine ct_of (lv := [some (.retAddr a0), some (.int a1)]) (by decide) (Nat.le_of_ble_eq_true rfl) rfl rfl (fun z hz => ?_)
  unfold fJ0_charAt_5068e at h
  refine v_xload_n hz rfl rfl dJ0_charAt_5068e_0 ?_
  obtain ⟨g1, h⟩ := ck_inv h
  refine v_callVX hz (As := []) (rv1 := some (.int (1 : Int32))) vl_J0_492 (tJ0_isLatin1 (r + 3) (M := M) (N := M) (xr := (1 : Int32)) wq_461 wq_1345 (by unfold fJ0_isLatin1; rw [g1]; rfl)) g1 rfl rfl rfl (Nat.le_of_ble_eq_true rfl) ⟨by decide, by decide⟩ dJ0_charAt_5068e_1 ?_
  show V z 4 [some (.retAddr a0), some (.int a1)] [.int (1 : Int32)] M 0 0
  refine v_if_eq (tgt := 16) hz dJ0_charAt_5068e_4 (by decide) (fun hc => absurd hc (by decide)) (fun _ => ?_)
  refine v_xload_n hz rfl rfl dJ0_charAt_5068e_7 ?_
  obtain ⟨g2, h⟩ := ck_inv h
  refine v_xval hz wq_1344 dJ0_charAt_5068e_8 g2 ?_
  refine v_iload_n hz rfl rfl dJ0_charAt_5068e_11 ?_
  obtain ⟨x3, M3, e3, h⟩ := bd_inv h
  refine v_callSX hz (As := [.retAddr (10 + a0), .int a1]) sx_J0_495 (tJ1_charAt_3b067 (r + 0) e3) rfl rfl rfl (Nat.le_of_ble_eq_true rfl) ⟨by decide, by decide⟩ dJ0_charAt_5068e_12 ?_
  show V z 15 [some (.retAddr a0), some (.int a1)] [.int x3] M3 0 0
  obtain ⟨g4, h⟩ := ck_inv h
  obtain ⟨rfl, rfl⟩ := sp_inv h
  exact v_cret hz g4 dJ0_charAt_5068e_15 (by decide) (by decide)
noncomputable def gX7_readWord_2  : Nat → Mem → Nat → Nat → Int32 → Option (Int32 × Mem)
  | 0, _, _, _, _ => none
  | n + 1, M, l0, l1, l2 => ck (isS l1) <| bd (fJ0_length_8abf5 M l1) fun x2 M2 => if x2 ≤ l2 then (some ((1 : Int32), M2)) else (ck (isK M2 l0 7) <| ck (isS l1) <| bd (fJ0_charAt_5068e M2 l1 l2) fun x5 M5 => if (mI M2 l0 6) = x5 then (ck (isK M5 l0 7) <| bd (fX7_goTo M5 l0 ((mI M5 l0 5) + (1 : Int32))) fun x7 M7 => (gX7_readWord_2 n) M7 l0 l1 (l2 + (1 : Int32))) else (some ((0 : Int32), M5)))
noncomputable def fX7_readWord (M : Mem) (a0 : Nat) (a1 : Nat) : Option (Int32 × Mem) :=
  gX7_readWord_2 FU M a0 a1 (0 : Int32)
set_option maxRecDepth 100000 in
set_option maxHeartbeats 4000000 in
theorem gX7_readWord_2_s  (n : Nat) (M : Mem) (l0 : Nat) (l1 : Nat) (l2 : Int32) : gX7_readWord_2  (n + 1) M l0 l1 l2 = (ck (isS l1) <| bd (fJ0_length_8abf5 M l1) fun x2 M2 => if x2 ≤ l2 then (some ((1 : Int32), M2)) else (ck (isK M2 l0 7) <| ck (isS l1) <| bd (fJ0_charAt_5068e M2 l1 l2) fun x5 M5 => if (mI M2 l0 6) = x5 then (ck (isK M5 l0 7) <| bd (fX7_goTo M5 l0 ((mI M5 l0 5) + (1 : Int32))) fun x7 M7 => (gX7_readWord_2 n) M7 l0 l1 (l2 + (1 : Int32))) else (some ((0 : Int32), M5)))) := rfl
set_option maxRecDepth 100000 in
set_option maxHeartbeats 4000000 in
theorem wX7_readWord_2 {z : Zx} {fx : Fx} {al : Bool} {r : Nat} {N : Mem} {xr : Int32} (hz : Zok z fx al yX7_readWord.cls yX7_readWord.name cX7_readWord (some .boolean) 3 (r + 5) 0 0 (some (.int xr)) N)    : ∀ {n : Nat} {M : Mem} {l0 : Nat} {l1 : Nat} {l2 : Int32}, gX7_readWord_2  n M l0 l1 l2 = some (xr, N) → V z 2 [some (.ref l0), some (.retAddr l1), some (.int l2)] [] M 0 0 := by
  intro n
  induction n with
  | zero => intro M l0 l1 l2 h; cases h
  | succ n ih =>
    intro M l0 l1 l2 h
    replace h := (gX7_readWord_2_s  n M l0 l1 l2).symm.trans h
    refine v_iload_n hz rfl rfl dX7_readWord_2 ?_
    refine v_xload_n hz rfl rfl dX7_readWord_3 ?_
    obtain ⟨g1, h⟩ := ck_inv h
    obtain ⟨x2, M2, e2, h⟩ := bd_inv h
    refine v_callVX hz (As := []) vl_X7_43 (tJ0_length_8abf5 (r + 3) e2) g1 rfl rfl rfl (Nat.le_of_ble_eq_true rfl) ⟨by decide, by decide⟩ dX7_readWord_4 ?_
    show V z 7 [some (.ref l0), some (.retAddr l1), some (.int l2)] [.int x2, .int l2] M2 0 0
    refine v_icmp_ge (tgt := 40) hz dX7_readWord_7 (by decide) (fun hc => ?_) (fun hc => ?_)
    · replace h := (if_pos hc).symm.trans h
      refine v_iconst hz (v := (1 : Int32)) (by decide) dX7_readWord_40 ?_
      obtain ⟨rfl, rfl⟩ := sp_inv h
      exact v_zret hz (Or.inr rfl) dX7_readWord_41 (by decide) (by decide)
    · replace h := (if_neg hc).symm.trans h
      refine v_aload_n hz rfl rfl dX7_readWord_10 ?_
      obtain ⟨ck3, h⟩ := ck_inv h
      obtain ⟨ka3, kb3⟩ := isK_of ck3
      refine v_getI hz fl_X7_37 rfl dX7_readWord_11 ka3 kb3 ?_
      refine v_xload_n hz rfl rfl dX7_readWord_14 ?_
      refine v_iload_n hz rfl rfl dX7_readWord_15 ?_
      obtain ⟨g4, h⟩ := ck_inv h
      obtain ⟨x5, M5, e5, h⟩ := bd_inv h
      refine v_callVX hz (As := [.int l2]) vl_X7_48 (tJ0_charAt_5068e (r + 0) e5) g4 rfl rfl rfl (Nat.le_of_ble_eq_true rfl) ⟨by decide, by decide⟩ dX7_readWord_16 ?_
      show V z 19 [some (.ref l0), some (.retAddr l1), some (.int l2)] [.int x5, .int (mI M2 l0 6)] M5 0 0
      refine v_icmp_eq (tgt := 24) hz dX7_readWord_19 (by decide) (fun hc => ?_) (fun hc => ?_)
      · replace h := (if_pos hc).symm.trans h
        refine v_aload_n hz rfl rfl dX7_readWord_24 ?_
        refine v_aload_n hz rfl rfl dX7_readWord_25 ?_
        obtain ⟨ck6, h⟩ := ck_inv h
        obtain ⟨ka6, kb6⟩ := isK_of ck6
        refine v_getI hz fl_X7_40 rfl dX7_readWord_26 ka6 kb6 ?_
        refine v_iconst hz (v := (1 : Int32)) (by decide) dX7_readWord_29 ?_
        refine v_iadd hz dX7_readWord_30 ?_
        obtain ⟨x7, M7, e7, h⟩ := bd_inv h
        refine v_callV hz (As := [.int ((mI M5 l0 5) + (1 : Int32))]) vl_X7_29 (tX7_goTo (r + 4) e7) rfl (by decide) ka6 kb6 rfl rfl rfl (Nat.le_of_ble_eq_true rfl) ⟨by decide, by decide⟩ dX7_readWord_31 ?_
        show V z 34 [some (.ref l0), some (.retAddr l1), some (.int l2)] [] M7 0 0
        refine v_iinc hz (v := (l2 + (1 : Int32))) (lw := [some (.ref l0), some (.retAddr l1), some (.int (l2 + (1 : Int32)))]) rfl (congrArg (fun q => l2 + q) (show Int32.ofInt (1) = (1 : Int32) by decide)) rfl rfl dX7_readWord_34 ?_
        refine v_goto (tgt := 2) hz dX7_readWord_37 (by decide) ?_
        exact v_weak (lvle_s (lvle_s (lvle_s lvle_0))) (ih h)
      · replace h := (if_neg hc).symm.trans h
        refine v_iconst hz (v := (0 : Int32)) (by decide) dX7_readWord_22 ?_
        obtain ⟨rfl, rfl⟩ := sp_inv h
        exact v_zret hz (Or.inl rfl) dX7_readWord_23 (by decide) (by decide)
set_option maxRecDepth 100000 in
set_option maxHeartbeats 4000000 in
theorem tX7_readWord (r : Nat) {fx : Fx} {al : Bool} {M N : Mem} {a0 : Nat} {a1 : Nat} {xr : Int32}  (h : fX7_readWord M a0 a1 = some (xr, N)) : Ct fx yX7_readWord cX7_readWord 3 (some .boolean) (r + 5) 0 0 al [.ref a0, .retAddr a1] M (some (.int xr)) N := by
  refine ct_of (lv := [some (.ref a0), some (.retAddr a1), none]) (by decide) (Nat.le_of_ble_eq_true rfl) rfl rfl (fun z hz => ?_)
  unfold fX7_readWord at h
  refine v_iconst hz (v := (0 : Int32)) (by decide) dX7_readWord_0 ?_
  refine v_istore_n hz (lw := [some (.ref a0), some (.retAddr a1), some (.int (0 : Int32))]) rfl (Nat.le_of_ble_eq_true rfl) rfl rfl dX7_readWord_1 ?_
  exact v_weak (lvle_s (lvle_s (lvle_s lvle_0))) (wX7_readWord_2 hz   h)
noncomputable def fX7_readNumber (M : Mem) (a0 : Nat) : Option (Int32 × Mem) :=
  ck (isK M a0 7) <| if (mI M a0 6) < (48 : Int32) then (some ((-1 : Int32), M)) else (if (mI M a0 6) ≤ (57 : Int32) then (bd (fX7_goTo M a0 ((mI M a0 5) + (1 : Int32))) fun x2 M2 => ck (isK M2 a0 7) <| if (mI M2 a0 6) < (48 : Int32) then (some (((mI M a0 6) - (48 : Int32)), M2)) else (if (57 : Int32) < (mI M2 a0 6) then (some (((mI M a0 6) - (48 : Int32)), M2)) else (bd (fX7_goTo M2 a0 ((mI M2 a0 5) + (1 : Int32))) fun x4 M4 => some ((((((mI M a0 6) - (48 : Int32)) * (10 : Int32)) + (mI M2 a0 6)) - (48 : Int32)), M4)))) else (some ((-1 : Int32), M)))
set_option maxRecDepth 100000 in
set_option maxHeartbeats 4000000 in
theorem tX7_readNumber (r : Nat) {fx : Fx} {al : Bool} {M N : Mem} {a0 : Nat} {xr : Int32}  (h : fX7_readNumber M a0 = some (xr, N)) : Ct fx yX7_readNumber cX7_readNumber 2 (some .int) (r + 1) 0 0 al [.ref a0] M (some (.int xr)) N := by
  refine ct_of (lv := [some (.ref a0), none]) (by decide) (Nat.le_of_ble_eq_true rfl) rfl rfl (fun z hz => ?_)
  unfold fX7_readNumber at h
  refine v_aload_n hz rfl rfl dX7_readNumber_0 ?_
  obtain ⟨ck1, h⟩ := ck_inv h
  obtain ⟨ka1, kb1⟩ := isK_of ck1
  refine v_getI hz fl_X7_37 rfl dX7_readNumber_1 ka1 kb1 ?_
  refine v_bipush hz (v := (48 : Int32)) (by decide) dX7_readNumber_4 ?_
  refine v_icmp_lt (tgt := 18) hz dX7_readNumber_6 (by decide) (fun hc => ?_) (fun hc => ?_)
  · replace h := (if_pos hc).symm.trans h
    refine v_iconst hz (v := (-1 : Int32)) (by decide) dX7_readNumber_18 ?_
    obtain ⟨rfl, rfl⟩ := sp_inv h
    exact v_iret hz dX7_readNumber_19 (by decide) (by decide)
  · replace h := (if_neg hc).symm.trans h
    refine v_aload_n hz rfl rfl dX7_readNumber_9 ?_
    refine v_getI hz fl_X7_37 rfl dX7_readNumber_10 ka1 kb1 ?_
    refine v_bipush hz (v := (57 : Int32)) (by decide) dX7_readNumber_13 ?_
    refine v_icmp_le (tgt := 20) hz dX7_readNumber_15 (by decide) (fun hc => ?_) (fun hc => ?_)
    · replace h := (if_pos hc).symm.trans h
      refine v_aload_n hz rfl rfl dX7_readNumber_20 ?_
      refine v_getI hz fl_X7_37 rfl dX7_readNumber_21 ka1 kb1 ?_
      refine v_bipush hz (v := (48 : Int32)) (by decide) dX7_readNumber_24 ?_
      refine v_isub hz dX7_readNumber_26 ?_
      refine v_istore_n hz (lw := [some (.ref a0), some (.int ((mI M a0 6) - (48 : Int32)))]) rfl (Nat.le_of_ble_eq_true rfl) rfl rfl dX7_readNumber_27 ?_
      refine v_aload_n hz rfl rfl dX7_readNumber_28 ?_
      refine v_aload_n hz rfl rfl dX7_readNumber_29 ?_
      refine v_getI hz fl_X7_40 rfl dX7_readNumber_30 ka1 kb1 ?_
      refine v_iconst hz (v := (1 : Int32)) (by decide) dX7_readNumber_33 ?_
      refine v_iadd hz dX7_readNumber_34 ?_
      obtain ⟨x2, M2, e2, h⟩ := bd_inv h
      refine v_callV hz (As := [.int ((mI M a0 5) + (1 : Int32))]) vl_X7_29 (tX7_goTo (r + 0) e2) rfl (by decide) ka1 kb1 rfl rfl rfl (Nat.le_of_ble_eq_true rfl) ⟨by decide, by decide⟩ dX7_readNumber_35 ?_
      show V z 38 [some (.ref a0), some (.int ((mI M a0 6) - (48 : Int32)))] [] M2 0 0
      refine v_aload_n hz rfl rfl dX7_readNumber_38 ?_
      obtain ⟨ck3, h⟩ := ck_inv h
      obtain ⟨ka3, kb3⟩ := isK_of ck3
      refine v_getI hz fl_X7_37 rfl dX7_readNumber_39 ka3 kb3 ?_
      refine v_bipush hz (v := (48 : Int32)) (by decide) dX7_readNumber_42 ?_
      refine v_icmp_lt (tgt := 79) hz dX7_readNumber_44 (by decide) (fun hc => ?_) (fun hc => ?_)
      · replace h := (if_pos hc).symm.trans h
        refine v_iload_n hz rfl rfl dX7_readNumber_79 ?_
        obtain ⟨rfl, rfl⟩ := sp_inv h
        exact v_iret hz dX7_readNumber_80 (by decide) (by decide)
      · replace h := (if_neg hc).symm.trans h
        refine v_aload_n hz rfl rfl dX7_readNumber_47 ?_
        refine v_getI hz fl_X7_37 rfl dX7_readNumber_48 ka3 kb3 ?_
        refine v_bipush hz (v := (57 : Int32)) (by decide) dX7_readNumber_51 ?_
        refine v_icmp_gt (tgt := 79) hz dX7_readNumber_53 (by decide) (fun hc => ?_) (fun hc => ?_)
        · replace h := (if_pos hc).symm.trans h
          refine v_iload_n hz rfl rfl dX7_readNumber_79 ?_
          obtain ⟨rfl, rfl⟩ := sp_inv h
          exact v_iret hz dX7_readNumber_80 (by decide) (by decide)
        · replace h := (if_neg hc).symm.trans h
          refine v_iload_n hz rfl rfl dX7_readNumber_56 ?_
          refine v_bipush hz (v := (10 : Int32)) (by decide) dX7_readNumber_57 ?_
          refine v_imul hz dX7_readNumber_59 ?_
          refine v_aload_n hz rfl rfl dX7_readNumber_60 ?_
          refine v_getI hz fl_X7_37 rfl dX7_readNumber_61 ka3 kb3 ?_
          refine v_iadd hz dX7_readNumber_64 ?_
          refine v_bipush hz (v := (48 : Int32)) (by decide) dX7_readNumber_65 ?_
          refine v_isub hz dX7_readNumber_67 ?_
          refine v_istore_n hz (lw := [some (.ref a0), some (.int (((((mI M a0 6) - (48 : Int32)) * (10 : Int32)) + (mI M2 a0 6)) - (48 : Int32)))]) rfl (Nat.le_of_ble_eq_true rfl) rfl rfl dX7_readNumber_68 ?_
          refine v_aload_n hz rfl rfl dX7_readNumber_69 ?_
          refine v_aload_n hz rfl rfl dX7_readNumber_70 ?_
          refine v_getI hz fl_X7_40 rfl dX7_readNumber_71 ka3 kb3 ?_
          refine v_iconst hz (v := (1 : Int32)) (by decide) dX7_readNumber_74 ?_
          refine v_iadd hz dX7_readNumber_75 ?_
          obtain ⟨x4, M4, e4, h⟩ := bd_inv h
          refine v_callV hz (As := [.int ((mI M2 a0 5) + (1 : Int32))]) vl_X7_29 (tX7_goTo (r + 0) e4) rfl (by decide) ka3 kb3 rfl rfl rfl (Nat.le_of_ble_eq_true rfl) ⟨by decide, by decide⟩ dX7_readNumber_76 ?_
          show V z 79 [some (.ref a0), some (.int (((((mI M a0 6) - (48 : Int32)) * (10 : Int32)) + (mI M2 a0 6)) - (48 : Int32)))] [] M4 0 0
          refine v_iload_n hz rfl rfl dX7_readNumber_79 ?_
          obtain ⟨rfl, rfl⟩ := sp_inv h
          exact v_iret hz dX7_readNumber_80 (by decide) (by decide)
    · replace h := (if_neg hc).symm.trans h
      refine v_iconst hz (v := (-1 : Int32)) (by decide) dX7_readNumber_18 ?_
      obtain ⟨rfl, rfl⟩ := sp_inv h
      exact v_iret hz dX7_readNumber_19 (by decide) (by decide)
noncomputable def fX7_addStep (M : Mem) (a0 : Nat) (a1 : Int32) (a2 : Int32) : Option (Unit × Mem) :=
  ck (isK M a0 7) <| if (100 : Int32) ≤ (mI M a0 1) then (some ((), M)) else (rb (mR M a0 0) fun b2 => ck (isK M b2 14) <| ck (inb (mI M a0 1) (mG M b2)) <| nm (stI (stI M b2 (mI M a0 1).toNatClampNeg ((a1 <<< ((12 : Int32) &&& 31)) ||| a2)) a0 1 ((mI (stI M b2 (mI M a0 1).toNatClampNeg ((a1 <<< ((12 : Int32) &&& 31)) ||| a2)) a0 1) + (1 : Int32))) fun M5 => some ((), M5))
set_option maxRecDepth 100000 in
set_option maxHeartbeats 4000000 in
theorem tX7_addStep (r : Nat) {fx : Fx} {al : Bool} {M N : Mem} {a0 : Nat} {a1 : Int32} {a2 : Int32}  (h : fX7_addStep M a0 a1 a2 = some ((), N)) : Ct fx yX7_addStep cX7_addStep 3 none (r + 0) 0 0 al [.ref a0, .int a1, .int a2] M none N := by
  refine ct_of (lv := [some (.ref a0), some (.int a1), some (.int a2)]) (by decide) (Nat.le_of_ble_eq_true rfl) rfl rfl (fun z hz => ?_)
  unfold fX7_addStep at h
  refine v_aload_n hz rfl rfl dX7_addStep_0 ?_
  obtain ⟨ck1, h⟩ := ck_inv h
  obtain ⟨ka1, kb1⟩ := isK_of ck1
  refine v_getI hz fl_X7_26 rfl dX7_addStep_1 ka1 kb1 ?_
  refine v_bipush hz (v := (100 : Int32)) (by decide) dX7_addStep_4 ?_
  refine v_icmp_ge (tgt := 34) hz dX7_addStep_6 (by decide) (fun hc => ?_) (fun hc => ?_)
  · replace h := (if_pos hc).symm.trans h
    obtain ⟨-, rfl⟩ := sp_inv h
    exact v_vret hz dX7_addStep_34 (by decide) (by decide)
  · replace h := (if_neg hc).symm.trans h
    refine v_aload_n hz rfl rfl dX7_addStep_9 ?_
    obtain ⟨b2, r2, h⟩ := rb_inv h
    refine v_getR hz fl_X7_9 rfl dX7_addStep_10 ka1 kb1 r2 ?_
    refine v_aload_n hz rfl rfl dX7_addStep_13 ?_
    refine v_getI hz fl_X7_26 rfl dX7_addStep_14 ka1 kb1 ?_
    refine v_iload_n hz rfl rfl dX7_addStep_17 ?_
    refine v_bipush hz (v := (12 : Int32)) (by decide) dX7_addStep_18 ?_
    refine v_ishl hz dX7_addStep_20 ?_
    refine v_iload_n hz rfl rfl dX7_addStep_21 ?_
    refine v_ior hz dX7_addStep_22 ?_
    obtain ⟨ck3, h⟩ := ck_inv h
    obtain ⟨ka3, kb3⟩ := isK_of ck3
    obtain ⟨g4, h⟩ := ck_inv h
    refine v_iastore hz dX7_addStep_23 ka3 kb3 g4 ?_
    refine v_aload_n hz rfl rfl dX7_addStep_24 ?_
    refine v_dup hz rfl dX7_addStep_25 ?_
    refine v_getI hz fl_X7_26 rfl dX7_addStep_26 ka1 kb1 ?_
    refine v_iconst hz (v := (1 : Int32)) (by decide) dX7_addStep_29 ?_
    refine v_iadd hz dX7_addStep_30 ?_
    refine v_putI hz fl_X7_26 ft_7_1 (by decide) rfl rfl rfl dX7_addStep_31 ka1 kb1 ?_
    obtain ⟨M5, eM5, h⟩ := nm_inv h
    refine v_mem eM5.symm ?_
    obtain ⟨-, rfl⟩ := sp_inv h
    exact v_vret hz dX7_addStep_34 (by decide) (by decide)
noncomputable def fJ1_canEncode_9a6ad (M : Mem) (a0 : Int32) : Option (Int32 × Mem) :=
  if a0 < 0 then (some ((0 : Int32), M)) else (if (255 : Int32) < a0 then (some ((0 : Int32), M)) else (some ((1 : Int32), M)))
set_option maxRecDepth 100000 in
set_option maxHeartbeats 4000000 in
theorem tJ1_canEncode_9a6ad (r : Nat) {fx : Fx} {al : Bool} {M N : Mem} {a0 : Int32} {xr : Int32}  (h : fJ1_canEncode_9a6ad M a0 = some (xr, N)) : Ct fx yJ1_canEncode_9a6ad cJ1_canEncode_9a6ad 1 (some .boolean) (r + 0) 0 0 al [.int a0] M (some (.int xr)) N := by
  refine ct_of (lv := [some (.int a0)]) (by decide) (Nat.le_of_ble_eq_true rfl) rfl rfl (fun z hz => ?_)
  unfold fJ1_canEncode_9a6ad at h
  refine v_iload_n hz rfl rfl dJ1_canEncode_9a6ad_0 ?_
  refine v_if_lt (tgt := 15) hz dJ1_canEncode_9a6ad_1 (by decide) (fun hc => ?_) (fun hc => ?_)
  · replace h := (if_pos hc).symm.trans h
    refine v_iconst hz (v := (0 : Int32)) (by decide) dJ1_canEncode_9a6ad_15 ?_
    obtain ⟨rfl, rfl⟩ := sp_inv h
    exact v_zret hz (Or.inl rfl) dJ1_canEncode_9a6ad_16 (by decide) (by decide)
  · replace h := (if_neg hc).symm.trans h
    refine v_iload_n hz rfl rfl dJ1_canEncode_9a6ad_4 ?_
    refine v_sipush hz (v := (255 : Int32)) (by decide) dJ1_canEncode_9a6ad_5 ?_
    refine v_icmp_gt (tgt := 15) hz dJ1_canEncode_9a6ad_8 (by decide) (fun hc => ?_) (fun hc => ?_)
    · replace h := (if_pos hc).symm.trans h
      refine v_iconst hz (v := (0 : Int32)) (by decide) dJ1_canEncode_9a6ad_15 ?_
      obtain ⟨rfl, rfl⟩ := sp_inv h
      exact v_zret hz (Or.inl rfl) dJ1_canEncode_9a6ad_16 (by decide) (by decide)
    · replace h := (if_neg hc).symm.trans h
      refine v_iconst hz (v := (1 : Int32)) (by decide) dJ1_canEncode_9a6ad_11 ?_
      refine v_goto (tgt := 16) hz dJ1_canEncode_9a6ad_12 (by decide) ?_
      obtain ⟨rfl, rfl⟩ := sp_inv h
      exact v_zret hz (Or.inr rfl) dJ1_canEncode_9a6ad_16 (by decide) (by decide)
noncomputable def gJ1_indexOfChar_4cfef_7  : Nat → Mem → Nat → Int32 → Int32 → Int32 → Option (Int32 × Mem)
  | 0, _, _, _, _, _ => none
  | n + 1, M, l0, l3, l4, l5 => if l3 ≤ l5 then (some ((-1 : Int32), M)) else (ck (isB l0) <| ck (inb l5 (xLen.getD (l0 - 10) 0)) <| if ((xByt.getD (l0 - 10) []).getD l5.toNatClampNeg 0) = l4 then (some (l5, M)) else ((gJ1_indexOfChar_4cfef_7 n) M l0 l3 l4 (l5 + (1 : Int32))))
noncomputable def fJ1_indexOfChar_4cfef (M : Mem) (a0 : Nat) (a1 : Int32) (a2 : Int32) (a3 : Int32) : Option (Int32 × Mem) :=
  gJ1_indexOfChar_4cfef_7 FU M a0 a3 a1.toInt8.toInt32 a2
set_option maxRecDepth 100000 in
set_option maxHeartbeats 4000000 in
theorem gJ1_indexOfChar_4cfef_7_s  (n : Nat) (M : Mem) (l0 : Nat) (l3 : Int32) (l4 : Int32) (l5 : Int32) : gJ1_indexOfChar_4cfef_7  (n + 1) M l0 l3 l4 l5 = (if l3 ≤ l5 then (some ((-1 : Int32), M)) else (ck (isB l0) <| ck (inb l5 (xLen.getD (l0 - 10) 0)) <| if ((xByt.getD (l0 - 10) []).getD l5.toNatClampNeg 0) = l4 then (some (l5, M)) else ((gJ1_indexOfChar_4cfef_7 n) M l0 l3 l4 (l5 + (1 : Int32))))) := rfl
set_option maxRecDepth 100000 in
set_option maxHeartbeats 4000000 in
theorem wJ1_indexOfChar_4cfef_7 {z : Zx} {fx : Fx} {al : Bool} {r : Nat} {N : Mem} {xr : Int32} (hz : Zok z fx al yJ1_indexOfChar_4cfef.cls yJ1_indexOfChar_4cfef.name cJ1_indexOfChar_4cfef (some .int) 6 (r + 0) 0 0 (some (.int xr)) N)    : ∀ {n : Nat} {M : Mem} {l0 : Nat} {l3 : Int32} {l4 : Int32} {l5 : Int32}, gJ1_indexOfChar_4cfef_7  n M l0 l3 l4 l5 = some (xr, N) → V z 7 [some (.retAddr l0), none, none, some (.int l3), some (.int l4), some (.int l5)] [] M 0 0 := by
  intro n
  induction n with
  | zero => intro M l0 l3 l4 l5 h; cases h
  | succ n ih =>
    intro M l0 l3 l4 l5 h
    replace h := (gJ1_indexOfChar_4cfef_7_s  n M l0 l3 l4 l5).symm.trans h
    refine v_iload hz rfl dJ1_indexOfChar_4cfef_7 ?_
    refine v_iload_n hz rfl rfl dJ1_indexOfChar_4cfef_9 ?_
    refine v_icmp_ge (tgt := 31) hz dJ1_indexOfChar_4cfef_10 (by decide) (fun hc => ?_) (fun hc => ?_)
    · replace h := (if_pos hc).symm.trans h
      refine v_iconst hz (v := (-1 : Int32)) (by decide) dJ1_indexOfChar_4cfef_31 ?_
      obtain ⟨rfl, rfl⟩ := sp_inv h
      exact v_iret hz dJ1_indexOfChar_4cfef_32 (by decide) (by decide)
    · replace h := (if_neg hc).symm.trans h
      refine v_xload_n hz rfl rfl dJ1_indexOfChar_4cfef_13 ?_
      refine v_iload hz rfl dJ1_indexOfChar_4cfef_14 ?_
      obtain ⟨g1, h⟩ := ck_inv h
      obtain ⟨g2, h⟩ := ck_inv h
      refine v_xbaload hz dJ1_indexOfChar_4cfef_16 g1 g2 ?_
      refine v_iload hz rfl dJ1_indexOfChar_4cfef_17 ?_
      refine v_icmp_ne (tgt := 25) hz dJ1_indexOfChar_4cfef_19 (by decide) (fun hc => ?_) (fun hc => ?_)
      · replace h := (if_neg hc).symm.trans h
        refine v_iinc hz (v := (l5 + (1 : Int32))) (lw := [some (.retAddr l0), none, none, some (.int l3), some (.int l4), some (.int (l5 + (1 : Int32)))]) rfl (congrArg (fun q => l5 + q) (show Int32.ofInt (1) = (1 : Int32) by decide)) rfl rfl dJ1_indexOfChar_4cfef_25 ?_
        refine v_goto (tgt := 7) hz dJ1_indexOfChar_4cfef_28 (by decide) ?_
        exact v_weak (lvle_s (lvle_n (lvle_n (lvle_s (lvle_s (lvle_s lvle_0)))))) (ih h)
      · replace h := (if_pos hc).symm.trans h
        refine v_iload hz rfl dJ1_indexOfChar_4cfef_22 ?_
        obtain ⟨rfl, rfl⟩ := sp_inv h
        exact v_iret hz dJ1_indexOfChar_4cfef_24 (by decide) (by decide)
set_option maxRecDepth 100000 in
set_option maxHeartbeats 4000000 in
theorem tJ1_indexOfChar_4cfef (r : Nat) {fx : Fx} {al : Bool} {M N : Mem} {a0 : Nat} {a1 : Int32} {a2 : Int32} {a3 : Int32} {xr : Int32}  (h : fJ1_indexOfChar_4cfef M a0 a1 a2 a3 = some (xr, N)) : Ct fx yJ1_indexOfChar_4cfef cJ1_indexOfChar_4cfef 6 (some .int) (r + 0) 0 0 al [.retAddr a0, .int a1, .int a2, .int a3] M (some (.int xr)) N := by
  refine ct_of (lv := [some (.retAddr a0), some (.int a1), some (.int a2), some (.int a3), none, none]) (by decide) (Nat.le_of_ble_eq_true rfl) rfl rfl (fun z hz => ?_)
  unfold fJ1_indexOfChar_4cfef at h
  refine v_iload_n hz rfl rfl dJ1_indexOfChar_4cfef_0 ?_
  refine v_i2b hz dJ1_indexOfChar_4cfef_1 ?_
  refine v_istore hz (lw := [some (.retAddr a0), some (.int a1), some (.int a2), some (.int a3), some (.int a1.toInt8.toInt32), none]) (Nat.le_of_ble_eq_true rfl) rfl rfl dJ1_indexOfChar_4cfef_2 ?_
  refine v_iload_n hz rfl rfl dJ1_indexOfChar_4cfef_4 ?_
  refine v_istore hz (lw := [some (.retAddr a0), some (.int a1), some (.int a2), some (.int a3), some (.int a1.toInt8.toInt32), some (.int a2)]) (Nat.le_of_ble_eq_true rfl) rfl rfl dJ1_indexOfChar_4cfef_5 ?_
  exact v_weak (lvle_s (lvle_n (lvle_n (lvle_s (lvle_s (lvle_s lvle_0)))))) (wJ1_indexOfChar_4cfef_7 hz   h)
