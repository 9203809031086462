noncomputable def gX12_night_79 (K48 : Mem → Nat → Int32 → Int32 → Int32 → Int32 → Int32 → Option (Int32 × Mem)) (M : Mem) (l0 : Nat) (l1 : Int32) (l2 : Int32) (l3 : Int32) (l4 : Int32) (l5 : Int32) : Option (Int32 × Mem) :=
  K48 M l0 l1 l2 l3 l4 (l5 + (-1 : Int32))
noncomputable def gX12_night_48  : Nat → Mem → Nat → Int32 → Int32 → Int32 → Int32 → Int32 → Option (Int32 × Mem)
  | 0, _, _, _, _, _, _, _ => none
  | n + 1, M, l0, l1, l2, l3, l4, l5 => if l5 < 0 then (ck (isK M l0 12) <| rb (mR M l0 0) fun b14 => ck (isK M b14 14) <| ck (inb l2 (mG M b14)) <| some (l4, (stI M b14 l2.toNatClampNeg l3))) else (ck (isK M l0 12) <| rb (mR M l0 0) fun b18 => bd (fX12_held M (l3 + l5)) fun x19 M19 => ck (isK M19 b18 14) <| ck (inb l2 (mG M19 b18)) <| ck (isK M19 l0 12) <| bd (fX12_sent (stI M19 b18 l2.toNatClampNeg x19) l0 l1) fun x23 M23 => if x23 = l2 then (gX12_night_79 (gX12_night_48 n) M23 l0 l1 l2 l3 l5 l5) else (gX12_night_79 (gX12_night_48 n) M23 l0 l1 l2 l3 l4 l5))
noncomputable def fX12_night (M : Mem) (a0 : Nat) (a1 : Int32) (a2 : Int32) : Option (Int32 × Mem) :=
  ck (isK M a0 12) <| bd (fX12_isOne M a0 a1) fun x2 M2 => if x2 = 0 then (some ((-1 : Int32), M2)) else (bd (fX12_isCell M2 a2) fun x3 M3 => if x3 = 0 then (some ((-1 : Int32), M3)) else (ck (isK M3 a0 12) <| rb (mR M3 a0 4) fun b5 => ck (isK M3 b5 14) <| ck (inb a1 (mG M3 b5)) <| bd (fX12_areNext M3 (mI M3 b5 a1.toNatClampNeg) a2) fun x8 M8 => if x8 = 0 then (some ((-2 : Int32), M8)) else (ck (isK M8 a0 12) <| rb (mR M8 a0 0) fun b10 => ck (isK M8 b10 14) <| ck (inb a2 (mG M8 b10)) <| gX12_night_48 FU M8 a0 a1 a2 (mI M8 b10 a2.toNatClampNeg) (-5 : Int32) (99 : Int32))))
set_option maxRecDepth 100000 in
set_option maxHeartbeats 4000000 in
theorem wX12_night_79 {z : Zx} {fx : Fx} {al : Bool} {r : Nat} {N : Mem} {xr : Int32} (hz : Zok z fx al yX12_night.cls yX12_night.name cX12_night (some .int) 6 (r + 5) 0 0 (some (.int xr)) N)  {K48 : Mem → Nat → Int32 → Int32 → Int32 → Int32 → Int32 → Option (Int32 × Mem)} (hK48 : ∀ {M : Mem} {l0 : Nat} {l1 : Int32} {l2 : Int32} {l3 : Int32} {l4 : Int32} {l5 : Int32}, K48 M l0 l1 l2 l3 l4 l5 = some (xr, N) → V z 48 [some (.ref l0), some (.int l1), some (.int l2), some (.int l3), some (.int l4), some (.int l5)] [] M 0 0) {M : Mem} {l0 : Nat} {l1 : Int32} {l2 : Int32} {l3 : Int32} {l4 : Int32} {l5 : Int32} (h : gX12_night_79 K48 M l0 l1 l2 l3 l4 l5 = some (xr, N)) : V z 79 [some (.ref l0), some (.int l1), some (.int l2), some (.int l3), some (.int l4), some (.int l5)] [] M 0 0 := by
  unfold gX12_night_79 at h
  refine v_iinc hz (v := (l5 + (-1 : Int32))) (lw := [some (.ref l0), some (.int l1), some (.int l2), some (.int l3), some (.int l4), some (.int (l5 + (-1 : Int32)))]) rfl (congrArg (fun q => l5 + q) (show Int32.ofInt (-1) = (-1 : Int32) by decide)) rfl rfl dX12_night_79 ?_
  refine v_goto (tgt := 48) hz dX12_night_82 (by decide) ?_
  exact v_weak (lvle_s (lvle_s (lvle_s (lvle_s (lvle_s (lvle_s lvle_0)))))) (hK48 h)
set_option maxRecDepth 100000 in
set_option maxHeartbeats 4000000 in
theorem gX12_night_48_s  (n : Nat) (M : Mem) (l0 : Nat) (l1 : Int32) (l2 : Int32) (l3 : Int32) (l4 : Int32) (l5 : Int32) : gX12_night_48  (n + 1) M l0 l1 l2 l3 l4 l5 = (if l5 < 0 then (ck (isK M l0 12) <| rb (mR M l0 0) fun b14 => ck (isK M b14 14) <| ck (inb l2 (mG M b14)) <| some (l4, (stI M b14 l2.toNatClampNeg l3))) else (ck (isK M l0 12) <| rb (mR M l0 0) fun b18 => bd (fX12_held M (l3 + l5)) fun x19 M19 => ck (isK M19 b18 14) <| ck (inb l2 (mG M19 b18)) <| ck (isK M19 l0 12) <| bd (fX12_sent (stI M19 b18 l2.toNatClampNeg x19) l0 l1) fun x23 M23 => if x23 = l2 then (gX12_night_79 (gX12_night_48 n) M23 l0 l1 l2 l3 l5 l5) else (gX12_night_79 (gX12_night_48 n) M23 l0 l1 l2 l3 l4 l5))) := rfl
set_option maxRecDepth 100000 in
set_option maxHeartbeats 4000000 in
theorem wX12_night_48 {z : Zx} {fx : Fx} {al : Bool} {r : Nat} {N : Mem} {xr : Int32} (hz : Zok z fx al yX12_night.cls yX12_night.name cX12_night (some .int) 6 (r + 5) 0 0 (some (.int xr)) N)    : ∀ {n : Nat} {M : Mem} {l0 : Nat} {l1 : Int32} {l2 : Int32} {l3 : Int32} {l4 : Int32} {l5 : Int32}, gX12_night_48  n M l0 l1 l2 l3 l4 l5 = some (xr, N) → V z 48 [some (.ref l0), some (.int l1), some (.int l2), some (.int l3), some (.int l4), some (.int l5)] [] M 0 0 := by
  intro n
  induction n with
  | zero => intro M l0 l1 l2 l3 l4 l5 h; cases h
  | succ n ih =>
    intro M l0 l1 l2 l3 l4 l5 h
    replace h := (gX12_night_48_s  n M l0 l1 l2 l3 l4 l5).symm.trans h
    refine v_iload hz rfl dX12_night_48 ?_
    refine v_if_lt (tgt := 85) hz dX12_night_50 (by decide) (fun hc => ?_) (fun hc => ?_)
    · replace h := (if_pos hc).symm.trans h
      refine v_aload_n hz rfl rfl dX12_night_85 ?_
      obtain ⟨ck13, h⟩ := ck_inv h
      obtain ⟨ka13, kb13⟩ := isK_of ck13
      obtain ⟨b14, r14, h⟩ := rb_inv h
      refine v_getR hz fl_X12_9 rfl dX12_night_86 ka13 kb13 r14 ?_
      refine v_iload_n hz rfl rfl dX12_night_89 ?_
      refine v_iload_n hz rfl rfl dX12_night_90 ?_
      obtain ⟨ck15, h⟩ := ck_inv h
      obtain ⟨ka15, kb15⟩ := isK_of ck15
      obtain ⟨g16, h⟩ := ck_inv h
      refine v_iastore hz dX12_night_91 ka15 kb15 g16 ?_
      refine v_iload hz rfl dX12_night_92 ?_
      obtain ⟨rfl, rfl⟩ := sp_inv h
      exact v_iret hz dX12_night_94 (by decide) (by decide)
    · replace h := (if_neg hc).symm.trans h
      refine v_aload_n hz rfl rfl dX12_night_53 ?_
      obtain ⟨ck17, h⟩ := ck_inv h
      obtain ⟨ka17, kb17⟩ := isK_of ck17
      obtain ⟨b18, r18, h⟩ := rb_inv h
      refine v_getR hz fl_X12_9 rfl dX12_night_54 ka17 kb17 r18 ?_
      refine v_iload_n hz rfl rfl dX12_night_57 ?_
      refine v_iload_n hz rfl rfl dX12_night_58 ?_
      refine v_iload hz rfl dX12_night_59 ?_
      refine v_iadd hz dX12_night_61 ?_
      obtain ⟨x19, M19, e19, h⟩ := bd_inv h
      refine v_callS hz (As := [.int (l3 + l5)]) sl_X12_238 (tX12_held (r + 3) e19) rfl rfl rfl (Nat.le_of_ble_eq_true rfl) ⟨by decide, by decide⟩ dX12_night_62 ?_
      show V z 65 [some (.ref l0), some (.int l1), some (.int l2), some (.int l3), some (.int l4), some (.int l5)] [.int x19, .int l2, .ref b18] M19 0 0
      obtain ⟨ck20, h⟩ := ck_inv h
      obtain ⟨ka20, kb20⟩ := isK_of ck20
      obtain ⟨g21, h⟩ := ck_inv h
      refine v_iastore hz dX12_night_65 ka20 kb20 g21 ?_
      refine v_aload_n hz rfl rfl dX12_night_66 ?_
      refine v_iload_n hz rfl rfl dX12_night_67 ?_
      obtain ⟨ck22, h⟩ := ck_inv h
      obtain ⟨ka22, kb22⟩ := isK_of ck22
      obtain ⟨x23, M23, e23, h⟩ := bd_inv h
      refine v_callV hz (As := [.int l1]) vl_X12_119 (tX12_sent (r + 0) e23) rfl (by decide) ka22 kb22 rfl rfl rfl (Nat.le_of_ble_eq_true rfl) ⟨by decide, by decide⟩ dX12_night_68 ?_
      show V z 71 [some (.ref l0), some (.int l1), some (.int l2), some (.int l3), some (.int l4), some (.int l5)] [.int x23] M23 0 0
      refine v_iload_n hz rfl rfl dX12_night_71 ?_
      refine v_icmp_ne (tgt := 79) hz dX12_night_72 (by decide) (fun hc => ?_) (fun hc => ?_)
      · replace h := (if_neg hc).symm.trans h
        exact v_weak (lvle_s (lvle_s (lvle_s (lvle_s (lvle_s (lvle_s lvle_0)))))) (wX12_night_79 hz  (fun h => ih h) h)
      · replace h := (if_pos hc).symm.trans h
        refine v_iload hz rfl dX12_night_75 ?_
        refine v_istore hz (lw := [some (.ref l0), some (.int l1), some (.int l2), some (.int l3), some (.int l5), some (.int l5)]) (Nat.le_of_ble_eq_true rfl) rfl rfl dX12_night_77 ?_
        exact v_weak (lvle_s (lvle_s (lvle_s (lvle_s (lvle_s (lvle_s lvle_0)))))) (wX12_night_79 hz  (fun h => ih h) h)
set_option maxRecDepth 100000 in
set_option maxHeartbeats 4000000 in
theorem tX12_night (r : Nat) {fx : Fx} {al : Bool} {M N : Mem} {a0 : Nat} {a1 : Int32} {a2 : Int32} {xr : Int32}  (h : fX12_night M a0 a1 a2 = some (xr, N)) : Ct fx yX12_night cX12_night 6 (some .int) (r + 5) 0 0 al [.ref a0, .int a1, .int a2] M (some (.int xr)) N := by
  refine ct_of (lv := [some (.ref a0), some (.int a1), some (.int a2), none, none, none]) (by decide) (Nat.le_of_ble_eq_true rfl) rfl rfl (fun z hz => ?_)
  unfold fX12_night at h
  refine v_aload_n hz rfl rfl dX12_night_0 ?_
  refine v_iload_n hz rfl rfl dX12_night_1 ?_
  obtain ⟨ck1, h⟩ := ck_inv h
  obtain ⟨ka1, kb1⟩ := isK_of ck1
  obtain ⟨x2, M2, e2, h⟩ := bd_inv h
  refine v_callV hz (As := [.int a1]) vl_X12_116 (tX12_isOne (r + 3) e2) rfl (by decide) ka1 kb1 rfl rfl rfl (Nat.le_of_ble_eq_true rfl) ⟨by decide, by decide⟩ dX12_night_2 ?_
  show V z 5 [some (.ref a0), some (.int a1), some (.int a2), none, none, none] [.int x2] M2 0 0
  refine v_if_eq (tgt := 15) hz dX12_night_5 (by decide) (fun hc => ?_) (fun hc => ?_)
  · replace h := (if_pos hc).symm.trans h
    refine v_iconst hz (v := (-1 : Int32)) (by decide) dX12_night_15 ?_
    obtain ⟨rfl, rfl⟩ := sp_inv h
    exact v_iret hz dX12_night_16 (by decide) (by decide)
  · replace h := (if_neg hc).symm.trans h
    refine v_iload_n hz rfl rfl dX12_night_8 ?_
    obtain ⟨x3, M3, e3, h⟩ := bd_inv h
    refine v_callS hz (As := [.int a2]) sl_X12_112 (tX12_isCell (r + 3) e3) rfl rfl rfl (Nat.le_of_ble_eq_true rfl) ⟨by decide, by decide⟩ dX12_night_9 ?_
    show V z 12 [some (.ref a0), some (.int a1), some (.int a2), none, none, none] [.int x3] M3 0 0
    refine v_if_ne (tgt := 17) hz dX12_night_12 (by decide) (fun hc => ?_) (fun hc => ?_)
    · replace h := (if_neg hc).symm.trans h
      refine v_aload_n hz rfl rfl dX12_night_17 ?_
      obtain ⟨ck4, h⟩ := ck_inv h
      obtain ⟨ka4, kb4⟩ := isK_of ck4
      obtain ⟨b5, r5, h⟩ := rb_inv h
      refine v_getR hz fl_X12_21 rfl dX12_night_18 ka4 kb4 r5 ?_
      refine v_iload_n hz rfl rfl dX12_night_21 ?_
      obtain ⟨ck6, h⟩ := ck_inv h
      obtain ⟨ka6, kb6⟩ := isK_of ck6
      obtain ⟨g7, h⟩ := ck_inv h
      refine v_iaload hz dX12_night_22 ka6 kb6 g7 ?_
      refine v_iload_n hz rfl rfl dX12_night_23 ?_
      obtain ⟨x8, M8, e8, h⟩ := bd_inv h
      refine v_callS hz (As := [.int (mI M3 b5 a1.toNatClampNeg), .int a2]) sl_X12_269 (tX12_areNext (r + 3) e8) rfl rfl rfl (Nat.le_of_ble_eq_true rfl) ⟨by decide, by decide⟩ dX12_night_24 ?_
      show V z 27 [some (.ref a0), some (.int a1), some (.int a2), none, none, none] [.int x8] M8 0 0
      refine v_if_ne (tgt := 33) hz dX12_night_27 (by decide) (fun hc => ?_) (fun hc => ?_)
      · replace h := (if_neg hc).symm.trans h
        refine v_aload_n hz rfl rfl dX12_night_33 ?_
        obtain ⟨ck9, h⟩ := ck_inv h
        obtain ⟨ka9, kb9⟩ := isK_of ck9
        obtain ⟨b10, r10, h⟩ := rb_inv h
        refine v_getR hz fl_X12_9 rfl dX12_night_34 ka9 kb9 r10 ?_
        refine v_iload_n hz rfl rfl dX12_night_37 ?_
        obtain ⟨ck11, h⟩ := ck_inv h
        obtain ⟨ka11, kb11⟩ := isK_of ck11
        obtain ⟨g12, h⟩ := ck_inv h
        refine v_iaload hz dX12_night_38 ka11 kb11 g12 ?_
        refine v_istore_n hz (lw := [some (.ref a0), some (.int a1), some (.int a2), some (.int (mI M8 b10 a2.toNatClampNeg)), none, none]) rfl (Nat.le_of_ble_eq_true rfl) rfl rfl dX12_night_39 ?_
        refine v_bipush hz (v := (-5 : Int32)) (by decide) dX12_night_40 ?_
        refine v_istore hz (lw := [some (.ref a0), some (.int a1), some (.int a2), some (.int (mI M8 b10 a2.toNatClampNeg)), some (.int (-5 : Int32)), none]) (Nat.le_of_ble_eq_true rfl) rfl rfl dX12_night_42 ?_
        refine v_bipush hz (v := (99 : Int32)) (by decide) dX12_night_44 ?_
        refine v_istore hz (lw := [some (.ref a0), some (.int a1), some (.int a2), some (.int (mI M8 b10 a2.toNatClampNeg)), some (.int (-5 : Int32)), some (.int (99 : Int32))]) (Nat.le_of_ble_eq_true rfl) rfl rfl dX12_night_46 ?_
        exact v_weak (lvle_s (lvle_s (lvle_s (lvle_s (lvle_s (lvle_s lvle_0)))))) (wX12_night_48 hz   h)
      · replace h := (if_pos hc).symm.trans h
        refine v_bipush hz (v := (-2 : Int32)) (by decide) dX12_night_30 ?_
        obtain ⟨rfl, rfl⟩ := sp_inv h
        exact v_iret hz dX12_night_32 (by decide) (by decide)
    · replace h := (if_pos hc).symm.trans h
      refine v_iconst hz (v := (-1 : Int32)) (by decide) dX12_night_15 ?_
      obtain ⟨rfl, rfl⟩ := sp_inv h
      exact v_iret hz dX12_night_16 (by decide) (by decide)
noncomputable def fX12_see (M : Mem) (a0 : Nat) (a1 : Int32) (a2 : Int32) (a3 : Int32) : Option (Int32 × Mem) :=
  if a1 = (-1 : Int32) then (ck (isK M a0 12) <| some ((0 : Int32), (stI M a0 24 (0 : Int32)))) else (ck (isK M a0 12) <| bd (fX12_isOne M a0 a1) fun x2 M2 => if x2 = 0 then (some ((-1 : Int32), M2)) else (bd (fX12_isCell M2 a3) fun x3 M3 => if x3 = 0 then (some ((-1 : Int32), M3)) else (bd (fX12_within M3 a2 (0 : Int32) (8 : Int32)) fun x4 M4 => if x4 = 0 then (some ((-2 : Int32), M4)) else (ck (isK M4 a0 12) <| if (mI M4 a0 24) = (5 : Int32) then (some ((-4 : Int32), M4)) else (rb (mR M4 a0 25) fun b6 => ck (isK M4 b6 14) <| ck (inb (mI M4 a0 24) (mG M4 b6)) <| rb (mR (stI M4 b6 (mI M4 a0 24).toNatClampNeg a1) a0 26) fun b9 => ck (isK M4 b9 14) <| ck (inb (mI (stI M4 b6 (mI M4 a0 24).toNatClampNeg a1) a0 24) (mG M4 b9)) <| rb (mR (stI (stI M4 b6 (mI M4 a0 24).toNatClampNeg a1) b9 (mI (stI M4 b6 (mI M4 a0 24).toNatClampNeg a1) a0 24).toNatClampNeg a2) a0 27) fun b12 => nm (stI (stI (stI M4 b6 (mI M4 a0 24).toNatClampNeg a1) b9 (mI (stI M4 b6 (mI M4 a0 24).toNatClampNeg a1) a0 24).toNatClampNeg a2) a0 24 ((mI (stI (stI M4 b6 (mI M4 a0 24).toNatClampNeg a1) b9 (mI (stI M4 b6 (mI M4 a0 24).toNatClampNeg a1) a0 24).toNatClampNeg a2) a0 24) + (1 : Int32))) fun M13 => ck (isK M13 b12 14) <| ck (inb (mI (stI (stI M4 b6 (mI M4 a0 24).toNatClampNeg a1) b9 (mI (stI M4 b6 (mI M4 a0 24).toNatClampNeg a1) a0 24).toNatClampNeg a2) a0 24) (mG M13 b12)) <| nm (stI M13 b12 (mI (stI (stI M4 b6 (mI M4 a0 24).toNatClampNeg a1) b9 (mI (stI M4 b6 (mI M4 a0 24).toNatClampNeg a1) a0 24).toNatClampNeg a2) a0 24).toNatClampNeg a3) fun M16 => ck (isK M16 a0 12) <| some ((mI M16 a0 24), M16))))))
set_option maxRecDepth 100000 in
set_option maxHeartbeats 4000000 in
theorem tX12_see (r : Nat) {fx : Fx} {al : Bool} {M N : Mem} {a0 : Nat} {a1 : Int32} {a2 : Int32} {a3 : Int32} {xr : Int32}  (h : fX12_see M a0 a1 a2 a3 = some (xr, N)) : Ct fx yX12_see cX12_see 4 (some .int) (r + 2) 0 0 al [.ref a0, .int a1, .int a2, .int a3] M (some (.int xr)) N := by
  refine ct_of (lv := [some (.ref a0), some (.int a1), some (.int a2), some (.int a3)]) (by decide) (Nat.le_of_ble_eq_true rfl) rfl rfl (fun z hz => ?_)
  unfold fX12_see at h
  refine v_iload_n hz rfl rfl dX12_see_0 ?_
  refine v_iconst hz (v := (-1 : Int32)) (by decide) dX12_see_1 ?_
  refine v_icmp_ne (tgt := 12) hz dX12_see_2 (by decide) (fun hc => ?_) (fun hc => ?_)
  · replace h := (if_neg hc).symm.trans h
    refine v_aload_n hz rfl rfl dX12_see_12 ?_
    refine v_iload_n hz rfl rfl dX12_see_13 ?_
    obtain ⟨ck1, h⟩ := ck_inv h
    obtain ⟨ka1, kb1⟩ := isK_of ck1
    obtain ⟨x2, M2, e2, h⟩ := bd_inv h
    refine v_callV hz (As := [.int a1]) vl_X12_116 (tX12_isOne (r + 0) e2) rfl (by decide) ka1 kb1 rfl rfl rfl (Nat.le_of_ble_eq_true rfl) ⟨by decide, by decide⟩ dX12_see_14 ?_
    show V z 17 [some (.ref a0), some (.int a1), some (.int a2), some (.int a3)] [.int x2] M2 0 0
    refine v_if_eq (tgt := 27) hz dX12_see_17 (by decide) (fun hc => ?_) (fun hc => ?_)
    · replace h := (if_pos hc).symm.trans h
      refine v_iconst hz (v := (-1 : Int32)) (by decide) dX12_see_27 ?_
      obtain ⟨rfl, rfl⟩ := sp_inv h
      exact v_iret hz dX12_see_28 (by decide) (by decide)
    · replace h := (if_neg hc).symm.trans h
      refine v_iload_n hz rfl rfl dX12_see_20 ?_
      obtain ⟨x3, M3, e3, h⟩ := bd_inv h
      refine v_callS hz (As := [.int a3]) sl_X12_112 (tX12_isCell (r + 0) e3) rfl rfl rfl (Nat.le_of_ble_eq_true rfl) ⟨by decide, by decide⟩ dX12_see_21 ?_
      show V z 24 [some (.ref a0), some (.int a1), some (.int a2), some (.int a3)] [.int x3] M3 0 0
      refine v_if_ne (tgt := 29) hz dX12_see_24 (by decide) (fun hc => ?_) (fun hc => ?_)
      · replace h := (if_neg hc).symm.trans h
        refine v_iload_n hz rfl rfl dX12_see_29 ?_
        refine v_iconst hz (v := (0 : Int32)) (by decide) dX12_see_30 ?_
        refine v_bipush hz (v := (8 : Int32)) (by decide) dX12_see_31 ?_
        obtain ⟨x4, M4, e4, h⟩ := bd_inv h
        refine v_callS hz (As := [.int a2, .int (0 : Int32), .int (8 : Int32)]) sl_X12_108 (tX12_within (r + 1) e4) rfl rfl rfl (Nat.le_of_ble_eq_true rfl) ⟨by decide, by decide⟩ dX12_see_33 ?_
        show V z 36 [some (.ref a0), some (.int a1), some (.int a2), some (.int a3)] [.int x4] M4 0 0
        refine v_if_ne (tgt := 42) hz dX12_see_36 (by decide) (fun hc => ?_) (fun hc => ?_)
        · replace h := (if_neg hc).symm.trans h
          refine v_aload_n hz rfl rfl dX12_see_42 ?_
          obtain ⟨ck5, h⟩ := ck_inv h
          obtain ⟨ka5, kb5⟩ := isK_of ck5
          refine v_getI hz fl_X12_273 rfl dX12_see_43 ka5 kb5 ?_
          refine v_iconst hz (v := (5 : Int32)) (by decide) dX12_see_46 ?_
          refine v_icmp_ne (tgt := 53) hz dX12_see_47 (by decide) (fun hc => ?_) (fun hc => ?_)
          · replace h := (if_neg hc).symm.trans h
            refine v_aload_n hz rfl rfl dX12_see_53 ?_
            obtain ⟨b6, r6, h⟩ := rb_inv h
            refine v_getR hz fl_X12_55 rfl dX12_see_54 ka5 kb5 r6 ?_
            refine v_aload_n hz rfl rfl dX12_see_57 ?_
            refine v_getI hz fl_X12_273 rfl dX12_see_58 ka5 kb5 ?_
            refine v_iload_n hz rfl rfl dX12_see_61 ?_
            obtain ⟨ck7, h⟩ := ck_inv h
            obtain ⟨ka7, kb7⟩ := isK_of ck7
            obtain ⟨g8, h⟩ := ck_inv h
            refine v_iastore hz dX12_see_62 ka7 kb7 g8 ?_
            refine v_aload_n hz rfl rfl dX12_see_63 ?_
            obtain ⟨b9, r9, h⟩ := rb_inv h
            refine v_getR hz fl_X12_58 rfl dX12_see_64 ka5 kb5 r9 ?_
            refine v_aload_n hz rfl rfl dX12_see_67 ?_
            refine v_getI hz fl_X12_273 rfl dX12_see_68 ka5 kb5 ?_
            refine v_iload_n hz rfl rfl dX12_see_71 ?_
            obtain ⟨ck10, h⟩ := ck_inv h
            obtain ⟨ka10, kb10⟩ := isK_of ck10
            obtain ⟨g11, h⟩ := ck_inv h
            refine v_iastore hz dX12_see_72 ka10 kb10 g11 ?_
            refine v_aload_n hz rfl rfl dX12_see_73 ?_
            obtain ⟨b12, r12, h⟩ := rb_inv h
            refine v_getR hz fl_X12_61 rfl dX12_see_74 ka5 kb5 r12 ?_
            refine v_aload_n hz rfl rfl dX12_see_77 ?_
            refine v_dup hz rfl dX12_see_78 ?_
            refine v_getI hz fl_X12_273 rfl dX12_see_79 ka5 kb5 ?_
            refine v_dup_x1 hz rfl rfl dX12_see_82 ?_
            refine v_iconst hz (v := (1 : Int32)) (by decide) dX12_see_83 ?_
            refine v_iadd hz dX12_see_84 ?_
            refine v_putI hz fl_X12_273 ft_12_24 (by decide) rfl rfl rfl dX12_see_85 ka5 kb5 ?_
            obtain ⟨M13, eM13, h⟩ := nm_inv h
            refine v_mem eM13.symm ?_
            refine v_iload_n hz rfl rfl dX12_see_88 ?_
            obtain ⟨ck14, h⟩ := ck_inv h
            obtain ⟨ka14, kb14⟩ := isK_of ck14
            obtain ⟨g15, h⟩ := ck_inv h
            refine v_iastore hz dX12_see_89 ka14 kb14 g15 ?_
            obtain ⟨M16, eM16, h⟩ := nm_inv h
            refine v_mem eM16.symm ?_
            refine v_aload_n hz rfl rfl dX12_see_90 ?_
            obtain ⟨ck17, h⟩ := ck_inv h
            obtain ⟨ka17, kb17⟩ := isK_of ck17
            refine v_getI hz fl_X12_273 rfl dX12_see_91 ka17 kb17 ?_
            obtain ⟨rfl, rfl⟩ := sp_inv h
            exact v_iret hz dX12_see_94 (by decide) (by decide)
          · replace h := (if_pos hc).symm.trans h
            refine v_bipush hz (v := (-4 : Int32)) (by decide) dX12_see_50 ?_
            obtain ⟨rfl, rfl⟩ := sp_inv h
            exact v_iret hz dX12_see_52 (by decide) (by decide)
        · replace h := (if_pos hc).symm.trans h
          refine v_bipush hz (v := (-2 : Int32)) (by decide) dX12_see_39 ?_
          obtain ⟨rfl, rfl⟩ := sp_inv h
          exact v_iret hz dX12_see_41 (by decide) (by decide)
      · replace h := (if_pos hc).symm.trans h
        refine v_iconst hz (v := (-1 : Int32)) (by decide) dX12_see_27 ?_
        obtain ⟨rfl, rfl⟩ := sp_inv h
        exact v_iret hz dX12_see_28 (by decide) (by decide)
  · replace h := (if_pos hc).symm.trans h
    refine v_aload_n hz rfl rfl dX12_see_5 ?_
    refine v_iconst hz (v := (0 : Int32)) (by decide) dX12_see_6 ?_
    obtain ⟨ck18, h⟩ := ck_inv h
    obtain ⟨ka18, kb18⟩ := isK_of ck18
    refine v_putI hz fl_X12_273 ft_12_24 (by decide) rfl rfl rfl dX12_see_7 ka18 kb18 ?_
    refine v_iconst hz (v := (0 : Int32)) (by decide) dX12_see_10 ?_
    obtain ⟨rfl, rfl⟩ := sp_inv h
    exact v_iret hz dX12_see_11 (by decide) (by decide)
noncomputable def gX12_isSeen_60 (K4 : Mem → Nat → Int32 → Int32 → Option (Int32 × Mem)) (K20 : Mem → Nat → Int32 → Int32 → Int32 → Option (Int32 × Mem)) (M : Mem) (l0 : Nat) (l1 : Int32) (l2 : Int32) (l3 : Int32) : Option (Int32 × Mem) :=
  K20 M l0 l1 l2 (l3 + (1 : Int32))
noncomputable def gX12_isSeen_20 (K4 : Mem → Nat → Int32 → Int32 → Option (Int32 × Mem)) : Nat → Mem → Nat → Int32 → Int32 → Int32 → Option (Int32 × Mem)
  | 0, _, _, _, _, _ => none
  | n + 1, M, l0, l1, l2, l3 => ck (isK M l0 12) <| if (mI M l0 24) ≤ l3 then (K4 M l0 l1 (l2 + (1 : Int32))) else (rb (mR M l0 26) fun b3 => ck (isK M b3 14) <| ck (inb l3 (mG M b3)) <| if (mI M b3 l3.toNatClampNeg) = l2 then (rb (mR M l0 4) fun b6 => rb (mR M l0 25) fun b7 => ck (isK M b7 14) <| ck (inb l3 (mG M b7)) <| ck (isK M b6 14) <| ck (inb (mI M b7 l3.toNatClampNeg) (mG M b6)) <| rb (mR M l0 27) fun b12 => ck (isK M b12 14) <| ck (inb l3 (mG M b12)) <| if (mI M b6 (mI M b7 l3.toNatClampNeg).toNatClampNeg) = (mI M b12 l3.toNatClampNeg) then (gX12_isSeen_60 K4 (gX12_isSeen_20 K4 n) M l0 l1 l2 l3) else (gX12_isSeen_60 K4 (gX12_isSeen_20 K4 n) M l0 (0 : Int32) l2 l3)) else (gX12_isSeen_60 K4 (gX12_isSeen_20 K4 n) M l0 l1 l2 l3))
noncomputable def gX12_isSeen_18 (K4 : Mem → Nat → Int32 → Int32 → Option (Int32 × Mem)) (M : Mem) (l0 : Nat) (l1 : Int32) (l2 : Int32) : Option (Int32 × Mem) :=
  gX12_isSeen_20 K4 FU M l0 l1 l2 (0 : Int32)
noncomputable def gX12_isSeen_4  : Nat → Mem → Nat → Int32 → Int32 → Option (Int32 × Mem)
  | 0, _, _, _, _ => none
  | n + 1, M, l0, l1, l2 => if (9 : Int32) ≤ l2 then (ck (b01 l1) <| some (l1, M)) else (if l2 ≤ 0 then (gX12_isSeen_18 (gX12_isSeen_4 n) M l0 l1 l2) else (ck (isK M l0 12) <| bd (fX12_goesHour M l0) fun x16 M16 => gX12_isSeen_18 (gX12_isSeen_4 n) M16 l0 l1 l2))
noncomputable def fX12_isSeen (M : Mem) (a0 : Nat) : Option (Int32 × Mem) :=
  gX12_isSeen_4 FU M a0 (1 : Int32) (0 : Int32)
set_option maxRecDepth 100000 in
set_option maxHeartbeats 4000000 in
theorem wX12_isSeen_60 {z : Zx} {fx : Fx} {al : Bool} {r : Nat} {N : Mem} {xr : Int32} (hz : Zok z fx al yX12_isSeen.cls yX12_isSeen.name cX12_isSeen (some .boolean) 4 (r + 6) 0 0 (some (.int xr)) N)  {K4 : Mem → Nat → Int32 → Int32 → Option (Int32 × Mem)} {K20 : Mem → Nat → Int32 → Int32 → Int32 → Option (Int32 × Mem)} (hK4 : ∀ {M : Mem} {l0 : Nat} {l1 : Int32} {l2 : Int32}, K4 M l0 l1 l2 = some (xr, N) → V z 4 [some (.ref l0), some (.int l1), some (.int l2), none] [] M 0 0) (hK20 : ∀ {M : Mem} {l0 : Nat} {l1 : Int32} {l2 : Int32} {l3 : Int32}, K20 M l0 l1 l2 l3 = some (xr, N) → V z 20 [some (.ref l0), some (.int l1), some (.int l2), some (.int l3)] [] M 0 0) {M : Mem} {l0 : Nat} {l1 : Int32} {l2 : Int32} {l3 : Int32} (h : gX12_isSeen_60 K4 K20 M l0 l1 l2 l3 = some (xr, N)) : V z 60 [some (.ref l0), some (.int l1), some (.int l2), some (.int l3)] [] M 0 0 := by
  unfold gX12_isSeen_60 at h
  refine v_iinc hz (v := (l3 + (1 : Int32))) (lw := [some (.ref l0), some (.int l1), some (.int l2), some (.int (l3 + (1 : Int32)))]) rfl (congrArg (fun q => l3 + q) (show Int32.ofInt (1) = (1 : Int32) by decide)) rfl rfl dX12_isSeen_60 ?_
  refine v_goto (tgt := 20) hz dX12_isSeen_63 (by decide) ?_
  exact v_weak (lvle_s (lvle_s (lvle_s (lvle_s lvle_0)))) (hK20 h)
set_option maxRecDepth 100000 in
set_option maxHeartbeats 4000000 in
theorem gX12_isSeen_20_s (K4 : Mem → Nat → Int32 → Int32 → Option (Int32 × Mem)) (n : Nat) (M : Mem) (l0 : Nat) (l1 : Int32) (l2 : Int32) (l3 : Int32) : gX12_isSeen_20 K4 (n + 1) M l0 l1 l2 l3 = (ck (isK M l0 12) <| if (mI M l0 24) ≤ l3 then (K4 M l0 l1 (l2 + (1 : Int32))) else (rb (mR M l0 26) fun b3 => ck (isK M b3 14) <| ck (inb l3 (mG M b3)) <| if (mI M b3 l3.toNatClampNeg) = l2 then (rb (mR M l0 4) fun b6 => rb (mR M l0 25) fun b7 => ck (isK M b7 14) <| ck (inb l3 (mG M b7)) <| ck (isK M b6 14) <| ck (inb (mI M b7 l3.toNatClampNeg) (mG M b6)) <| rb (mR M l0 27) fun b12 => ck (isK M b12 14) <| ck (inb l3 (mG M b12)) <| if (mI M b6 (mI M b7 l3.toNatClampNeg).toNatClampNeg) = (mI M b12 l3.toNatClampNeg) then (gX12_isSeen_60 K4 (gX12_isSeen_20 K4 n) M l0 l1 l2 l3) else (gX12_isSeen_60 K4 (gX12_isSeen_20 K4 n) M l0 (0 : Int32) l2 l3)) else (gX12_isSeen_60 K4 (gX12_isSeen_20 K4 n) M l0 l1 l2 l3))) := rfl
set_option maxRecDepth 100000 in
set_option maxHeartbeats 4000000 in
theorem wX12_isSeen_20 {z : Zx} {fx : Fx} {al : Bool} {r : Nat} {N : Mem} {xr : Int32} (hz : Zok z fx al yX12_isSeen.cls yX12_isSeen.name cX12_isSeen (some .boolean) 4 (r + 6) 0 0 (some (.int xr)) N)  {K4 : Mem → Nat → Int32 → Int32 → Option (Int32 × Mem)} (hK4 : ∀ {M : Mem} {l0 : Nat} {l1 : Int32} {l2 : Int32}, K4 M l0 l1 l2 = some (xr, N) → V z 4 [some (.ref l0), some (.int l1), some (.int l2), none] [] M 0 0) : ∀ {n : Nat} {M : Mem} {l0 : Nat} {l1 : Int32} {l2 : Int32} {l3 : Int32}, gX12_isSeen_20 K4 n M l0 l1 l2 l3 = some (xr, N) → V z 20 [some (.ref l0), some (.int l1), some (.int l2), some (.int l3)] [] M 0 0 := by
  intro n
  induction n with
  | zero => intro M l0 l1 l2 l3 h; cases h
  | succ n ih =>
    intro M l0 l1 l2 l3 h
    replace h := (gX12_isSeen_20_s K4 n M l0 l1 l2 l3).symm.trans h
    refine v_iload_n hz rfl rfl dX12_isSeen_20 ?_
    refine v_aload_n hz rfl rfl dX12_isSeen_21 ?_
    obtain ⟨ck2, h⟩ := ck_inv h
    obtain ⟨ka2, kb2⟩ := isK_of ck2
    refine v_getI hz fl_X12_273 rfl dX12_isSeen_22 ka2 kb2 ?_
    refine v_icmp_ge (tgt := 66) hz dX12_isSeen_25 (by decide) (fun hc => ?_) (fun hc => ?_)
    · replace h := (if_pos hc).symm.trans h
      refine v_iinc hz (v := (l2 + (1 : Int32))) (lw := [some (.ref l0), some (.int l1), some (.int (l2 + (1 : Int32))), some (.int l3)]) rfl (congrArg (fun q => l2 + q) (show Int32.ofInt (1) = (1 : Int32) by decide)) rfl rfl dX12_isSeen_66 ?_
      refine v_goto (tgt := 4) hz dX12_isSeen_69 (by decide) ?_
      exact v_weak (lvle_s (lvle_s (lvle_s (lvle_n lvle_0)))) (hK4 h)
    · replace h := (if_neg hc).symm.trans h
      refine v_aload_n hz rfl rfl dX12_isSeen_28 ?_
      obtain ⟨b3, r3, h⟩ := rb_inv h
      refine v_getR hz fl_X12_58 rfl dX12_isSeen_29 ka2 kb2 r3 ?_
      refine v_iload_n hz rfl rfl dX12_isSeen_32 ?_
      obtain ⟨ck4, h⟩ := ck_inv h
      obtain ⟨ka4, kb4⟩ := isK_of ck4
      obtain ⟨g5, h⟩ := ck_inv h
      refine v_iaload hz dX12_isSeen_33 ka4 kb4 g5 ?_
      refine v_iload_n hz rfl rfl dX12_isSeen_34 ?_
      refine v_icmp_ne (tgt := 60) hz dX12_isSeen_35 (by decide) (fun hc => ?_) (fun hc => ?_)
      · replace h := (if_neg hc).symm.trans h
        exact v_weak (lvle_s (lvle_s (lvle_s (lvle_s lvle_0)))) (wX12_isSeen_60 hz  (fun h => hK4 h) (fun h => ih h) h)
      · replace h := (if_pos hc).symm.trans h
        refine v_aload_n hz rfl rfl dX12_isSeen_38 ?_
        obtain ⟨b6, r6, h⟩ := rb_inv h
        refine v_getR hz fl_X12_21 rfl dX12_isSeen_39 ka2 kb2 r6 ?_
        refine v_aload_n hz rfl rfl dX12_isSeen_42 ?_
        obtain ⟨b7, r7, h⟩ := rb_inv h
        refine v_getR hz fl_X12_55 rfl dX12_isSeen_43 ka2 kb2 r7 ?_
        refine v_iload_n hz rfl rfl dX12_isSeen_46 ?_
        obtain ⟨ck8, h⟩ := ck_inv h
        obtain ⟨ka8, kb8⟩ := isK_of ck8
        obtain ⟨g9, h⟩ := ck_inv h
        refine v_iaload hz dX12_isSeen_47 ka8 kb8 g9 ?_
        obtain ⟨ck10, h⟩ := ck_inv h
        obtain ⟨ka10, kb10⟩ := isK_of ck10
        obtain ⟨g11, h⟩ := ck_inv h
        refine v_iaload hz dX12_isSeen_48 ka10 kb10 g11 ?_
        refine v_aload_n hz rfl rfl dX12_isSeen_49 ?_
        obtain ⟨b12, r12, h⟩ := rb_inv h
        refine v_getR hz fl_X12_61 rfl dX12_isSeen_50 ka2 kb2 r12 ?_
        refine v_iload_n hz rfl rfl dX12_isSeen_53 ?_
        obtain ⟨ck13, h⟩ := ck_inv h
        obtain ⟨ka13, kb13⟩ := isK_of ck13
        obtain ⟨g14, h⟩ := ck_inv h
        refine v_iaload hz dX12_isSeen_54 ka13 kb13 g14 ?_
        refine v_icmp_eq (tgt := 60) hz dX12_isSeen_55 (by decide) (fun hc => ?_) (fun hc => ?_)
        · replace h := (if_pos hc).symm.trans h
          exact v_weak (lvle_s (lvle_s (lvle_s (lvle_s lvle_0)))) (wX12_isSeen_60 hz  (fun h => hK4 h) (fun h => ih h) h)
        · replace h := (if_neg hc).symm.trans h
          refine v_iconst hz (v := (0 : Int32)) (by decide) dX12_isSeen_58 ?_
          refine v_istore_n hz (lw := [some (.ref l0), some (.int (0 : Int32)), some (.int l2), some (.int l3)]) rfl (Nat.le_of_ble_eq_true rfl) rfl rfl dX12_isSeen_59 ?_
          exact v_weak (lvle_s (lvle_s (lvle_s (lvle_s lvle_0)))) (wX12_isSeen_60 hz  (fun h => hK4 h) (fun h => ih h) h)
set_option maxRecDepth 100000 in
set_option maxHeartbeats 4000000 in
theorem wX12_isSeen_18 {z : Zx} {fx : Fx} {al : Bool} {r : Nat} {N : Mem} {xr : Int32} (hz : Zok z fx al yX12_isSeen.cls yX12_isSeen.name cX12_isSeen (some .boolean) 4 (r + 6) 0 0 (some (.int xr)) N)  {K4 : Mem → Nat → Int32 → Int32 → Option (Int32 × Mem)} (hK4 : ∀ {M : Mem} {l0 : Nat} {l1 : Int32} {l2 : Int32}, K4 M l0 l1 l2 = some (xr, N) → V z 4 [some (.ref l0), some (.int l1), some (.int l2), none] [] M 0 0) {M : Mem} {l0 : Nat} {l1 : Int32} {l2 : Int32} (h : gX12_isSeen_18 K4 M l0 l1 l2 = some (xr, N)) : V z 18 [some (.ref l0), some (.int l1), some (.int l2), none] [] M 0 0 := by
  unfold gX12_isSeen_18 at h
  refine v_iconst hz (v := (0 : Int32)) (by decide) dX12_isSeen_18 ?_
  refine v_istore_n hz (lw := [some (.ref l0), some (.int l1), some (.int l2), some (.int (0 : Int32))]) rfl (Nat.le_of_ble_eq_true rfl) rfl rfl dX12_isSeen_19 ?_
  exact v_weak (lvle_s (lvle_s (lvle_s (lvle_s lvle_0)))) (wX12_isSeen_20 hz  (fun h => hK4 h) h)
set_option maxRecDepth 100000 in
set_option maxHeartbeats 4000000 in
theorem gX12_isSeen_4_s  (n : Nat) (M : Mem) (l0 : Nat) (l1 : Int32) (l2 : Int32) : gX12_isSeen_4  (n + 1) M l0 l1 l2 = (if (9 : Int32) ≤ l2 then (ck (b01 l1) <| some (l1, M)) else (if l2 ≤ 0 then (gX12_isSeen_18 (gX12_isSeen_4 n) M l0 l1 l2) else (ck (isK M l0 12) <| bd (fX12_goesHour M l0) fun x16 M16 => gX12_isSeen_18 (gX12_isSeen_4 n) M16 l0 l1 l2))) := rfl
set_option maxRecDepth 100000 in
set_option maxHeartbeats 4000000 in
theorem wX12_isSeen_4 {z : Zx} {fx : Fx} {al : Bool} {r : Nat} {N : Mem} {xr : Int32} (hz : Zok z fx al yX12_isSeen.cls yX12_isSeen.name cX12_isSeen (some .boolean) 4 (r + 6) 0 0 (some (.int xr)) N)    : ∀ {n : Nat} {M : Mem} {l0 : Nat} {l1 : Int32} {l2 : Int32}, gX12_isSeen_4  n M l0 l1 l2 = some (xr, N) → V z 4 [some (.ref l0), some (.int l1), some (.int l2), none] [] M 0 0 := by
  intro n
  induction n with
  | zero => intro M l0 l1 l2 h; cases h
  | succ n ih =>
    intro M l0 l1 l2 h
    replace h := (gX12_isSeen_4_s  n M l0 l1 l2).symm.trans h
    refine v_iload_n hz rfl rfl dX12_isSeen_4 ?_
    refine v_bipush hz (v := (9 : Int32)) (by decide) dX12_isSeen_5 ?_
    refine v_icmp_ge (tgt := 72) hz dX12_isSeen_7 (by decide) (fun hc => ?_) (fun hc => ?_)
    · replace h := (if_pos hc).symm.trans h
      refine v_iload_n hz rfl rfl dX12_isSeen_72 ?_
      obtain ⟨g1, h⟩ := ck_inv h
      obtain ⟨rfl, rfl⟩ := sp_inv h
      exact v_zret hz (b01_of g1) dX12_isSeen_73 (by decide) (by decide)
    · replace h := (if_neg hc).symm.trans h
      refine v_iload_n hz rfl rfl dX12_isSeen_10 ?_
      refine v_if_le (tgt := 18) hz dX12_isSeen_11 (by decide) (fun hc => ?_) (fun hc => ?_)
      · replace h := (if_pos hc).symm.trans h
        exact v_weak (lvle_s (lvle_s (lvle_s (lvle_n lvle_0)))) (wX12_isSeen_18 hz  (fun h => ih h) h)
      · replace h := (if_neg hc).symm.trans h
        refine v_aload_n hz rfl rfl dX12_isSeen_14 ?_
        obtain ⟨ck15, h⟩ := ck_inv h
        obtain ⟨ka15, kb15⟩ := isK_of ck15
        obtain ⟨x16, M16, e16, h⟩ := bd_inv h
        refine v_callV hz (As := []) vl_X12_250 (tX12_goesHour (r + 0) e16) rfl (by decide) ka15 kb15 rfl rfl rfl (Nat.le_of_ble_eq_true rfl) ⟨by decide, by decide⟩ dX12_isSeen_15 ?_
        show V z 18 [some (.ref l0), some (.int l1), some (.int l2), none] [] M16 0 0
        exact v_weak (lvle_s (lvle_s (lvle_s (lvle_n lvle_0)))) (wX12_isSeen_18 hz  (fun h => ih h) h)
set_option maxRecDepth 100000 in
set_option maxHeartbeats 4000000 in
theorem tX12_isSeen (r : Nat) {fx : Fx} {al : Bool} {M N : Mem} {a0 : Nat} {xr : Int32}  (h : fX12_isSeen M a0 = some (xr, N)) : Ct fx yX12_isSeen cX12_isSeen 4 (some .boolean) (r + 6) 0 0 al [.ref a0] M (some (.int xr)) N := by
  refine ct_of (lv := [some (.ref a0), none, none, none]) (by decide) (Nat.le_of_ble_eq_true rfl) rfl rfl (fun z hz => ?_)
  unfold fX12_isSeen at h
  refine v_iconst hz (v := (1 : Int32)) (by decide) dX12_isSeen_0 ?_
  refine v_istore_n hz (lw := [some (.ref a0), some (.int (1 : Int32)), none, none]) rfl (Nat.le_of_ble_eq_true rfl) rfl rfl dX12_isSeen_1 ?_
  refine v_iconst hz (v := (0 : Int32)) (by decide) dX12_isSeen_2 ?_
  refine v_istore_n hz (lw := [some (.ref a0), some (.int (1 : Int32)), some (.int (0 : Int32)), none]) rfl (Nat.le_of_ble_eq_true rfl) rfl rfl dX12_isSeen_3 ?_
  exact v_weak (lvle_s (lvle_s (lvle_s (lvle_n lvle_0)))) (wX12_isSeen_4 hz   h)
noncomputable def gX12_from_48 (K22 : Mem → Nat → Int32 → Int32 → Int32 → Option (Int32 × Mem)) (M : Mem) (l0 : Nat) (l1 : Int32) (l2 : Int32) (l3 : Int32) : Option (Int32 × Mem) :=
  ck (isK M l0 12) <| rb (mR M l0 38) fun b12 => bd (fX12_again M l0 b12) fun x13 M13 => K22 M13 l0 l1 l2 (l3 + (1 : Int32))
noncomputable def gX12_from_22  : Nat → Mem → Nat → Int32 → Int32 → Int32 → Option (Int32 × Mem)
  | 0, _, _, _, _, _ => none
  | n + 1, M, l0, l1, l2, l3 => if (25 : Int32) ≤ l3 then (some (l2, M)) else (ck (isK M l0 12) <| rb (mR M l0 4) fun b7 => ck (isK M b7 14) <| ck (inb l1 (mG M b7)) <| bd (fX12_isSeen (stI M b7 l1.toNatClampNeg l3) l0) fun x10 M10 => if x10 = 0 then (gX12_from_48 (gX12_from_22 n) M10 l0 l1 l2 l3) else (gX12_from_48 (gX12_from_22 n) M10 l0 l1 (l2 ||| ((1 : Int32) <<< (l3 &&& 31))) l3))
noncomputable def fX12_from (M : Mem) (a0 : Nat) (a1 : Int32) : Option (Int32 × Mem) :=
  ck (isK M a0 12) <| bd (fX12_isOne M a0 a1) fun x2 M2 => if x2 = 0 then (some ((-1 : Int32), M2)) else (ck (isK M2 a0 12) <| rb (mR M2 a0 38) fun b4 => bd (fX12_keep M2 a0 b4) fun x5 M5 => gX12_from_22 FU M5 a0 a1 (0 : Int32) (0 : Int32))
set_option maxRecDepth 100000 in
set_option maxHeartbeats 4000000 in
theorem wX12_from_48 {z : Zx} {fx : Fx} {al : Bool} {r : Nat} {N : Mem} {xr : Int32} (hz : Zok z fx al yX12_from.cls yX12_from.name cX12_from (some .int) 4 (r + 7) 0 0 (some (.int xr)) N)  {K22 : Mem → Nat → Int32 → Int32 → Int32 → Option (Int32 × Mem)} (hK22 : ∀ {M : Mem} {l0 : Nat} {l1 : Int32} {l2 : Int32} {l3 : Int32}, K22 M l0 l1 l2 l3 = some (xr, N) → V z 22 [some (.ref l0), some (.int l1), some (.int l2), some (.int l3)] [] M 0 0) {M : Mem} {l0 : Nat} {l1 : Int32} {l2 : Int32} {l3 : Int32} (h : gX12_from_48 K22 M l0 l1 l2 l3 = some (xr, N)) : V z 48 [some (.ref l0), some (.int l1), some (.int l2), some (.int l3)] [] M 0 0 := by
  unfold gX12_from_48 at h
  refine v_aload_n hz rfl rfl dX12_from_48 ?_
  refine v_aload_n hz rfl rfl dX12_from_49 ?_
  obtain ⟨ck11, h⟩ := ck_inv h
  obtain ⟨ka11, kb11⟩ := isK_of ck11
  obtain ⟨b12, r12, h⟩ := rb_inv h
  refine v_getR hz fl_X12_82 rfl dX12_from_50 ka11 kb11 r12 ?_
  obtain ⟨x13, M13, e13, h⟩ := bd_inv h
  refine v_callV hz (As := [.ref b12]) vl_X12_257 (tX12_again (r + 6) e13) rfl (by decide) ka11 kb11 rfl rfl rfl (Nat.le_of_ble_eq_true rfl) ⟨by decide, by decide⟩ dX12_from_53 ?_
  show V z 56 [some (.ref l0), some (.int l1), some (.int l2), some (.int l3)] [] M13 0 0
  refine v_iinc hz (v := (l3 + (1 : Int32))) (lw := [some (.ref l0), some (.int l1), some (.int l2), some (.int (l3 + (1 : Int32)))]) rfl (congrArg (fun q => l3 + q) (show Int32.ofInt (1) = (1 : Int32) by decide)) rfl rfl dX12_from_56 ?_
  refine v_goto (tgt := 22) hz dX12_from_59 (by decide) ?_
  exact v_weak (lvle_s (lvle_s (lvle_s (lvle_s lvle_0)))) (hK22 h)
set_option maxRecDepth 100000 in
set_option maxHeartbeats 4000000 in
theorem gX12_from_22_s  (n : Nat) (M : Mem) (l0 : Nat) (l1 : Int32) (l2 : Int32) (l3 : Int32) : gX12_from_22  (n + 1) M l0 l1 l2 l3 = (if (25 : Int32) ≤ l3 then (some (l2, M)) else (ck (isK M l0 12) <| rb (mR M l0 4) fun b7 => ck (isK M b7 14) <| ck (inb l1 (mG M b7)) <| bd (fX12_isSeen (stI M b7 l1.toNatClampNeg l3) l0) fun x10 M10 => if x10 = 0 then (gX12_from_48 (gX12_from_22 n) M10 l0 l1 l2 l3) else (gX12_from_48 (gX12_from_22 n) M10 l0 l1 (l2 ||| ((1 : Int32) <<< (l3 &&& 31))) l3))) := rfl
set_option maxRecDepth 100000 in
set_option maxHeartbeats 4000000 in
theorem wX12_from_22 {z : Zx} {fx : Fx} {al : Bool} {r : Nat} {N : Mem} {xr : Int32} (hz : Zok z fx al yX12_from.cls yX12_from.name cX12_from (some .int) 4 (r + 7) 0 0 (some (.int xr)) N)    : ∀ {n : Nat} {M : Mem} {l0 : Nat} {l1 : Int32} {l2 : Int32} {l3 : Int32}, gX12_from_22  n M l0 l1 l2 l3 = some (xr, N) → V z 22 [some (.ref l0), some (.int l1), some (.int l2), some (.int l3)] [] M 0 0 := by
  intro n
  induction n with
  | zero => intro M l0 l1 l2 l3 h; cases h
  | succ n ih =>
    intro M l0 l1 l2 l3 h
    replace h := (gX12_from_22_s  n M l0 l1 l2 l3).symm.trans h
    refine v_iload_n hz rfl rfl dX12_from_22 ?_
    refine v_bipush hz (v := (25 : Int32)) (by decide) dX12_from_23 ?_
    refine v_icmp_ge (tgt := 62) hz dX12_from_25 (by decide) (fun hc => ?_) (fun hc => ?_)
    · replace h := (if_pos hc).symm.trans h
      refine v_iload_n hz rfl rfl dX12_from_62 ?_
      obtain ⟨rfl, rfl⟩ := sp_inv h
      exact v_iret hz dX12_from_63 (by decide) (by decide)
    · replace h := (if_neg hc).symm.trans h
      refine v_aload_n hz rfl rfl dX12_from_28 ?_
      obtain ⟨ck6, h⟩ := ck_inv h
      obtain ⟨ka6, kb6⟩ := isK_of ck6
      obtain ⟨b7, r7, h⟩ := rb_inv h
      refine v_getR hz fl_X12_21 rfl dX12_from_29 ka6 kb6 r7 ?_
      refine v_iload_n hz rfl rfl dX12_from_32 ?_
      refine v_iload_n hz rfl rfl dX12_from_33 ?_
      obtain ⟨ck8, h⟩ := ck_inv h
      obtain ⟨ka8, kb8⟩ := isK_of ck8
      obtain ⟨g9, h⟩ := ck_inv h
      refine v_iastore hz dX12_from_34 ka8 kb8 g9 ?_
      refine v_aload_n hz rfl rfl dX12_from_35 ?_
      obtain ⟨x10, M10, e10, h⟩ := bd_inv h
      refine v_callV hz (As := []) vl_X12_276 (tX12_isSeen (r + 0) e10) rfl (by decide) ka6 kb6 rfl rfl rfl (Nat.le_of_ble_eq_true rfl) ⟨by decide, by decide⟩ dX12_from_36 ?_
      show V z 39 [some (.ref l0), some (.int l1), some (.int l2), some (.int l3)] [.int x10] M10 0 0
      refine v_if_eq (tgt := 48) hz dX12_from_39 (by decide) (fun hc => ?_) (fun hc => ?_)
      · replace h := (if_pos hc).symm.trans h
        exact v_weak (lvle_s (lvle_s (lvle_s (lvle_s lvle_0)))) (wX12_from_48 hz  (fun h => ih h) h)
      · replace h := (if_neg hc).symm.trans h
        refine v_iload_n hz rfl rfl dX12_from_42 ?_
        refine v_iconst hz (v := (1 : Int32)) (by decide) dX12_from_43 ?_
        refine v_iload_n hz rfl rfl dX12_from_44 ?_
        refine v_ishl hz dX12_from_45 ?_
        refine v_ior hz dX12_from_46 ?_
        refine v_istore_n hz (lw := [some (.ref l0), some (.int l1), some (.int (l2 ||| ((1 : Int32) <<< (l3 &&& 31)))), some (.int l3)]) rfl (Nat.le_of_ble_eq_true rfl) rfl rfl dX12_from_47 ?_
        exact v_weak (lvle_s (lvle_s (lvle_s (lvle_s lvle_0)))) (wX12_from_48 hz  (fun h => ih h) h)
set_option maxRecDepth 100000 in
set_option maxHeartbeats 4000000 in
theorem tX12_from (r : Nat) {fx : Fx} {al : Bool} {M N : Mem} {a0 : Nat} {a1 : Int32} {xr : Int32}  (h : fX12_from M a0 a1 = some (xr, N)) : Ct fx yX12_from cX12_from 4 (some .int) (r + 7) 0 0 al [.ref a0, .int a1] M (some (.int xr)) N := by
  refine ct_of (lv := [some (.ref a0), some (.int a1), none, none]) (by decide) (Nat.le_of_ble_eq_true rfl) rfl rfl (fun z hz => ?_)
  unfold fX12_from at h
  refine v_aload_n hz rfl rfl dX12_from_0 ?_
  refine v_iload_n hz rfl rfl dX12_from_1 ?_
  obtain ⟨ck1, h⟩ := ck_inv h
  obtain ⟨ka1, kb1⟩ := isK_of ck1
  obtain ⟨x2, M2, e2, h⟩ := bd_inv h
  refine v_callV hz (As := [.int a1]) vl_X12_116 (tX12_isOne (r + 5) e2) rfl (by decide) ka1 kb1 rfl rfl rfl (Nat.le_of_ble_eq_true rfl) ⟨by decide, by decide⟩ dX12_from_2 ?_
  show V z 5 [some (.ref a0), some (.int a1), none, none] [.int x2] M2 0 0
  refine v_if_ne (tgt := 10) hz dX12_from_5 (by decide) (fun hc => ?_) (fun hc => ?_)
  · replace h := (if_neg hc).symm.trans h
    refine v_aload_n hz rfl rfl dX12_from_10 ?_
    refine v_aload_n hz rfl rfl dX12_from_11 ?_
    obtain ⟨ck3, h⟩ := ck_inv h
    obtain ⟨ka3, kb3⟩ := isK_of ck3
    obtain ⟨b4, r4, h⟩ := rb_inv h
    refine v_getR hz fl_X12_82 rfl dX12_from_12 ka3 kb3 r4 ?_
    obtain ⟨x5, M5, e5, h⟩ := bd_inv h
    refine v_callV hz (As := [.ref b4]) vl_X12_253 (tX12_keep (r + 6) e5) rfl (by decide) ka3 kb3 rfl rfl rfl (Nat.le_of_ble_eq_true rfl) ⟨by decide, by decide⟩ dX12_from_15 ?_
    show V z 18 [some (.ref a0), some (.int a1), none, none] [] M5 0 0
    refine v_iconst hz (v := (0 : Int32)) (by decide) dX12_from_18 ?_
    refine v_istore_n hz (lw := [some (.ref a0), some (.int a1), some (.int (0 : Int32)), none]) rfl (Nat.le_of_ble_eq_true rfl) rfl rfl dX12_from_19 ?_
    refine v_iconst hz (v := (0 : Int32)) (by decide) dX12_from_20 ?_
    refine v_istore_n hz (lw := [some (.ref a0), some (.int a1), some (.int (0 : Int32)), some (.int (0 : Int32))]) rfl (Nat.le_of_ble_eq_true rfl) rfl rfl dX12_from_21 ?_
    exact v_weak (lvle_s (lvle_s (lvle_s (lvle_s lvle_0)))) (wX12_from_22 hz   h)
  · replace h := (if_pos hc).symm.trans h
    refine v_iconst hz (v := (-1 : Int32)) (by decide) dX12_from_8 ?_
    obtain ⟨rfl, rfl⟩ := sp_inv h
    exact v_iret hz dX12_from_9 (by decide) (by decide)
noncomputable def gX12_can_64 (K37 : Mem → Nat → Int32 → Int32 → Int32 → Int32 → Int32 → Option (Int32 × Mem)) (M : Mem) (l0 : Nat) (l1 : Int32) (l2 : Int32) (l3 : Int32) (l4 : Int32) (l5 : Int32) : Option (Int32 × Mem) :=
  ck (isK M l0 12) <| rb (mR M l0 38) fun b13 => bd (fX12_again M l0 b13) fun x14 M14 => K37 M14 l0 l1 l2 l3 l4 (l5 + (-1 : Int32))
noncomputable def gX12_can_37  : Nat → Mem → Nat → Int32 → Int32 → Int32 → Int32 → Int32 → Option (Int32 × Mem)
  | 0, _, _, _, _, _, _, _ => none
  | n + 1, M, l0, l1, l2, l3, l4, l5 => if l5 < 0 then (if l2 = 0 then (some (l3, M)) else (some (l4, M))) else (ck (isK M l0 12) <| rb (mR M l0 3) fun b8 => ck (isK M b8 14) <| ck (inb l1 (mG M b8)) <| bd (fX12_isSeen (stI M b8 l1.toNatClampNeg l5) l0) fun x11 M11 => if x11 = 0 then (gX12_can_64 (gX12_can_37 n) M11 l0 l1 l2 l3 l4 l5) else (gX12_can_64 (gX12_can_37 n) M11 l0 l1 l2 (l3 + (1 : Int32)) l5 l5))
noncomputable def fX12_can (M : Mem) (a0 : Nat) (a1 : Int32) (a2 : Int32) : Option (Int32 × Mem) :=
  ck (isK M a0 12) <| bd (fX12_isOne M a0 a1) fun x2 M2 => if x2 = 0 then (some ((-1 : Int32), M2)) else (bd (fX12_within M2 a2 (0 : Int32) (1 : Int32)) fun x3 M3 => if x3 = 0 then (some ((-1 : Int32), M3)) else (ck (isK M3 a0 12) <| rb (mR M3 a0 38) fun b5 => bd (fX12_keep M3 a0 b5) fun x6 M6 => gX12_can_37 FU M6 a0 a1 a2 (0 : Int32) (-5 : Int32) (9 : Int32)))
set_option maxRecDepth 100000 in
set_option maxHeartbeats 4000000 in
theorem wX12_can_64 {z : Zx} {fx : Fx} {al : Bool} {r : Nat} {N : Mem} {xr : Int32} (hz : Zok z fx al yX12_can.cls yX12_can.name cX12_can (some .int) 6 (r + 7) 0 0 (some (.int xr)) N)  {K37 : Mem → Nat → Int32 → Int32 → Int32 → Int32 → Int32 → Option (Int32 × Mem)} (hK37 : ∀ {M : Mem} {l0 : Nat} {l1 : Int32} {l2 : Int32} {l3 : Int32} {l4 : Int32} {l5 : Int32}, K37 M l0 l1 l2 l3 l4 l5 = some (xr, N) → V z 37 [some (.ref l0), some (.int l1), some (.int l2), some (.int l3), some (.int l4), some (.int l5)] [] M 0 0) {M : Mem} {l0 : Nat} {l1 : Int32} {l2 : Int32} {l3 : Int32} {l4 : Int32} {l5 : Int32} (h : gX12_can_64 K37 M l0 l1 l2 l3 l4 l5 = some (xr, N)) : V z 64 [some (.ref l0), some (.int l1), some (.int l2), some (.int l3), some (.int l4), some (.int l5)] [] M 0 0 := by
  unfold gX12_can_64 at h
  refine v_aload_n hz rfl rfl dX12_can_64 ?_
  refine v_aload_n hz rfl rfl dX12_can_65 ?_
  obtain ⟨ck12, h⟩ := ck_inv h
  obtain ⟨ka12, kb12⟩ := isK_of ck12
  obtain ⟨b13, r13, h⟩ := rb_inv h
  refine v_getR hz fl_X12_82 rfl dX12_can_66 ka12 kb12 r13 ?_
  obtain ⟨x14, M14, e14, h⟩ := bd_inv h
  refine v_callV hz (As := [.ref b13]) vl_X12_257 (tX12_again (r + 6) e14) rfl (by decide) ka12 kb12 rfl rfl rfl (Nat.le_of_ble_eq_true rfl) ⟨by decide, by decide⟩ dX12_can_69 ?_
  show V z 72 [some (.ref l0), some (.int l1), some (.int l2), some (.int l3), some (.int l4), some (.int l5)] [] M14 0 0
  refine v_iinc hz (v := (l5 + (-1 : Int32))) (lw := [some (.ref l0), some (.int l1), some (.int l2), some (.int l3), some (.int l4), some (.int (l5 + (-1 : Int32)))]) rfl (congrArg (fun q => l5 + q) (show Int32.ofInt (-1) = (-1 : Int32) by decide)) rfl rfl dX12_can_72 ?_
  refine v_goto (tgt := 37) hz dX12_can_75 (by decide) ?_
  exact v_weak (lvle_s (lvle_s (lvle_s (lvle_s (lvle_s (lvle_s lvle_0)))))) (hK37 h)
set_option maxRecDepth 100000 in
set_option maxHeartbeats 4000000 in
theorem gX12_can_37_s  (n : Nat) (M : Mem) (l0 : Nat) (l1 : Int32) (l2 : Int32) (l3 : Int32) (l4 : Int32) (l5 : Int32) : gX12_can_37  (n + 1) M l0 l1 l2 l3 l4 l5 = (if l5 < 0 then (if l2 = 0 then (some (l3, M)) else (some (l4, M))) else (ck (isK M l0 12) <| rb (mR M l0 3) fun b8 => ck (isK M b8 14) <| ck (inb l1 (mG M b8)) <| bd (fX12_isSeen (stI M b8 l1.toNatClampNeg l5) l0) fun x11 M11 => if x11 = 0 then (gX12_can_64 (gX12_can_37 n) M11 l0 l1 l2 l3 l4 l5) else (gX12_can_64 (gX12_can_37 n) M11 l0 l1 l2 (l3 + (1 : Int32)) l5 l5))) := rfl
set_option maxRecDepth 100000 in
set_option maxHeartbeats 4000000 in
theorem wX12_can_37 {z : Zx} {fx : Fx} {al : Bool} {r : Nat} {N : Mem} {xr : Int32} (hz : Zok z fx al yX12_can.cls yX12_can.name cX12_can (some .int) 6 (r + 7) 0 0 (some (.int xr)) N)    : ∀ {n : Nat} {M : Mem} {l0 : Nat} {l1 : Int32} {l2 : Int32} {l3 : Int32} {l4 : Int32} {l5 : Int32}, gX12_can_37  n M l0 l1 l2 l3 l4 l5 = some (xr, N) → V z 37 [some (.ref l0), some (.int l1), some (.int l2), some (.int l3), some (.int l4), some (.int l5)] [] M 0 0 := by
  intro n
  induction n with
  | zero => intro M l0 l1 l2 l3 l4 l5 h; cases h
  | succ n ih =>
    intro M l0 l1 l2 l3 l4 l5 h
    replace h := (gX12_can_37_s  n M l0 l1 l2 l3 l4 l5).symm.trans h
    refine v_iload hz rfl dX12_can_37 ?_
    refine v_if_lt (tgt := 78) hz dX12_can_39 (by decide) (fun hc => ?_) (fun hc => ?_)
    · replace h := (if_pos hc).symm.trans h
      refine v_iload_n hz rfl rfl dX12_can_78 ?_
      refine v_if_ne (tgt := 86) hz dX12_can_79 (by decide) (fun hc => ?_) (fun hc => ?_)
      · replace h := (if_neg hc).symm.trans h
        refine v_iload hz rfl dX12_can_86 ?_
        obtain ⟨rfl, rfl⟩ := sp_inv h
        exact v_iret hz dX12_can_88 (by decide) (by decide)
      · replace h := (if_pos hc).symm.trans h
        refine v_iload_n hz rfl rfl dX12_can_82 ?_
        refine v_goto (tgt := 88) hz dX12_can_83 (by decide) ?_
        obtain ⟨rfl, rfl⟩ := sp_inv h
        exact v_iret hz dX12_can_88 (by decide) (by decide)
    · replace h := (if_neg hc).symm.trans h
      refine v_aload_n hz rfl rfl dX12_can_42 ?_
      obtain ⟨ck7, h⟩ := ck_inv h
      obtain ⟨ka7, kb7⟩ := isK_of ck7
      obtain ⟨b8, r8, h⟩ := rb_inv h
      refine v_getR hz fl_X12_18 rfl dX12_can_43 ka7 kb7 r8 ?_
      refine v_iload_n hz rfl rfl dX12_can_46 ?_
      refine v_iload hz rfl dX12_can_47 ?_
      obtain ⟨ck9, h⟩ := ck_inv h
      obtain ⟨ka9, kb9⟩ := isK_of ck9
      obtain ⟨g10, h⟩ := ck_inv h
      refine v_iastore hz dX12_can_49 ka9 kb9 g10 ?_
      refine v_aload_n hz rfl rfl dX12_can_50 ?_
      obtain ⟨x11, M11, e11, h⟩ := bd_inv h
      refine v_callV hz (As := []) vl_X12_276 (tX12_isSeen (r + 0) e11) rfl (by decide) ka7 kb7 rfl rfl rfl (Nat.le_of_ble_eq_true rfl) ⟨by decide, by decide⟩ dX12_can_51 ?_
      show V z 54 [some (.ref l0), some (.int l1), some (.int l2), some (.int l3), some (.int l4), some (.int l5)] [.int x11] M11 0 0
      refine v_if_eq (tgt := 64) hz dX12_can_54 (by decide) (fun hc => ?_) (fun hc => ?_)
      · replace h := (if_pos hc).symm.trans h
        exact v_weak (lvle_s (lvle_s (lvle_s (lvle_s (lvle_s (lvle_s lvle_0)))))) (wX12_can_64 hz  (fun h => ih h) h)
      · replace h := (if_neg hc).symm.trans h
        refine v_iinc hz (v := (l3 + (1 : Int32))) (lw := [some (.ref l0), some (.int l1), some (.int l2), some (.int (l3 + (1 : Int32))), some (.int l4), some (.int l5)]) rfl (congrArg (fun q => l3 + q) (show Int32.ofInt (1) = (1 : Int32) by decide)) rfl rfl dX12_can_57 ?_
        refine v_iload hz rfl dX12_can_60 ?_
        refine v_istore hz (lw := [some (.ref l0), some (.int l1), some (.int l2), some (.int (l3 + (1 : Int32))), some (.int l5), some (.int l5)]) (Nat.le_of_ble_eq_true rfl) rfl rfl dX12_can_62 ?_
        exact v_weak (lvle_s (lvle_s (lvle_s (lvle_s (lvle_s (lvle_s lvle_0)))))) (wX12_can_64 hz  (fun h => ih h) h)
set_option maxRecDepth 100000 in
set_option maxHeartbeats 4000000 in
theorem tX12_can (r : Nat) {fx : Fx} {al : Bool} {M N : Mem} {a0 : Nat} {a1 : Int32} {a2 : Int32} {xr : Int32}  (h : fX12_can M a0 a1 a2 = some (xr, N)) : Ct fx yX12_can cX12_can 6 (some .int) (r + 7) 0 0 al [.ref a0, .int a1, .int a2] M (some (.int xr)) N := by
  refine ct_of (lv := [some (.ref a0), some (.int a1), some (.int a2), none, none, none]) (by decide) (Nat.le_of_ble_eq_true rfl) rfl rfl (fun z hz => ?_)
  unfold fX12_can at h
  refine v_aload_n hz rfl rfl dX12_can_0 ?_
  refine v_iload_n hz rfl rfl dX12_can_1 ?_
  obtain ⟨ck1, h⟩ := ck_inv h
  obtain ⟨ka1, kb1⟩ := isK_of ck1
  obtain ⟨x2, M2, e2, h⟩ := bd_inv h
  refine v_callV hz (As := [.int a1]) vl_X12_116 (tX12_isOne (r + 5) e2) rfl (by decide) ka1 kb1 rfl rfl rfl (Nat.le_of_ble_eq_true rfl) ⟨by decide, by decide⟩ dX12_can_2 ?_
  show V z 5 [some (.ref a0), some (.int a1), some (.int a2), none, none, none] [.int x2] M2 0 0
  refine v_if_eq (tgt := 17) hz dX12_can_5 (by decide) (fun hc => ?_) (fun hc => ?_)
  · replace h := (if_pos hc).symm.trans h
    refine v_iconst hz (v := (-1 : Int32)) (by decide) dX12_can_17 ?_
    obtain ⟨rfl, rfl⟩ := sp_inv h
    exact v_iret hz dX12_can_18 (by decide) (by decide)
  · replace h := (if_neg hc).symm.trans h
    refine v_iload_n hz rfl rfl dX12_can_8 ?_
    refine v_iconst hz (v := (0 : Int32)) (by decide) dX12_can_9 ?_
    refine v_iconst hz (v := (1 : Int32)) (by decide) dX12_can_10 ?_
    obtain ⟨x3, M3, e3, h⟩ := bd_inv h
    refine v_callS hz (As := [.int a2, .int (0 : Int32), .int (1 : Int32)]) sl_X12_108 (tX12_within (r + 6) e3) rfl rfl rfl (Nat.le_of_ble_eq_true rfl) ⟨by decide, by decide⟩ dX12_can_11 ?_
    show V z 14 [some (.ref a0), some (.int a1), some (.int a2), none, none, none] [.int x3] M3 0 0
    refine v_if_ne (tgt := 19) hz dX12_can_14 (by decide) (fun hc => ?_) (fun hc => ?_)
    · replace h := (if_neg hc).symm.trans h
      refine v_aload_n hz rfl rfl dX12_can_19 ?_
      refine v_aload_n hz rfl rfl dX12_can_20 ?_
      obtain ⟨ck4, h⟩ := ck_inv h
      obtain ⟨ka4, kb4⟩ := isK_of ck4
      obtain ⟨b5, r5, h⟩ := rb_inv h
      refine v_getR hz fl_X12_82 rfl dX12_can_21 ka4 kb4 r5 ?_
      obtain ⟨x6, M6, e6, h⟩ := bd_inv h
      refine v_callV hz (As := [.ref b5]) vl_X12_253 (tX12_keep (r + 6) e6) rfl (by decide) ka4 kb4 rfl rfl rfl (Nat.le_of_ble_eq_true rfl) ⟨by decide, by decide⟩ dX12_can_24 ?_
      show V z 27 [some (.ref a0), some (.int a1), some (.int a2), none, none, none] [] M6 0 0
      refine v_iconst hz (v := (0 : Int32)) (by decide) dX12_can_27 ?_
      refine v_istore_n hz (lw := [some (.ref a0), some (.int a1), some (.int a2), some (.int (0 : Int32)), none, none]) rfl (Nat.le_of_ble_eq_true rfl) rfl rfl dX12_can_28 ?_
      refine v_bipush hz (v := (-5 : Int32)) (by decide) dX12_can_29 ?_
      refine v_istore hz (lw := [some (.ref a0), some (.int a1), some (.int a2), some (.int (0 : Int32)), some (.int (-5 : Int32)), none]) (Nat.le_of_ble_eq_true rfl) rfl rfl dX12_can_31 ?_
      refine v_bipush hz (v := (9 : Int32)) (by decide) dX12_can_33 ?_
      refine v_istore hz (lw := [some (.ref a0), some (.int a1), some (.int a2), some (.int (0 : Int32)), some (.int (-5 : Int32)), some (.int (9 : Int32))]) (Nat.le_of_ble_eq_true rfl) rfl rfl dX12_can_35 ?_
      exact v_weak (lvle_s (lvle_s (lvle_s (lvle_s (lvle_s (lvle_s lvle_0)))))) (wX12_can_37 hz   h)
    · replace h := (if_pos hc).symm.trans h
      refine v_iconst hz (v := (-1 : Int32)) (by decide) dX12_can_17 ?_
      obtain ⟨rfl, rfl⟩ := sp_inv h
      exact v_iret hz dX12_can_18 (by decide) (by decide)
noncomputable def gX12_part_5  : Nat → Mem → Int32 → Int32 → Int32 → Int32 → Int32 → Option (Int64 × Mem)
  | 0, _, _, _, _, _, _ => none
  | n + 1, M, l0, l1, l2, l3, l4 => if l4 = 0 then (if l2 = 0 then (ck (decide (¬ l3 = 0)) <| some ((l0 / l3).toInt64, M)) else (ck (decide (¬ l3 = 0)) <| some ((l1 / l3).toInt64, M))) else (ck (decide (¬ l4 = 0)) <| (gX12_part_5 n) M l0 l1 l2 l4 (l3 - l3 / l4 * l4))
noncomputable def fX12_part (M : Mem) (a0 : Int32) (a1 : Int32) (a2 : Int32) : Option (Int64 × Mem) :=
  gX12_part_5 FU M a0 a1 a2 a0 a1
set_option maxRecDepth 100000 in
set_option maxHeartbeats 4000000 in
theorem gX12_part_5_s  (n : Nat) (M : Mem) (l0 : Int32) (l1 : Int32) (l2 : Int32) (l3 : Int32) (l4 : Int32) : gX12_part_5  (n + 1) M l0 l1 l2 l3 l4 = (if l4 = 0 then (if l2 = 0 then (ck (decide (¬ l3 = 0)) <| some ((l0 / l3).toInt64, M)) else (ck (decide (¬ l3 = 0)) <| some ((l1 / l3).toInt64, M))) else (ck (decide (¬ l4 = 0)) <| (gX12_part_5 n) M l0 l1 l2 l4 (l3 - l3 / l4 * l4))) := rfl
set_option maxRecDepth 100000 in
set_option maxHeartbeats 4000000 in
theorem wX12_part_5 {z : Zx} {fx : Fx} {al : Bool} {r : Nat} {N : Mem} {xr : Int64} (hz : Zok z fx al yX12_part.cls yX12_part.name cX12_part (some .long) 6 (r + 0) 0 0 (some (.long xr)) N)    : ∀ {n : Nat} {M : Mem} {l0 : Int32} {l1 : Int32} {l2 : Int32} {l3 : Int32} {l4 : Int32}, gX12_part_5  n M l0 l1 l2 l3 l4 = some (xr, N) → V z 5 [some (.int l0), some (.int l1), some (.int l2), some (.int l3), some (.int l4), none] [] M 0 0 := by
  intro n
  induction n with
  | zero => intro M l0 l1 l2 l3 l4 h; cases h
  | succ n ih =>
    intro M l0 l1 l2 l3 l4 h
    replace h := (gX12_part_5_s  n M l0 l1 l2 l3 l4).symm.trans h
    refine v_iload hz rfl dX12_part_5 ?_
    refine v_if_eq (tgt := 26) hz dX12_part_7 (by decide) (fun hc => ?_) (fun hc => ?_)
    · replace h := (if_pos hc).symm.trans h
      refine v_iload_n hz rfl rfl dX12_part_26 ?_
      refine v_if_ne (tgt := 37) hz dX12_part_27 (by decide) (fun hc => ?_) (fun hc => ?_)
      · replace h := (if_neg hc).symm.trans h
        refine v_iload_n hz rfl rfl dX12_part_37 ?_
        refine v_iload_n hz rfl rfl dX12_part_38 ?_
        obtain ⟨g1, h⟩ := ck_inv h
        refine v_idiv hz (of_decide_eq_true g1) dX12_part_39 ?_
        refine v_i2l hz dX12_part_40 ?_
        obtain ⟨rfl, rfl⟩ := sp_inv h
        exact v_lret hz dX12_part_41 (by decide) (by decide)
      · replace h := (if_pos hc).symm.trans h
        refine v_iload_n hz rfl rfl dX12_part_30 ?_
        refine v_iload_n hz rfl rfl dX12_part_31 ?_
        obtain ⟨g2, h⟩ := ck_inv h
        refine v_idiv hz (of_decide_eq_true g2) dX12_part_32 ?_
        refine v_i2l hz dX12_part_33 ?_
        refine v_goto (tgt := 41) hz dX12_part_34 (by decide) ?_
        obtain ⟨rfl, rfl⟩ := sp_inv h
        exact v_lret hz dX12_part_41 (by decide) (by decide)
    · replace h := (if_neg hc).symm.trans h
      refine v_iload_n hz rfl rfl dX12_part_10 ?_
      refine v_iload hz rfl dX12_part_11 ?_
      obtain ⟨g3, h⟩ := ck_inv h
      refine v_irem hz (of_decide_eq_true g3) dX12_part_13 ?_
      refine v_istore hz (lw := [some (.int l0), some (.int l1), some (.int l2), some (.int l3), some (.int l4), some (.int (l3 - l3 / l4 * l4))]) (Nat.le_of_ble_eq_true rfl) rfl rfl dX12_part_14 ?_
      refine v_iload hz rfl dX12_part_16 ?_
      refine v_istore_n hz (lw := [some (.int l0), some (.int l1), some (.int l2), some (.int l4), some (.int l4), some (.int (l3 - l3 / l4 * l4))]) rfl (Nat.le_of_ble_eq_true rfl) rfl rfl dX12_part_18 ?_
      refine v_iload hz rfl dX12_part_19 ?_
      refine v_istore hz (lw := [some (.int l0), some (.int l1), some (.int l2), some (.int l4), some (.int (l3 - l3 / l4 * l4)), some (.int (l3 - l3 / l4 * l4))]) (Nat.le_of_ble_eq_true rfl) rfl rfl dX12_part_21 ?_
      refine v_goto (tgt := 5) hz dX12_part_23 (by decide) ?_
      exact v_weak (lvle_s (lvle_s (lvle_s (lvle_s (lvle_s (lvle_n lvle_0)))))) (ih h)
set_option maxRecDepth 100000 in
set_option maxHeartbeats 4000000 in
theorem tX12_part (r : Nat) {fx : Fx} {al : Bool} {M N : Mem} {a0 : Int32} {a1 : Int32} {a2 : Int32} {xr : Int64}  (h : fX12_part M a0 a1 a2 = some (xr, N)) : Ct fx yX12_part cX12_part 6 (some .long) (r + 0) 0 0 al [.int a0, .int a1, .int a2] M (some (.long xr)) N := by
  refine ct_of (lv := [some (.int a0), some (.int a1), some (.int a2), none, none, none]) (by decide) (Nat.le_of_ble_eq_true rfl) rfl rfl (fun z hz => ?_)
  unfold fX12_part at h
  refine v_iload_n hz rfl rfl dX12_part_0 ?_
  refine v_istore_n hz (lw := [some (.int a0), some (.int a1), some (.int a2), some (.int a0), none, none]) rfl (Nat.le_of_ble_eq_true rfl) rfl rfl dX12_part_1 ?_
  refine v_iload_n hz rfl rfl dX12_part_2 ?_
  refine v_istore hz (lw := [some (.int a0), some (.int a1), some (.int a2), some (.int a0), some (.int a1), none]) (Nat.le_of_ble_eq_true rfl) rfl rfl dX12_part_3 ?_
  exact v_weak (lvle_s (lvle_s (lvle_s (lvle_s (lvle_s (lvle_n lvle_0)))))) (wX12_part_5 hz   h)
