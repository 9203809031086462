noncomputable def fX12_is (M : Mem) (a0 : Nat) (a1 : Int32) : Option (Int32 × Mem) :=
  ck (isK M a0 12) <| if (mI M a0 10) = (mI M a0 8) then (some ((0 : Int32), M)) else (rb (mR M a0 9) fun b2 => ck (isK M b2 14) <| ck (inb (mI M a0 10) (mG M b2)) <| if (mI M b2 (mI M a0 10).toNatClampNeg) = a1 then (some ((1 : Int32), (stI M a0 10 ((mI M a0 10) + (1 : Int32))))) else (some ((0 : Int32), M)))
set_option maxRecDepth 100000 in
set_option maxHeartbeats 4000000 in
theorem tX12_is (r : Nat) {fx : Fx} {al : Bool} {M N : Mem} {a0 : Nat} {a1 : Int32} {xr : Int32}  (h : fX12_is M a0 a1 = some (xr, N)) : Ct fx yX12_is cX12_is 2 (some .boolean) (r + 0) 0 0 al [.ref a0, .int a1] M (some (.int xr)) N := by
  refine ct_of (lv := [some (.ref a0), some (.int a1)]) (by decide) (Nat.le_of_ble_eq_true rfl) rfl rfl (fun z hz => ?_)
  unfold fX12_is at h
  refine v_aload_n hz rfl rfl dX12_is_0 ?_
  obtain ⟨ck1, h⟩ := ck_inv h
  obtain ⟨ka1, kb1⟩ := isK_of ck1
  refine v_getI hz fl_X12_133 rfl dX12_is_1 ka1 kb1 ?_
  refine v_aload_n hz rfl rfl dX12_is_4 ?_
  refine v_getI hz fl_X12_130 rfl dX12_is_5 ka1 kb1 ?_
  refine v_icmp_eq (tgt := 24) hz dX12_is_8 (by decide) (fun hc => ?_) (fun hc => ?_)
  · replace h := (if_pos hc).symm.trans h
    refine v_iconst hz (v := (0 : Int32)) (by decide) dX12_is_24 ?_
    obtain ⟨rfl, rfl⟩ := sp_inv h
    exact v_zret hz (Or.inl rfl) dX12_is_25 (by decide) (by decide)
  · replace h := (if_neg hc).symm.trans h
    refine v_aload_n hz rfl rfl dX12_is_11 ?_
    obtain ⟨b2, r2, h⟩ := rb_inv h
    refine v_getR hz fl_X12_30 rfl dX12_is_12 ka1 kb1 r2 ?_
    refine v_aload_n hz rfl rfl dX12_is_15 ?_
    refine v_getI hz fl_X12_133 rfl dX12_is_16 ka1 kb1 ?_
    obtain ⟨ck3, h⟩ := ck_inv h
    obtain ⟨ka3, kb3⟩ := isK_of ck3
    obtain ⟨g4, h⟩ := ck_inv h
    refine v_iaload hz dX12_is_19 ka3 kb3 g4 ?_
    refine v_iload_n hz rfl rfl dX12_is_20 ?_
    refine v_icmp_eq (tgt := 26) hz dX12_is_21 (by decide) (fun hc => ?_) (fun hc => ?_)
    · replace h := (if_pos hc).symm.trans h
      refine v_aload_n hz rfl rfl dX12_is_26 ?_
      refine v_dup hz rfl dX12_is_27 ?_
      refine v_getI hz fl_X12_133 rfl dX12_is_28 ka1 kb1 ?_
      refine v_iconst hz (v := (1 : Int32)) (by decide) dX12_is_31 ?_
      refine v_iadd hz dX12_is_32 ?_
      refine v_putI hz fl_X12_133 ft_12_10 (by decide) rfl rfl rfl dX12_is_33 ka1 kb1 ?_
      refine v_iconst hz (v := (1 : Int32)) (by decide) dX12_is_36 ?_
      obtain ⟨rfl, rfl⟩ := sp_inv h
      exact v_zret hz (Or.inr rfl) dX12_is_37 (by decide) (by decide)
    · replace h := (if_neg hc).symm.trans h
      refine v_iconst hz (v := (0 : Int32)) (by decide) dX12_is_24 ?_
      obtain ⟨rfl, rfl⟩ := sp_inv h
      exact v_zret hz (Or.inl rfl) dX12_is_25 (by decide) (by decide)
noncomputable def fX12_isDigit (M : Mem) (a0 : Nat) : Option (Int32 × Mem) :=
  ck (isK M a0 12) <| if (mI M a0 8) ≤ (mI M a0 10) then (some ((0 : Int32), M)) else (rb (mR M a0 9) fun b2 => ck (isK M b2 14) <| ck (inb (mI M a0 10) (mG M b2)) <| if (mI M b2 (mI M a0 10).toNatClampNeg) < (48 : Int32) then (some ((0 : Int32), M)) else (ck (inb (mI M a0 10) (mG M b2)) <| if (57 : Int32) < (mI M b2 (mI M a0 10).toNatClampNeg) then (some ((0 : Int32), M)) else (some ((1 : Int32), M))))
set_option maxRecDepth 100000 in
set_option maxHeartbeats 4000000 in
theorem tX12_isDigit (r : Nat) {fx : Fx} {al : Bool} {M N : Mem} {a0 : Nat} {xr : Int32}  (h : fX12_isDigit M a0 = some (xr, N)) : Ct fx yX12_isDigit cX12_isDigit 1 (some .boolean) (r + 0) 0 0 al [.ref a0] M (some (.int xr)) N := by
  refine ct_of (lv := [some (.ref a0)]) (by decide) (Nat.le_of_ble_eq_true rfl) rfl rfl (fun z hz => ?_)
  unfold fX12_isDigit at h
  refine v_aload_n hz rfl rfl dX12_isDigit_0 ?_
  obtain ⟨ck1, h⟩ := ck_inv h
  obtain ⟨ka1, kb1⟩ := isK_of ck1
  refine v_getI hz fl_X12_133 rfl dX12_isDigit_1 ka1 kb1 ?_
  refine v_aload_n hz rfl rfl dX12_isDigit_4 ?_
  refine v_getI hz fl_X12_130 rfl dX12_isDigit_5 ka1 kb1 ?_
  refine v_icmp_ge (tgt := 43) hz dX12_isDigit_8 (by decide) (fun hc => ?_) (fun hc => ?_)
  · replace h := (if_pos hc).symm.trans h
    refine v_iconst hz (v := (0 : Int32)) (by decide) dX12_isDigit_43 ?_
    obtain ⟨rfl, rfl⟩ := sp_inv h
    exact v_zret hz (Or.inl rfl) dX12_isDigit_44 (by decide) (by decide)
  · replace h := (if_neg hc).symm.trans h
    refine v_aload_n hz rfl rfl dX12_isDigit_11 ?_
    obtain ⟨b2, r2, h⟩ := rb_inv h
    refine v_getR hz fl_X12_30 rfl dX12_isDigit_12 ka1 kb1 r2 ?_
    refine v_aload_n hz rfl rfl dX12_isDigit_15 ?_
    refine v_getI hz fl_X12_133 rfl dX12_isDigit_16 ka1 kb1 ?_
    obtain ⟨ck3, h⟩ := ck_inv h
    obtain ⟨ka3, kb3⟩ := isK_of ck3
    obtain ⟨g4, h⟩ := ck_inv h
    refine v_iaload hz dX12_isDigit_19 ka3 kb3 g4 ?_
    refine v_bipush hz (v := (48 : Int32)) (by decide) dX12_isDigit_20 ?_
    refine v_icmp_lt (tgt := 43) hz dX12_isDigit_22 (by decide) (fun hc => ?_) (fun hc => ?_)
    · replace h := (if_pos hc).symm.trans h
      refine v_iconst hz (v := (0 : Int32)) (by decide) dX12_isDigit_43 ?_
      obtain ⟨rfl, rfl⟩ := sp_inv h
      exact v_zret hz (Or.inl rfl) dX12_isDigit_44 (by decide) (by decide)
    · replace h := (if_neg hc).symm.trans h
      refine v_aload_n hz rfl rfl dX12_isDigit_25 ?_
      refine v_getR hz fl_X12_30 rfl dX12_isDigit_26 ka1 kb1 r2 ?_
      refine v_aload_n hz rfl rfl dX12_isDigit_29 ?_
      refine v_getI hz fl_X12_133 rfl dX12_isDigit_30 ka1 kb1 ?_
      obtain ⟨g5, h⟩ := ck_inv h
      refine v_iaload hz dX12_isDigit_33 ka3 kb3 g5 ?_
      refine v_bipush hz (v := (57 : Int32)) (by decide) dX12_isDigit_34 ?_
      refine v_icmp_gt (tgt := 43) hz dX12_isDigit_36 (by decide) (fun hc => ?_) (fun hc => ?_)
      · replace h := (if_pos hc).symm.trans h
        refine v_iconst hz (v := (0 : Int32)) (by decide) dX12_isDigit_43 ?_
        obtain ⟨rfl, rfl⟩ := sp_inv h
        exact v_zret hz (Or.inl rfl) dX12_isDigit_44 (by decide) (by decide)
      · replace h := (if_neg hc).symm.trans h
        refine v_iconst hz (v := (1 : Int32)) (by decide) dX12_isDigit_39 ?_
        refine v_goto (tgt := 44) hz dX12_isDigit_40 (by decide) ?_
        obtain ⟨rfl, rfl⟩ := sp_inv h
        exact v_zret hz (Or.inr rfl) dX12_isDigit_44 (by decide) (by decide)
noncomputable def gX12_isNumber_72  (M : Mem) (l0 : Nat) : Option (Int32 × Mem) :=
  ck (isK M l0 12) <| if (mI M l0 12) ≤ 0 then (some ((0 : Int32), M)) else (some ((1 : Int32), M))
noncomputable def gX12_isNumber_10  : Nat → Mem → Nat → Option (Int32 × Mem)
  | 0, _, _ => none
  | n + 1, M, l0 => ck (isK M l0 12) <| if (2 : Int32) ≤ (mI M l0 12) then (gX12_isNumber_72 M l0) else (bd (fX12_isDigit M l0) fun x4 M4 => if x4 = 0 then (gX12_isNumber_72 M4 l0) else (ck (isK M4 l0 12) <| rb (mR M4 l0 9) fun b6 => ck (isK M4 b6 14) <| ck (inb (mI M4 l0 10) (mG M4 b6)) <| nm (stI (stI M4 l0 11 ((((10 : Int32) * (mI M4 l0 11)) + (mI M4 b6 (mI M4 l0 10).toNatClampNeg)) - (48 : Int32))) l0 10 ((mI (stI M4 l0 11 ((((10 : Int32) * (mI M4 l0 11)) + (mI M4 b6 (mI M4 l0 10).toNatClampNeg)) - (48 : Int32))) l0 10) + (1 : Int32))) fun M9 => ck (isK M9 l0 12) <| (gX12_isNumber_10 n) (stI M9 l0 12 ((mI M9 l0 12) + (1 : Int32))) l0))
noncomputable def fX12_isNumber (M : Mem) (a0 : Nat) : Option (Int32 × Mem) :=
  ck (isK M a0 12) <| gX12_isNumber_10 FU (stI (stI M a0 11 (0 : Int32)) a0 12 (0 : Int32)) a0
set_option maxRecDepth 100000 in
set_option maxHeartbeats 4000000 in
theorem wX12_isNumber_72 {z : Zx} {fx : Fx} {al : Bool} {r : Nat} {N : Mem} {xr : Int32} (hz : Zok z fx al yX12_isNumber.cls yX12_isNumber.name cX12_isNumber (some .boolean) 1 (r + 1) 0 0 (some (.int xr)) N)    {M : Mem} {l0 : Nat} (h : gX12_isNumber_72  M l0 = some (xr, N)) : V z 72 [some (.ref l0)] [] M 0 0 := by
  unfold gX12_isNumber_72 at h
  refine v_aload_n hz rfl rfl dX12_isNumber_72 ?_
  obtain ⟨ck3, h⟩ := ck_inv h
  obtain ⟨ka3, kb3⟩ := isK_of ck3
  refine v_getI hz fl_X12_139 rfl dX12_isNumber_73 ka3 kb3 ?_
  refine v_if_le (tgt := 83) hz dX12_isNumber_76 (by decide) (fun hc => ?_) (fun hc => ?_)
  · replace h := (if_pos hc).symm.trans h
    refine v_iconst hz (v := (0 : Int32)) (by decide) dX12_isNumber_83 ?_
    obtain ⟨rfl, rfl⟩ := sp_inv h
    exact v_zret hz (Or.inl rfl) dX12_isNumber_84 (by decide) (by decide)
  · replace h := (if_neg hc).symm.trans h
    refine v_iconst hz (v := (1 : Int32)) (by decide) dX12_isNumber_79 ?_
    refine v_goto (tgt := 84) hz dX12_isNumber_80 (by decide) ?_
    obtain ⟨rfl, rfl⟩ := sp_inv h
    exact v_zret hz (Or.inr rfl) dX12_isNumber_84 (by decide) (by decide)
set_option maxRecDepth 100000 in
set_option maxHeartbeats 4000000 in
theorem gX12_isNumber_10_s  (n : Nat) (M : Mem) (l0 : Nat) : gX12_isNumber_10  (n + 1) M l0 = (ck (isK M l0 12) <| if (2 : Int32) ≤ (mI M l0 12) then (gX12_isNumber_72 M l0) else (bd (fX12_isDigit M l0) fun x4 M4 => if x4 = 0 then (gX12_isNumber_72 M4 l0) else (ck (isK M4 l0 12) <| rb (mR M4 l0 9) fun b6 => ck (isK M4 b6 14) <| ck (inb (mI M4 l0 10) (mG M4 b6)) <| nm (stI (stI M4 l0 11 ((((10 : Int32) * (mI M4 l0 11)) + (mI M4 b6 (mI M4 l0 10).toNatClampNeg)) - (48 : Int32))) l0 10 ((mI (stI M4 l0 11 ((((10 : Int32) * (mI M4 l0 11)) + (mI M4 b6 (mI M4 l0 10).toNatClampNeg)) - (48 : Int32))) l0 10) + (1 : Int32))) fun M9 => ck (isK M9 l0 12) <| (gX12_isNumber_10 n) (stI M9 l0 12 ((mI M9 l0 12) + (1 : Int32))) l0))) := rfl
set_option maxRecDepth 100000 in
set_option maxHeartbeats 4000000 in
theorem wX12_isNumber_10 {z : Zx} {fx : Fx} {al : Bool} {r : Nat} {N : Mem} {xr : Int32} (hz : Zok z fx al yX12_isNumber.cls yX12_isNumber.name cX12_isNumber (some .boolean) 1 (r + 1) 0 0 (some (.int xr)) N)    : ∀ {n : Nat} {M : Mem} {l0 : Nat}, gX12_isNumber_10  n M l0 = some (xr, N) → V z 10 [some (.ref l0)] [] M 0 0 := by
  intro n
  induction n with
  | zero => intro M l0 h; cases h
  | succ n ih =>
    intro M l0 h
    replace h := (gX12_isNumber_10_s  n M l0).symm.trans h
    refine v_aload_n hz rfl rfl dX12_isNumber_10 ?_
    obtain ⟨ck2, h⟩ := ck_inv h
    obtain ⟨ka2, kb2⟩ := isK_of ck2
    refine v_getI hz fl_X12_139 rfl dX12_isNumber_11 ka2 kb2 ?_
    refine v_iconst hz (v := (2 : Int32)) (by decide) dX12_isNumber_14 ?_
    refine v_icmp_ge (tgt := 72) hz dX12_isNumber_15 (by decide) (fun hc => ?_) (fun hc => ?_)
    · replace h := (if_pos hc).symm.trans h
      exact v_weak (lvle_s lvle_0) (wX12_isNumber_72 hz   h)
    · replace h := (if_neg hc).symm.trans h
      refine v_aload_n hz rfl rfl dX12_isNumber_18 ?_
      obtain ⟨x4, M4, e4, h⟩ := bd_inv h
      refine v_callV hz (As := []) vl_X12_142 (tX12_isDigit (r + 0) e4) rfl (by decide) ka2 kb2 rfl rfl rfl (Nat.le_of_ble_eq_true rfl) ⟨by decide, by decide⟩ dX12_isNumber_19 ?_
      show V z 22 [some (.ref l0)] [.int x4] M4 0 0
      refine v_if_eq (tgt := 72) hz dX12_isNumber_22 (by decide) (fun hc => ?_) (fun hc => ?_)
      · replace h := (if_pos hc).symm.trans h
        exact v_weak (lvle_s lvle_0) (wX12_isNumber_72 hz   h)
      · replace h := (if_neg hc).symm.trans h
        refine v_aload_n hz rfl rfl dX12_isNumber_25 ?_
        refine v_bipush hz (v := (10 : Int32)) (by decide) dX12_isNumber_26 ?_
        refine v_aload_n hz rfl rfl dX12_isNumber_28 ?_
        obtain ⟨ck5, h⟩ := ck_inv h
        obtain ⟨ka5, kb5⟩ := isK_of ck5
        refine v_getI hz fl_X12_136 rfl dX12_isNumber_29 ka5 kb5 ?_
        refine v_imul hz dX12_isNumber_32 ?_
        refine v_aload_n hz rfl rfl dX12_isNumber_33 ?_
        obtain ⟨b6, r6, h⟩ := rb_inv h
        refine v_getR hz fl_X12_30 rfl dX12_isNumber_34 ka5 kb5 r6 ?_
        refine v_aload_n hz rfl rfl dX12_isNumber_37 ?_
        refine v_getI hz fl_X12_133 rfl dX12_isNumber_38 ka5 kb5 ?_
        obtain ⟨ck7, h⟩ := ck_inv h
        obtain ⟨ka7, kb7⟩ := isK_of ck7
        obtain ⟨g8, h⟩ := ck_inv h
        refine v_iaload hz dX12_isNumber_41 ka7 kb7 g8 ?_
        refine v_iadd hz dX12_isNumber_42 ?_
        refine v_bipush hz (v := (48 : Int32)) (by decide) dX12_isNumber_43 ?_
        refine v_isub hz dX12_isNumber_45 ?_
        refine v_putI hz fl_X12_136 ft_12_11 (by decide) rfl rfl rfl dX12_isNumber_46 ka5 kb5 ?_
        refine v_aload_n hz rfl rfl dX12_isNumber_49 ?_
        refine v_dup hz rfl dX12_isNumber_50 ?_
        refine v_getI hz fl_X12_133 rfl dX12_isNumber_51 ka5 kb5 ?_
        refine v_iconst hz (v := (1 : Int32)) (by decide) dX12_isNumber_54 ?_
        refine v_iadd hz dX12_isNumber_55 ?_
        refine v_putI hz fl_X12_133 ft_12_10 (by decide) rfl rfl rfl dX12_isNumber_56 ka5 kb5 ?_
        obtain ⟨M9, eM9, h⟩ := nm_inv h
        refine v_mem eM9.symm ?_
        refine v_aload_n hz rfl rfl dX12_isNumber_59 ?_
        refine v_dup hz rfl dX12_isNumber_60 ?_
        obtain ⟨ck10, h⟩ := ck_inv h
        obtain ⟨ka10, kb10⟩ := isK_of ck10
        refine v_getI hz fl_X12_139 rfl dX12_isNumber_61 ka10 kb10 ?_
        refine v_iconst hz (v := (1 : Int32)) (by decide) dX12_isNumber_64 ?_
        refine v_iadd hz dX12_isNumber_65 ?_
        refine v_putI hz fl_X12_139 ft_12_12 (by decide) rfl rfl rfl dX12_isNumber_66 ka10 kb10 ?_
        refine v_goto (tgt := 10) hz dX12_isNumber_69 (by decide) ?_
        exact v_weak (lvle_s lvle_0) (ih h)
set_option maxRecDepth 100000 in
set_option maxHeartbeats 4000000 in
theorem tX12_isNumber (r : Nat) {fx : Fx} {al : Bool} {M N : Mem} {a0 : Nat} {xr : Int32}  (h : fX12_isNumber M a0 = some (xr, N)) : Ct fx yX12_isNumber cX12_isNumber 1 (some .boolean) (r + 1) 0 0 al [.ref a0] M (some (.int xr)) N := by
  refine ct_of (lv := [some (.ref a0)]) (by decide) (Nat.le_of_ble_eq_true rfl) rfl rfl (fun z hz => ?_)
  unfold fX12_isNumber at h
  refine v_aload_n hz rfl rfl dX12_isNumber_0 ?_
  refine v_iconst hz (v := (0 : Int32)) (by decide) dX12_isNumber_1 ?_
  obtain ⟨ck1, h⟩ := ck_inv h
  obtain ⟨ka1, kb1⟩ := isK_of ck1
  refine v_putI hz fl_X12_136 ft_12_11 (by decide) rfl rfl rfl dX12_isNumber_2 ka1 kb1 ?_
  refine v_aload_n hz rfl rfl dX12_isNumber_5 ?_
  refine v_iconst hz (v := (0 : Int32)) (by decide) dX12_isNumber_6 ?_
  refine v_putI hz fl_X12_139 ft_12_12 (by decide) rfl rfl rfl dX12_isNumber_7 ka1 kb1 ?_
  exact v_weak (lvle_s lvle_0) (wX12_isNumber_10 hz   h)
noncomputable def gX12_isAll_2  : Nat → Mem → Nat → Nat → Int32 → Option (Int32 × Mem)
  | 0, _, _, _, _ => none
  | n + 1, M, l0, l1, l2 => ck (isS l1) <| bd (fJ0_length_8abf5 M l1) fun x2 M2 => if x2 ≤ l2 then (some ((1 : Int32), M2)) else (ck (isS l1) <| bd (fJ0_charAt_5068e M2 l1 l2) fun x4 M4 => ck (isK M4 l0 12) <| bd (fX12_is M4 l0 x4) fun x6 M6 => if x6 = 0 then (some ((0 : Int32), M6)) else ((gX12_isAll_2 n) M6 l0 l1 (l2 + (1 : Int32))))
noncomputable def fX12_isAll (M : Mem) (a0 : Nat) (a1 : Nat) : Option (Int32 × Mem) :=
  gX12_isAll_2 FU M a0 a1 (0 : Int32)
set_option maxRecDepth 100000 in
set_option maxHeartbeats 4000000 in
theorem gX12_isAll_2_s  (n : Nat) (M : Mem) (l0 : Nat) (l1 : Nat) (l2 : Int32) : gX12_isAll_2  (n + 1) M l0 l1 l2 = (ck (isS l1) <| bd (fJ0_length_8abf5 M l1) fun x2 M2 => if x2 ≤ l2 then (some ((1 : Int32), M2)) else (ck (isS l1) <| bd (fJ0_charAt_5068e M2 l1 l2) fun x4 M4 => ck (isK M4 l0 12) <| bd (fX12_is M4 l0 x4) fun x6 M6 => if x6 = 0 then (some ((0 : Int32), M6)) else ((gX12_isAll_2 n) M6 l0 l1 (l2 + (1 : Int32))))) := rfl
set_option maxRecDepth 100000 in
set_option maxHeartbeats 4000000 in
theorem wX12_isAll_2 {z : Zx} {fx : Fx} {al : Bool} {r : Nat} {N : Mem} {xr : Int32} (hz : Zok z fx al yX12_isAll.cls yX12_isAll.name cX12_isAll (some .boolean) 3 (r + 5) 0 0 (some (.int xr)) N)    : ∀ {n : Nat} {M : Mem} {l0 : Nat} {l1 : Nat} {l2 : Int32}, gX12_isAll_2  n M l0 l1 l2 = some (xr, N) → V z 2 [some (.ref l0), some (.retAddr l1), some (.int l2)] [] M 0 0 := by
  intro n
  induction n with
  | zero => intro M l0 l1 l2 h; cases h
  | succ n ih =>
    intro M l0 l1 l2 h
    replace h := (gX12_isAll_2_s  n M l0 l1 l2).symm.trans h
    refine v_iload_n hz rfl rfl dX12_isAll_2 ?_
    refine v_xload_n hz rfl rfl dX12_isAll_3 ?_
    obtain ⟨g1, h⟩ := ck_inv h
    obtain ⟨x2, M2, e2, h⟩ := bd_inv h
    refine v_callVX hz (As := []) vl_X12_146 (tJ0_length_8abf5 (r + 3) e2) g1 rfl rfl rfl (Nat.le_of_ble_eq_true rfl) ⟨by decide, by decide⟩ dX12_isAll_4 ?_
    show V z 7 [some (.ref l0), some (.retAddr l1), some (.int l2)] [.int x2, .int l2] M2 0 0
    refine v_icmp_ge (tgt := 30) hz dX12_isAll_7 (by decide) (fun hc => ?_) (fun hc => ?_)
    · replace h := (if_pos hc).symm.trans h
      refine v_iconst hz (v := (1 : Int32)) (by decide) dX12_isAll_30 ?_
      obtain ⟨rfl, rfl⟩ := sp_inv h
      exact v_zret hz (Or.inr rfl) dX12_isAll_31 (by decide) (by decide)
    · replace h := (if_neg hc).symm.trans h
      refine v_aload_n hz rfl rfl dX12_isAll_10 ?_
      refine v_xload_n hz rfl rfl dX12_isAll_11 ?_
      refine v_iload_n hz rfl rfl dX12_isAll_12 ?_
      obtain ⟨g3, h⟩ := ck_inv h
      obtain ⟨x4, M4, e4, h⟩ := bd_inv h
      refine v_callVX hz (As := [.int l2]) vl_X12_151 (tJ0_charAt_5068e (r + 0) e4) g3 rfl rfl rfl (Nat.le_of_ble_eq_true rfl) ⟨by decide, by decide⟩ dX12_isAll_13 ?_
      show V z 16 [some (.ref l0), some (.retAddr l1), some (.int l2)] [.int x4, .ref l0] M4 0 0
      obtain ⟨ck5, h⟩ := ck_inv h
      obtain ⟨ka5, kb5⟩ := isK_of ck5
      obtain ⟨x6, M6, e6, h⟩ := bd_inv h
      refine v_callV hz (As := [.int x4]) vl_X12_155 (tX12_is (r + 4) e6) rfl (by decide) ka5 kb5 rfl rfl rfl (Nat.le_of_ble_eq_true rfl) ⟨by decide, by decide⟩ dX12_isAll_16 ?_
      show V z 19 [some (.ref l0), some (.retAddr l1), some (.int l2)] [.int x6] M6 0 0
      refine v_if_ne (tgt := 24) hz dX12_isAll_19 (by decide) (fun hc => ?_) (fun hc => ?_)
      · replace h := (if_neg hc).symm.trans h
        refine v_iinc hz (v := (l2 + (1 : Int32))) (lw := [some (.ref l0), some (.retAddr l1), some (.int (l2 + (1 : Int32)))]) rfl (congrArg (fun q => l2 + q) (show Int32.ofInt (1) = (1 : Int32) by decide)) rfl rfl dX12_isAll_24 ?_
        refine v_goto (tgt := 2) hz dX12_isAll_27 (by decide) ?_
        exact v_weak (lvle_s (lvle_s (lvle_s lvle_0))) (ih h)
      · replace h := (if_pos hc).symm.trans h
        refine v_iconst hz (v := (0 : Int32)) (by decide) dX12_isAll_22 ?_
        obtain ⟨rfl, rfl⟩ := sp_inv h
        exact v_zret hz (Or.inl rfl) dX12_isAll_23 (by decide) (by decide)
set_option maxRecDepth 100000 in
set_option maxHeartbeats 4000000 in
theorem tX12_isAll (r : Nat) {fx : Fx} {al : Bool} {M N : Mem} {a0 : Nat} {a1 : Nat} {xr : Int32}  (h : fX12_isAll M a0 a1 = some (xr, N)) : Ct fx yX12_isAll cX12_isAll 3 (some .boolean) (r + 5) 0 0 al [.ref a0, .retAddr a1] M (some (.int xr)) N := by
  refine ct_of (lv := [some (.ref a0), some (.retAddr a1), none]) (by decide) (Nat.le_of_ble_eq_true rfl) rfl rfl (fun z hz => ?_)
  unfold fX12_isAll at h
  refine v_iconst hz (v := (0 : Int32)) (by decide) dX12_isAll_0 ?_
  refine v_istore_n hz (lw := [some (.ref a0), some (.retAddr a1), some (.int (0 : Int32))]) rfl (Nat.le_of_ble_eq_true rfl) rfl rfl dX12_isAll_1 ?_
  exact v_weak (lvle_s (lvle_s (lvle_s lvle_0))) (wX12_isAll_2 hz   h)
noncomputable def fX12_codes (M : Mem) (a0 : Nat) (a1 : Int32) : Option (Int32 × Mem) :=
  ck (isK M a0 12) <| rb (mR M a0 21) fun b2 => ck (isK M b2 14) <| ck (inb (mI M a0 22) (mG M b2)) <| some ((1 : Int32), (stI (stI M a0 22 ((mI M a0 22) + (1 : Int32))) b2 (mI M a0 22).toNatClampNeg a1))
set_option maxRecDepth 100000 in
set_option maxHeartbeats 4000000 in
theorem tX12_codes (r : Nat) {fx : Fx} {al : Bool} {M N : Mem} {a0 : Nat} {a1 : Int32} {xr : Int32}  (h : fX12_codes M a0 a1 = some (xr, N)) : Ct fx yX12_codes cX12_codes 2 (some .boolean) (r + 0) 0 0 al [.ref a0, .int a1] M (some (.int xr)) N := by
  refine ct_of (lv := [some (.ref a0), some (.int a1)]) (by decide) (Nat.le_of_ble_eq_true rfl) rfl rfl (fun z hz => ?_)
  unfold fX12_codes at h
  refine v_aload_n hz rfl rfl dX12_codes_0 ?_
  obtain ⟨ck1, h⟩ := ck_inv h
  obtain ⟨ka1, kb1⟩ := isK_of ck1
  obtain ⟨b2, r2, h⟩ := rb_inv h
  refine v_getR hz fl_X12_48 rfl dX12_codes_1 ka1 kb1 r2 ?_
  refine v_aload_n hz rfl rfl dX12_codes_4 ?_
  refine v_dup hz rfl dX12_codes_5 ?_
  refine v_getI hz fl_X12_158 rfl dX12_codes_6 ka1 kb1 ?_
  refine v_dup_x1 hz rfl rfl dX12_codes_9 ?_
  refine v_iconst hz (v := (1 : Int32)) (by decide) dX12_codes_10 ?_
  refine v_iadd hz dX12_codes_11 ?_
  refine v_putI hz fl_X12_158 ft_12_22 (by decide) rfl rfl rfl dX12_codes_12 ka1 kb1 ?_
  refine v_iload_n hz rfl rfl dX12_codes_15 ?_
  obtain ⟨ck3, h⟩ := ck_inv h
  obtain ⟨ka3, kb3⟩ := isK_of ck3
  obtain ⟨g4, h⟩ := ck_inv h
  refine v_iastore hz dX12_codes_16 ka3 kb3 g4 ?_
  refine v_iconst hz (v := (1 : Int32)) (by decide) dX12_codes_17 ?_
  obtain ⟨rfl, rfl⟩ := sp_inv h
  exact v_zret hz (Or.inr rfl) dX12_codes_18 (by decide) (by decide)
noncomputable def gX12_isTest_99  (M : Mem) (l0 : Nat) (l1 : Int32) (s0 : Int32) : Option (Int32 × Mem) :=
  if 0 ≤ s0 then (ck (isK M l0 12) <| bd (fX12_isNumber (stI M l0 10 ((mI M l0 10) + (1 : Int32))) l0) fun x4 M4 => if x4 = 0 then (some ((0 : Int32), M4)) else (ck (isK M4 l0 12) <| bd (fX12_codes M4 l0 ((((3 : Int32) + ((300 : Int32) * l1)) + ((100 : Int32) * s0)) + (mI M4 l0 11))) fun x6 M6 => if x6 = 0 then (some ((0 : Int32), M6)) else (some ((1 : Int32), M6)))) else (some ((0 : Int32), M))
noncomputable def gX12_isTest_98  (M : Mem) (l0 : Nat) (l1 : Int32) : Option (Int32 × Mem) :=
  gX12_isTest_99 M l0 l1 (-1 : Int32)
noncomputable def gX12_isTest_41  (M : Mem) (l0 : Nat) (s0 : Int32) : Option (Int32 × Mem) :=
  if 0 ≤ s0 then (ck (isK M l0 12) <| if (mI (stI M l0 10 ((mI M l0 10) + (1 : Int32))) l0 8) ≤ (mI (stI M l0 10 ((mI M l0 10) + (1 : Int32))) l0 10) then (gX12_isTest_98 (stI M l0 10 ((mI M l0 10) + (1 : Int32))) l0 s0) else (rb (mR (stI M l0 10 ((mI M l0 10) + (1 : Int32))) l0 9) fun b7 => ck (isK (stI M l0 10 ((mI M l0 10) + (1 : Int32))) b7 14) <| ck (inb (mI (stI M l0 10 ((mI M l0 10) + (1 : Int32))) l0 10) (mG (stI M l0 10 ((mI M l0 10) + (1 : Int32))) b7)) <| if (mI (stI M l0 10 ((mI M l0 10) + (1 : Int32))) b7 (mI (stI M l0 10 ((mI M l0 10) + (1 : Int32))) l0 10).toNatClampNeg) ≤ 0 then (gX12_isTest_98 (stI M l0 10 ((mI M l0 10) + (1 : Int32))) l0 s0) else (ck (inb (mI (stI M l0 10 ((mI M l0 10) + (1 : Int32))) l0 10) (mG (stI M l0 10 ((mI M l0 10) + (1 : Int32))) b7)) <| ck (isS 6) <| bd (fJ0_indexOf_0f7a4 (stI M l0 10 ((mI M l0 10) + (1 : Int32))) 6 (mI (stI M l0 10 ((mI M l0 10) + (1 : Int32))) b7 (mI (stI M l0 10 ((mI M l0 10) + (1 : Int32))) l0 10).toNatClampNeg)) fun x12 M12 => gX12_isTest_99 M12 l0 s0 x12))) else (some ((0 : Int32), M))
noncomputable def gX12_isTest_40  (M : Mem) (l0 : Nat) : Option (Int32 × Mem) :=
  gX12_isTest_41 M l0 (-1 : Int32)
noncomputable def fX12_isTest (M : Mem) (a0 : Nat) : Option (Int32 × Mem) :=
  ck (isK M a0 12) <| if (mI M a0 8) ≤ (mI M a0 10) then (gX12_isTest_40 M a0) else (rb (mR M a0 9) fun b13 => ck (isK M b13 14) <| ck (inb (mI M a0 10) (mG M b13)) <| if (mI M b13 (mI M a0 10).toNatClampNeg) ≤ 0 then (gX12_isTest_40 M a0) else (ck (inb (mI M a0 10) (mG M b13)) <| ck (isS 5) <| bd (fJ0_indexOf_0f7a4 M 5 (mI M b13 (mI M a0 10).toNatClampNeg)) fun x18 M18 => gX12_isTest_41 M18 a0 x18))
set_option maxRecDepth 100000 in
set_option maxHeartbeats 4000000 in
theorem wX12_isTest_99 {z : Zx} {fx : Fx} {al : Bool} {r : Nat} {N : Mem} {xr : Int32} (hz : Zok z fx al yX12_isTest.cls yX12_isTest.name cX12_isTest (some .boolean) 3 (r + 4) 0 0 (some (.int xr)) N)    {M : Mem} {l0 : Nat} {l1 : Int32} {s0 : Int32} (h : gX12_isTest_99  M l0 l1 s0 = some (xr, N)) : V z 99 [some (.ref l0), some (.int l1), none] [.int s0] M 0 0 := by
  unfold gX12_isTest_99 at h
  refine v_istore_n hz (lw := [some (.ref l0), some (.int l1), some (.int s0)]) rfl (Nat.le_of_ble_eq_true rfl) rfl rfl dX12_isTest_99 ?_
  refine v_iload_n hz rfl rfl dX12_isTest_100 ?_
  refine v_if_ge (tgt := 106) hz dX12_isTest_101 (by decide) (fun hc => ?_) (fun hc => ?_)
  · replace h := (if_pos hc).symm.trans h
    refine v_aload_n hz rfl rfl dX12_isTest_106 ?_
    refine v_dup hz rfl dX12_isTest_107 ?_
    obtain ⟨ck3, h⟩ := ck_inv h
    obtain ⟨ka3, kb3⟩ := isK_of ck3
    refine v_getI hz fl_X12_133 rfl dX12_isTest_108 ka3 kb3 ?_
    refine v_iconst hz (v := (1 : Int32)) (by decide) dX12_isTest_111 ?_
    refine v_iadd hz dX12_isTest_112 ?_
    refine v_putI hz fl_X12_133 ft_12_10 (by decide) rfl rfl rfl dX12_isTest_113 ka3 kb3 ?_
    refine v_aload_n hz rfl rfl dX12_isTest_116 ?_
    obtain ⟨x4, M4, e4, h⟩ := bd_inv h
    refine v_callV hz (As := []) vl_X12_168 (tX12_isNumber (r + 2) e4) rfl (by decide) ka3 kb3 rfl rfl rfl (Nat.le_of_ble_eq_true rfl) ⟨by decide, by decide⟩ dX12_isTest_117 ?_
    show V z 120 [some (.ref l0), some (.int l1), some (.int s0)] [.int x4] M4 0 0
    refine v_if_eq (tgt := 151) hz dX12_isTest_120 (by decide) (fun hc => ?_) (fun hc => ?_)
    · replace h := (if_pos hc).symm.trans h
      refine v_iconst hz (v := (0 : Int32)) (by decide) dX12_isTest_151 ?_
      obtain ⟨rfl, rfl⟩ := sp_inv h
      exact v_zret hz (Or.inl rfl) dX12_isTest_152 (by decide) (by decide)
    · replace h := (if_neg hc).symm.trans h
      refine v_aload_n hz rfl rfl dX12_isTest_123 ?_
      refine v_iconst hz (v := (3 : Int32)) (by decide) dX12_isTest_124 ?_
      refine v_sipush hz (v := (300 : Int32)) (by decide) dX12_isTest_125 ?_
      refine v_iload_n hz rfl rfl dX12_isTest_128 ?_
      refine v_imul hz dX12_isTest_129 ?_
      refine v_iadd hz dX12_isTest_130 ?_
      refine v_bipush hz (v := (100 : Int32)) (by decide) dX12_isTest_131 ?_
      refine v_iload_n hz rfl rfl dX12_isTest_133 ?_
      refine v_imul hz dX12_isTest_134 ?_
      refine v_iadd hz dX12_isTest_135 ?_
      refine v_aload_n hz rfl rfl dX12_isTest_136 ?_
      obtain ⟨ck5, h⟩ := ck_inv h
      obtain ⟨ka5, kb5⟩ := isK_of ck5
      refine v_getI hz fl_X12_136 rfl dX12_isTest_137 ka5 kb5 ?_
      refine v_iadd hz dX12_isTest_140 ?_
      obtain ⟨x6, M6, e6, h⟩ := bd_inv h
      refine v_callV hz (As := [.int ((((3 : Int32) + ((300 : Int32) * l1)) + ((100 : Int32) * s0)) + (mI M4 l0 11))]) vl_X12_171 (tX12_codes (r + 3) e6) rfl (by decide) ka5 kb5 rfl rfl rfl (Nat.le_of_ble_eq_true rfl) ⟨by decide, by decide⟩ dX12_isTest_141 ?_
      show V z 144 [some (.ref l0), some (.int l1), some (.int s0)] [.int x6] M6 0 0
      refine v_if_eq (tgt := 151) hz dX12_isTest_144 (by decide) (fun hc => ?_) (fun hc => ?_)
      · replace h := (if_pos hc).symm.trans h
        refine v_iconst hz (v := (0 : Int32)) (by decide) dX12_isTest_151 ?_
        obtain ⟨rfl, rfl⟩ := sp_inv h
        exact v_zret hz (Or.inl rfl) dX12_isTest_152 (by decide) (by decide)
      · replace h := (if_neg hc).symm.trans h
        refine v_iconst hz (v := (1 : Int32)) (by decide) dX12_isTest_147 ?_
        refine v_goto (tgt := 152) hz dX12_isTest_148 (by decide) ?_
        obtain ⟨rfl, rfl⟩ := sp_inv h
        exact v_zret hz (Or.inr rfl) dX12_isTest_152 (by decide) (by decide)
  · replace h := (if_neg hc).symm.trans h
    refine v_iconst hz (v := (0 : Int32)) (by decide) dX12_isTest_104 ?_
    obtain ⟨rfl, rfl⟩ := sp_inv h
    exact v_zret hz (Or.inl rfl) dX12_isTest_105 (by decide) (by decide)
set_option maxRecDepth 100000 in
set_option maxHeartbeats 4000000 in
theorem wX12_isTest_98 {z : Zx} {fx : Fx} {al : Bool} {r : Nat} {N : Mem} {xr : Int32} (hz : Zok z fx al yX12_isTest.cls yX12_isTest.name cX12_isTest (some .boolean) 3 (r + 4) 0 0 (some (.int xr)) N)    {M : Mem} {l0 : Nat} {l1 : Int32} (h : gX12_isTest_98  M l0 l1 = some (xr, N)) : V z 98 [some (.ref l0), some (.int l1), none] [] M 0 0 := by
  unfold gX12_isTest_98 at h
  refine v_iconst hz (v := (-1 : Int32)) (by decide) dX12_isTest_98 ?_
  exact v_weak (lvle_s (lvle_s (lvle_n lvle_0))) (wX12_isTest_99 hz   h)
set_option maxRecDepth 100000 in
set_option maxHeartbeats 4000000 in
theorem wX12_isTest_41 {z : Zx} {fx : Fx} {al : Bool} {r : Nat} {N : Mem} {xr : Int32} (hz : Zok z fx al yX12_isTest.cls yX12_isTest.name cX12_isTest (some .boolean) 3 (r + 4) 0 0 (some (.int xr)) N)    {M : Mem} {l0 : Nat} {s0 : Int32} (h : gX12_isTest_41  M l0 s0 = some (xr, N)) : V z 41 [some (.ref l0), none, none] [.int s0] M 0 0 := by
  unfold gX12_isTest_41 at h
  refine v_istore_n hz (lw := [some (.ref l0), some (.int s0), none]) rfl (Nat.le_of_ble_eq_true rfl) rfl rfl dX12_isTest_41 ?_
  refine v_iload_n hz rfl rfl dX12_isTest_42 ?_
  refine v_if_ge (tgt := 48) hz dX12_isTest_43 (by decide) (fun hc => ?_) (fun hc => ?_)
  · replace h := (if_pos hc).symm.trans h
    refine v_aload_n hz rfl rfl dX12_isTest_48 ?_
    refine v_dup hz rfl dX12_isTest_49 ?_
    obtain ⟨ck2, h⟩ := ck_inv h
    obtain ⟨ka2, kb2⟩ := isK_of ck2
    refine v_getI hz fl_X12_133 rfl dX12_isTest_50 ka2 kb2 ?_
    refine v_iconst hz (v := (1 : Int32)) (by decide) dX12_isTest_53 ?_
    refine v_iadd hz dX12_isTest_54 ?_
    refine v_putI hz fl_X12_133 ft_12_10 (by decide) rfl rfl rfl dX12_isTest_55 ka2 kb2 ?_
    refine v_aload_n hz rfl rfl dX12_isTest_58 ?_
    refine v_getI hz fl_X12_133 rfl dX12_isTest_59 ka2 kb2 ?_
    refine v_aload_n hz rfl rfl dX12_isTest_62 ?_
    refine v_getI hz fl_X12_130 rfl dX12_isTest_63 ka2 kb2 ?_
    refine v_icmp_ge (tgt := 98) hz dX12_isTest_66 (by decide) (fun hc => ?_) (fun hc => ?_)
    · replace h := (if_pos hc).symm.trans h
      exact v_weak (lvle_s (lvle_s (lvle_n lvle_0))) (wX12_isTest_98 hz   h)
    · replace h := (if_neg hc).symm.trans h
      refine v_aload_n hz rfl rfl dX12_isTest_69 ?_
      obtain ⟨b7, r7, h⟩ := rb_inv h
      refine v_getR hz fl_X12_30 rfl dX12_isTest_70 ka2 kb2 r7 ?_
      refine v_aload_n hz rfl rfl dX12_isTest_73 ?_
      refine v_getI hz fl_X12_133 rfl dX12_isTest_74 ka2 kb2 ?_
      obtain ⟨ck8, h⟩ := ck_inv h
      obtain ⟨ka8, kb8⟩ := isK_of ck8
      obtain ⟨g9, h⟩ := ck_inv h
      refine v_iaload hz dX12_isTest_77 ka8 kb8 g9 ?_
      refine v_if_le (tgt := 98) hz dX12_isTest_78 (by decide) (fun hc => ?_) (fun hc => ?_)
      · replace h := (if_pos hc).symm.trans h
        exact v_weak (lvle_s (lvle_s (lvle_n lvle_0))) (wX12_isTest_98 hz   h)
      · replace h := (if_neg hc).symm.trans h
        refine v_ldcS hz (tx := "<=>") (j := 6) (by decide +kernel) dX12_isTest_81 ?_
        refine v_aload_n hz rfl rfl dX12_isTest_83 ?_
        refine v_getR hz fl_X12_30 rfl dX12_isTest_84 ka2 kb2 r7 ?_
        refine v_aload_n hz rfl rfl dX12_isTest_87 ?_
        refine v_getI hz fl_X12_133 rfl dX12_isTest_88 ka2 kb2 ?_
        obtain ⟨g10, h⟩ := ck_inv h
        refine v_iaload hz dX12_isTest_91 ka8 kb8 g10 ?_
        obtain ⟨g11, h⟩ := ck_inv h
        obtain ⟨x12, M12, e12, h⟩ := bd_inv h
        refine v_callVX hz (As := [.int (mI (stI M l0 10 ((mI M l0 10) + (1 : Int32))) b7 (mI (stI M l0 10 ((mI M l0 10) + (1 : Int32))) l0 10).toNatClampNeg)]) vl_X12_163 (tJ0_indexOf_0f7a4 (r + 0) e12) g11 rfl rfl rfl (Nat.le_of_ble_eq_true rfl) ⟨by decide, by decide⟩ dX12_isTest_92 ?_
        show V z 95 [some (.ref l0), some (.int s0), none] [.int x12] M12 0 0
        refine v_goto (tgt := 99) hz dX12_isTest_95 (by decide) ?_
        exact v_weak (lvle_s (lvle_s (lvle_n lvle_0))) (wX12_isTest_99 hz   h)
  · replace h := (if_neg hc).symm.trans h
    refine v_iconst hz (v := (0 : Int32)) (by decide) dX12_isTest_46 ?_
    obtain ⟨rfl, rfl⟩ := sp_inv h
    exact v_zret hz (Or.inl rfl) dX12_isTest_47 (by decide) (by decide)
set_option maxRecDepth 100000 in
set_option maxHeartbeats 4000000 in
theorem wX12_isTest_40 {z : Zx} {fx : Fx} {al : Bool} {r : Nat} {N : Mem} {xr : Int32} (hz : Zok z fx al yX12_isTest.cls yX12_isTest.name cX12_isTest (some .boolean) 3 (r + 4) 0 0 (some (.int xr)) N)    {M : Mem} {l0 : Nat} (h : gX12_isTest_40  M l0 = some (xr, N)) : V z 40 [some (.ref l0), none, none] [] M 0 0 := by
  unfold gX12_isTest_40 at h
  refine v_iconst hz (v := (-1 : Int32)) (by decide) dX12_isTest_40 ?_
  exact v_weak (lvle_s (lvle_n (lvle_n lvle_0))) (wX12_isTest_41 hz   h)
set_option maxRecDepth 100000 in
set_option maxHeartbeats 4000000 in
theorem tX12_isTest (r : Nat) {fx : Fx} {al : Bool} {M N : Mem} {a0 : Nat} {xr : Int32}  (h : fX12_isTest M a0 = some (xr, N)) : Ct fx yX12_isTest cX12_isTest 3 (some .boolean) (r + 4) 0 0 al [.ref a0] M (some (.int xr)) N := by
  refine ct_of (lv := [some (.ref a0), none, none]) (by decide) (Nat.le_of_ble_eq_true rfl) rfl rfl (fun z hz => ?_)
  unfold fX12_isTest at h
  refine v_aload_n hz rfl rfl dX12_isTest_0 ?_
  obtain ⟨ck1, h⟩ := ck_inv h
  obtain ⟨ka1, kb1⟩ := isK_of ck1
  refine v_getI hz fl_X12_133 rfl dX12_isTest_1 ka1 kb1 ?_
  refine v_aload_n hz rfl rfl dX12_isTest_4 ?_
  refine v_getI hz fl_X12_130 rfl dX12_isTest_5 ka1 kb1 ?_
  refine v_icmp_ge (tgt := 40) hz dX12_isTest_8 (by decide) (fun hc => ?_) (fun hc => ?_)
  · replace h := (if_pos hc).symm.trans h
    exact v_weak (lvle_s (lvle_n (lvle_n lvle_0))) (wX12_isTest_40 hz   h)
  · replace h := (if_neg hc).symm.trans h
    refine v_aload_n hz rfl rfl dX12_isTest_11 ?_
    obtain ⟨b13, r13, h⟩ := rb_inv h
    refine v_getR hz fl_X12_30 rfl dX12_isTest_12 ka1 kb1 r13 ?_
    refine v_aload_n hz rfl rfl dX12_isTest_15 ?_
    refine v_getI hz fl_X12_133 rfl dX12_isTest_16 ka1 kb1 ?_
    obtain ⟨ck14, h⟩ := ck_inv h
    obtain ⟨ka14, kb14⟩ := isK_of ck14
    obtain ⟨g15, h⟩ := ck_inv h
    refine v_iaload hz dX12_isTest_19 ka14 kb14 g15 ?_
    refine v_if_le (tgt := 40) hz dX12_isTest_20 (by decide) (fun hc => ?_) (fun hc => ?_)
    · replace h := (if_pos hc).symm.trans h
      exact v_weak (lvle_s (lvle_n (lvle_n lvle_0))) (wX12_isTest_40 hz   h)
    · replace h := (if_neg hc).symm.trans h
      refine v_ldcS hz (tx := "pkvcwh") (j := 5) (by decide +kernel) dX12_isTest_23 ?_
      refine v_aload_n hz rfl rfl dX12_isTest_25 ?_
      refine v_getR hz fl_X12_30 rfl dX12_isTest_26 ka1 kb1 r13 ?_
      refine v_aload_n hz rfl rfl dX12_isTest_29 ?_
      refine v_getI hz fl_X12_133 rfl dX12_isTest_30 ka1 kb1 ?_
      obtain ⟨g16, h⟩ := ck_inv h
      refine v_iaload hz dX12_isTest_33 ka14 kb14 g16 ?_
      obtain ⟨g17, h⟩ := ck_inv h
      obtain ⟨x18, M18, e18, h⟩ := bd_inv h
      refine v_callVX hz (As := [.int (mI M b13 (mI M a0 10).toNatClampNeg)]) vl_X12_163 (tJ0_indexOf_0f7a4 (r + 0) e18) g17 rfl rfl rfl (Nat.le_of_ble_eq_true rfl) ⟨by decide, by decide⟩ dX12_isTest_34 ?_
      show V z 37 [some (.ref a0), none, none] [.int x18] M18 0 0
      refine v_goto (tgt := 41) hz dX12_isTest_37 (by decide) ?_
      exact v_weak (lvle_s (lvle_n (lvle_n lvle_0))) (wX12_isTest_41 hz   h)
noncomputable def fX12_isOpened (M : Mem) (a0 : Nat) (a1 : Int32) : Option (Int32 × Mem) :=
  ck (isK M a0 12) <| if (mI M a0 13) = (4 : Int32) then (some ((0 : Int32), M)) else (bd (fX12_is M a0 a1) fun x2 M2 => if x2 = 0 then (some ((0 : Int32), M2)) else (ck (isK M2 a0 12) <| some ((1 : Int32), (stI M2 a0 13 ((mI M2 a0 13) + (1 : Int32))))))
set_option maxRecDepth 100000 in
set_option maxHeartbeats 4000000 in
theorem tX12_isOpened (r : Nat) {fx : Fx} {al : Bool} {M N : Mem} {a0 : Nat} {a1 : Int32} {xr : Int32}  (h : fX12_isOpened M a0 a1 = some (xr, N)) : Ct fx yX12_isOpened cX12_isOpened 2 (some .boolean) (r + 1) 0 0 al [.ref a0, .int a1] M (some (.int xr)) N := by
  refine ct_of (lv := [some (.ref a0), some (.int a1)]) (by decide) (Nat.le_of_ble_eq_true rfl) rfl rfl (fun z hz => ?_)
  unfold fX12_isOpened at h
  refine v_aload_n hz rfl rfl dX12_isOpened_0 ?_
  obtain ⟨ck1, h⟩ := ck_inv h
  obtain ⟨ka1, kb1⟩ := isK_of ck1
  refine v_getI hz fl_X12_174 rfl dX12_isOpened_1 ka1 kb1 ?_
  refine v_iconst hz (v := (4 : Int32)) (by decide) dX12_isOpened_4 ?_
  refine v_icmp_eq (tgt := 16) hz dX12_isOpened_5 (by decide) (fun hc => ?_) (fun hc => ?_)
  · replace h := (if_pos hc).symm.trans h
    refine v_iconst hz (v := (0 : Int32)) (by decide) dX12_isOpened_16 ?_
    obtain ⟨rfl, rfl⟩ := sp_inv h
    exact v_zret hz (Or.inl rfl) dX12_isOpened_17 (by decide) (by decide)
  · replace h := (if_neg hc).symm.trans h
    refine v_aload_n hz rfl rfl dX12_isOpened_8 ?_
    refine v_iload_n hz rfl rfl dX12_isOpened_9 ?_
    obtain ⟨x2, M2, e2, h⟩ := bd_inv h
    refine v_callV hz (As := [.int a1]) vl_X12_155 (tX12_is (r + 0) e2) rfl (by decide) ka1 kb1 rfl rfl rfl (Nat.le_of_ble_eq_true rfl) ⟨by decide, by decide⟩ dX12_isOpened_10 ?_
    show V z 13 [some (.ref a0), some (.int a1)] [.int x2] M2 0 0
    refine v_if_ne (tgt := 18) hz dX12_isOpened_13 (by decide) (fun hc => ?_) (fun hc => ?_)
    · replace h := (if_neg hc).symm.trans h
      refine v_aload_n hz rfl rfl dX12_isOpened_18 ?_
      refine v_dup hz rfl dX12_isOpened_19 ?_
      obtain ⟨ck3, h⟩ := ck_inv h
      obtain ⟨ka3, kb3⟩ := isK_of ck3
      refine v_getI hz fl_X12_174 rfl dX12_isOpened_20 ka3 kb3 ?_
      refine v_iconst hz (v := (1 : Int32)) (by decide) dX12_isOpened_23 ?_
      refine v_iadd hz dX12_isOpened_24 ?_
      refine v_putI hz fl_X12_174 ft_12_13 (by decide) rfl rfl rfl dX12_isOpened_25 ka3 kb3 ?_
      refine v_iconst hz (v := (1 : Int32)) (by decide) dX12_isOpened_28 ?_
      obtain ⟨rfl, rfl⟩ := sp_inv h
      exact v_zret hz (Or.inr rfl) dX12_isOpened_29 (by decide) (by decide)
    · replace h := (if_pos hc).symm.trans h
      refine v_iconst hz (v := (0 : Int32)) (by decide) dX12_isOpened_16 ?_
      obtain ⟨rfl, rfl⟩ := sp_inv h
      exact v_zret hz (Or.inl rfl) dX12_isOpened_17 (by decide) (by decide)
