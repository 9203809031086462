noncomputable def gX11_odds_76 (K43 : Mem → Nat → Int32 → Int32 → Int32 → Int32 → Int32 → Option (Int64 × Mem)) (M : Mem) (l0 : Nat) (l1 : Int32) (l2 : Int32) (l3 : Int32) (l4 : Int32) (l5 : Int32) : Option (Int64 × Mem) :=
  ck (isK M l0 11) <| rb (mR M l0 1) fun b20 => ck (isK M b20 3) <| rb (mR M b20 3) fun b22 => rb (mR M l0 0) fun b23 => ck (isK M b23 3) <| rb (mR M b23 3) fun b25 => ck (isK M b25 14) <| ck (inb l5 (mG M b25)) <| ck (isK M b22 14) <| ck (inb l5 (mG M b22)) <| K43 (stI M b22 l5.toNatClampNeg (mI M b25 l5.toNatClampNeg)) l0 l1 l2 l3 l4 (l5 + (1 : Int32))
noncomputable def gX11_odds_43  : Nat → Mem → Nat → Int32 → Int32 → Int32 → Int32 → Int32 → Option (Int64 × Mem)
  | 0, _, _, _, _, _, _, _ => none
  | n + 1, M, l0, l1, l2, l3, l4, l5 => if (25 : Int32) ≤ l5 then (bd (fX11_shareOfCells M l4 l3) fun x10 M10 => some (x10, M10)) else (ck (isK M l0 11) <| rb (mR M l0 1) fun b12 => ck (isK M b12 3) <| bd (fX3_tread M b12 l5 (10 : Int32)) fun x14 M14 => ck (isK M14 l0 11) <| rb (mR M14 l0 1) fun b16 => ck (isK M14 b16 3) <| bd (fX3_sends M14 b16 l1) fun x18 M18 => if x18 = l2 then (gX11_odds_76 (gX11_odds_43 n) M18 l0 l1 l2 l3 (l4 + (1 : Int32)) l5) else (gX11_odds_76 (gX11_odds_43 n) M18 l0 l1 l2 l3 l4 l5))
noncomputable def fX11_odds (M : Mem) (a0 : Nat) (a1 : Int32) (a2 : Int32) (a3 : Int32) : Option (Int64 × Mem) :=
  ck (isK M a0 11) <| bd (fX11_isPerson M a0 a1) fun x2 M2 => if x2 = 0 then (some ((-9223372036854775808 : Int64), M2)) else (bd (fX11_isCell M2 a2) fun x3 M3 => if x3 = 0 then (some ((-9223372036854775808 : Int64), M3)) else (bd (fX11_isFractionPart M3 a3) fun x4 M4 => if x4 = 0 then (some ((-9223372036854775808 : Int64), M4)) else (ck (isK M4 a0 11) <| rb (mR M4 a0 1) fun b6 => rb (mR M4 a0 0) fun b7 => ck (isK M4 b6 3) <| bd (fX3_take M4 b6 b7) fun x9 M9 => gX11_odds_43 FU M9 a0 a1 a2 a3 (0 : Int32) (0 : Int32))))
set_option maxRecDepth 100000 in
set_option maxHeartbeats 4000000 in
theorem wX11_odds_76 {z : Zx} {fx : Fx} {al : Bool} {r : Nat} {N : Mem} {xr : Int64} (hz : Zok z fx al yX11_odds.cls yX11_odds.name cX11_odds (some .long) 6 (r + 4) 0 0 (some (.long xr)) N)  {K43 : Mem → Nat → Int32 → Int32 → Int32 → Int32 → Int32 → Option (Int64 × Mem)} (hK43 : ∀ {M : Mem} {l0 : Nat} {l1 : Int32} {l2 : Int32} {l3 : Int32} {l4 : Int32} {l5 : Int32}, K43 M l0 l1 l2 l3 l4 l5 = some (xr, N) → V z 43 [some (.ref l0), some (.int l1), some (.int l2), some (.int l3), some (.int l4), some (.int l5)] [] M 0 0) {M : Mem} {l0 : Nat} {l1 : Int32} {l2 : Int32} {l3 : Int32} {l4 : Int32} {l5 : Int32} (h : gX11_odds_76 K43 M l0 l1 l2 l3 l4 l5 = some (xr, N)) : V z 76 [some (.ref l0), some (.int l1), some (.int l2), some (.int l3), some (.int l4), some (.int l5)] [] M 0 0 := by
  unfold gX11_odds_76 at h
  refine v_aload_n hz rfl rfl dX11_odds_76 ?_
  obtain ⟨ck19, h⟩ := ck_inv h
  obtain ⟨ka19, kb19⟩ := isK_of ck19
  obtain ⟨b20, r20, h⟩ := rb_inv h
  refine v_getR hz fl_X11_94 rfl dX11_odds_77 ka19 kb19 r20 ?_
  obtain ⟨ck21, h⟩ := ck_inv h
  obtain ⟨ka21, kb21⟩ := isK_of ck21
  obtain ⟨b22, r22, h⟩ := rb_inv h
  refine v_getR hz fl_X11_143 rfl dX11_odds_80 ka21 kb21 r22 ?_
  refine v_iload hz rfl dX11_odds_83 ?_
  refine v_aload_n hz rfl rfl dX11_odds_85 ?_
  obtain ⟨b23, r23, h⟩ := rb_inv h
  refine v_getR hz fl_X11_90 rfl dX11_odds_86 ka19 kb19 r23 ?_
  obtain ⟨ck24, h⟩ := ck_inv h
  obtain ⟨ka24, kb24⟩ := isK_of ck24
  obtain ⟨b25, r25, h⟩ := rb_inv h
  refine v_getR hz fl_X11_143 rfl dX11_odds_89 ka24 kb24 r25 ?_
  refine v_iload hz rfl dX11_odds_92 ?_
  obtain ⟨ck26, h⟩ := ck_inv h
  obtain ⟨ka26, kb26⟩ := isK_of ck26
  obtain ⟨g27, h⟩ := ck_inv h
  refine v_iaload hz dX11_odds_94 ka26 kb26 g27 ?_
  obtain ⟨ck28, h⟩ := ck_inv h
  obtain ⟨ka28, kb28⟩ := isK_of ck28
  obtain ⟨g29, h⟩ := ck_inv h
  refine v_iastore hz dX11_odds_95 ka28 kb28 g29 ?_
  refine v_iinc hz (v := (l5 + (1 : Int32))) (lw := [some (.ref l0), some (.int l1), some (.int l2), some (.int l3), some (.int l4), some (.int (l5 + (1 : Int32)))]) rfl (congrArg (fun q => l5 + q) (show Int32.ofInt (1) = (1 : Int32) by decide)) rfl rfl dX11_odds_96 ?_
  refine v_goto (tgt := 43) hz dX11_odds_99 (by decide) ?_
  exact v_weak (lvle_s (lvle_s (lvle_s (lvle_s (lvle_s (lvle_s lvle_0)))))) (hK43 h)
set_option maxRecDepth 100000 in
set_option maxHeartbeats 4000000 in
theorem gX11_odds_43_s  (n : Nat) (M : Mem) (l0 : Nat) (l1 : Int32) (l2 : Int32) (l3 : Int32) (l4 : Int32) (l5 : Int32) : gX11_odds_43  (n + 1) M l0 l1 l2 l3 l4 l5 = (if (25 : Int32) ≤ l5 then (bd (fX11_shareOfCells M l4 l3) fun x10 M10 => some (x10, M10)) else (ck (isK M l0 11) <| rb (mR M l0 1) fun b12 => ck (isK M b12 3) <| bd (fX3_tread M b12 l5 (10 : Int32)) fun x14 M14 => ck (isK M14 l0 11) <| rb (mR M14 l0 1) fun b16 => ck (isK M14 b16 3) <| bd (fX3_sends M14 b16 l1) fun x18 M18 => if x18 = l2 then (gX11_odds_76 (gX11_odds_43 n) M18 l0 l1 l2 l3 (l4 + (1 : Int32)) l5) else (gX11_odds_76 (gX11_odds_43 n) M18 l0 l1 l2 l3 l4 l5))) := rfl
set_option maxRecDepth 100000 in
set_option maxHeartbeats 4000000 in
theorem wX11_odds_43 {z : Zx} {fx : Fx} {al : Bool} {r : Nat} {N : Mem} {xr : Int64} (hz : Zok z fx al yX11_odds.cls yX11_odds.name cX11_odds (some .long) 6 (r + 4) 0 0 (some (.long xr)) N)    : ∀ {n : Nat} {M : Mem} {l0 : Nat} {l1 : Int32} {l2 : Int32} {l3 : Int32} {l4 : Int32} {l5 : Int32}, gX11_odds_43  n M l0 l1 l2 l3 l4 l5 = some (xr, N) → V z 43 [some (.ref l0), some (.int l1), some (.int l2), some (.int l3), some (.int l4), some (.int l5)] [] M 0 0 := by
  intro n
  induction n with
  | zero => intro M l0 l1 l2 l3 l4 l5 h; cases h
  | succ n ih =>
    intro M l0 l1 l2 l3 l4 l5 h
    replace h := (gX11_odds_43_s  n M l0 l1 l2 l3 l4 l5).symm.trans h
    refine v_iload hz rfl dX11_odds_43 ?_
    refine v_bipush hz (v := (25 : Int32)) (by decide) dX11_odds_45 ?_
    refine v_icmp_ge (tgt := 102) hz dX11_odds_47 (by decide) (fun hc => ?_) (fun hc => ?_)
    · replace h := (if_pos hc).symm.trans h
      refine v_iload hz rfl dX11_odds_102 ?_
      refine v_iload_n hz rfl rfl dX11_odds_104 ?_
      obtain ⟨x10, M10, e10, h⟩ := bd_inv h
      refine v_callS hz (As := [.int l4, .int l3]) sl_X11_222 (tX11_shareOfCells (r + 3) e10) rfl rfl rfl (Nat.le_of_ble_eq_true rfl) ⟨by decide, by decide⟩ dX11_odds_105 ?_
      show V z 108 [some (.ref l0), some (.int l1), some (.int l2), some (.int l3), some (.int l4), some (.int l5)] [.long x10] M10 0 0
      obtain ⟨rfl, rfl⟩ := sp_inv h
      exact v_lret hz dX11_odds_108 (by decide) (by decide)
    · replace h := (if_neg hc).symm.trans h
      refine v_aload_n hz rfl rfl dX11_odds_50 ?_
      obtain ⟨ck11, h⟩ := ck_inv h
      obtain ⟨ka11, kb11⟩ := isK_of ck11
      obtain ⟨b12, r12, h⟩ := rb_inv h
      refine v_getR hz fl_X11_94 rfl dX11_odds_51 ka11 kb11 r12 ?_
      refine v_iload hz rfl dX11_odds_54 ?_
      refine v_bipush hz (v := (10 : Int32)) (by decide) dX11_odds_56 ?_
      obtain ⟨ck13, h⟩ := ck_inv h
      obtain ⟨ka13, kb13⟩ := isK_of ck13
      obtain ⟨x14, M14, e14, h⟩ := bd_inv h
      refine v_callV hz (As := [.int l5, .int (10 : Int32)]) vl_X11_204 (tX3_tread (r + 2) e14) rfl (by decide) ka13 kb13 rfl rfl rfl (Nat.le_of_ble_eq_true rfl) ⟨by decide, by decide⟩ dX11_odds_58 ?_
      show V z 61 [some (.ref l0), some (.int l1), some (.int l2), some (.int l3), some (.int l4), some (.int l5)] [] M14 0 0
      refine v_aload_n hz rfl rfl dX11_odds_61 ?_
      obtain ⟨ck15, h⟩ := ck_inv h
      obtain ⟨ka15, kb15⟩ := isK_of ck15
      obtain ⟨b16, r16, h⟩ := rb_inv h
      refine v_getR hz fl_X11_94 rfl dX11_odds_62 ka15 kb15 r16 ?_
      refine v_iload_n hz rfl rfl dX11_odds_65 ?_
      obtain ⟨ck17, h⟩ := ck_inv h
      obtain ⟨ka17, kb17⟩ := isK_of ck17
      obtain ⟨x18, M18, e18, h⟩ := bd_inv h
      refine v_callV hz (As := [.int l1]) vl_X11_127 (tX3_sends (r + 0) e18) rfl (by decide) ka17 kb17 rfl rfl rfl (Nat.le_of_ble_eq_true rfl) ⟨by decide, by decide⟩ dX11_odds_66 ?_
      show V z 69 [some (.ref l0), some (.int l1), some (.int l2), some (.int l3), some (.int l4), some (.int l5)] [.int x18] M18 0 0
      refine v_iload_n hz rfl rfl dX11_odds_69 ?_
      refine v_icmp_ne (tgt := 76) hz dX11_odds_70 (by decide) (fun hc => ?_) (fun hc => ?_)
      · replace h := (if_neg hc).symm.trans h
        exact v_weak (lvle_s (lvle_s (lvle_s (lvle_s (lvle_s (lvle_s lvle_0)))))) (wX11_odds_76 hz  (fun h => ih h) h)
      · replace h := (if_pos hc).symm.trans h
        refine v_iinc hz (v := (l4 + (1 : Int32))) (lw := [some (.ref l0), some (.int l1), some (.int l2), some (.int l3), some (.int (l4 + (1 : Int32))), some (.int l5)]) rfl (congrArg (fun q => l4 + q) (show Int32.ofInt (1) = (1 : Int32) by decide)) rfl rfl dX11_odds_73 ?_
        exact v_weak (lvle_s (lvle_s (lvle_s (lvle_s (lvle_s (lvle_s lvle_0)))))) (wX11_odds_76 hz  (fun h => ih h) h)
set_option maxRecDepth 100000 in
set_option maxHeartbeats 4000000 in
theorem tX11_odds (r : Nat) {fx : Fx} {al : Bool} {M N : Mem} {a0 : Nat} {a1 : Int32} {a2 : Int32} {a3 : Int32} {xr : Int64}  (h : fX11_odds M a0 a1 a2 a3 = some (xr, N)) : Ct fx yX11_odds cX11_odds 6 (some .long) (r + 4) 0 0 al [.ref a0, .int a1, .int a2, .int a3] M (some (.long xr)) N := by
  refine ct_of (lv := [some (.ref a0), some (.int a1), some (.int a2), some (.int a3), none, none]) (by decide) (Nat.le_of_ble_eq_true rfl) rfl rfl (fun z hz => ?_)
  unfold fX11_odds at h
  refine v_aload_n hz rfl rfl dX11_odds_0 ?_
  refine v_iload_n hz rfl rfl dX11_odds_1 ?_
  obtain ⟨ck1, h⟩ := ck_inv h
  obtain ⟨ka1, kb1⟩ := isK_of ck1
  obtain ⟨x2, M2, e2, h⟩ := bd_inv h
  refine v_callV hz (As := [.int a1]) vl_X11_111 (tX11_isPerson (r + 3) e2) rfl (by decide) ka1 kb1 rfl rfl rfl (Nat.le_of_ble_eq_true rfl) ⟨by decide, by decide⟩ dX11_odds_2 ?_
  show V z 5 [some (.ref a0), some (.int a1), some (.int a2), some (.int a3), none, none] [.int x2] M2 0 0
  refine v_if_eq (tgt := 22) hz dX11_odds_5 (by decide) (fun hc => ?_) (fun hc => ?_)
  · replace h := (if_pos hc).symm.trans h
    refine v_ldc2 hz wq_716 dX11_odds_22 ?_
    obtain ⟨rfl, rfl⟩ := sp_inv h
    exact v_lret hz dX11_odds_25 (by decide) (by decide)
  · replace h := (if_neg hc).symm.trans h
    refine v_iload_n hz rfl rfl dX11_odds_8 ?_
    obtain ⟨x3, M3, e3, h⟩ := bd_inv h
    refine v_callS hz (As := [.int a2]) sl_X11_100 (tX11_isCell (r + 3) e3) rfl rfl rfl (Nat.le_of_ble_eq_true rfl) ⟨by decide, by decide⟩ dX11_odds_9 ?_
    show V z 12 [some (.ref a0), some (.int a1), some (.int a2), some (.int a3), none, none] [.int x3] M3 0 0
    refine v_if_eq (tgt := 22) hz dX11_odds_12 (by decide) (fun hc => ?_) (fun hc => ?_)
    · replace h := (if_pos hc).symm.trans h
      refine v_ldc2 hz wq_716 dX11_odds_22 ?_
      obtain ⟨rfl, rfl⟩ := sp_inv h
      exact v_lret hz dX11_odds_25 (by decide) (by decide)
    · replace h := (if_neg hc).symm.trans h
      refine v_iload_n hz rfl rfl dX11_odds_15 ?_
      obtain ⟨x4, M4, e4, h⟩ := bd_inv h
      refine v_callS hz (As := [.int a3]) sl_X11_217 (tX11_isFractionPart (r + 3) e4) rfl rfl rfl (Nat.le_of_ble_eq_true rfl) ⟨by decide, by decide⟩ dX11_odds_16 ?_
      show V z 19 [some (.ref a0), some (.int a1), some (.int a2), some (.int a3), none, none] [.int x4] M4 0 0
      refine v_if_ne (tgt := 26) hz dX11_odds_19 (by decide) (fun hc => ?_) (fun hc => ?_)
      · replace h := (if_neg hc).symm.trans h
        refine v_aload_n hz rfl rfl dX11_odds_26 ?_
        obtain ⟨ck5, h⟩ := ck_inv h
        obtain ⟨ka5, kb5⟩ := isK_of ck5
        obtain ⟨b6, r6, h⟩ := rb_inv h
        refine v_getR hz fl_X11_94 rfl dX11_odds_27 ka5 kb5 r6 ?_
        refine v_aload_n hz rfl rfl dX11_odds_30 ?_
        obtain ⟨b7, r7, h⟩ := rb_inv h
        refine v_getR hz fl_X11_90 rfl dX11_odds_31 ka5 kb5 r7 ?_
        obtain ⟨ck8, h⟩ := ck_inv h
        obtain ⟨ka8, kb8⟩ := isK_of ck8
        obtain ⟨x9, M9, e9, h⟩ := bd_inv h
        refine v_callV hz (As := [.ref b7]) vl_X11_187 (tX3_take (r + 2) e9) rfl (by decide) ka8 kb8 rfl rfl rfl (Nat.le_of_ble_eq_true rfl) ⟨by decide, by decide⟩ dX11_odds_34 ?_
        show V z 37 [some (.ref a0), some (.int a1), some (.int a2), some (.int a3), none, none] [] M9 0 0
        refine v_iconst hz (v := (0 : Int32)) (by decide) dX11_odds_37 ?_
        refine v_istore hz (lw := [some (.ref a0), some (.int a1), some (.int a2), some (.int a3), some (.int (0 : Int32)), none]) (Nat.le_of_ble_eq_true rfl) rfl rfl dX11_odds_38 ?_
        refine v_iconst hz (v := (0 : Int32)) (by decide) dX11_odds_40 ?_
        refine v_istore hz (lw := [some (.ref a0), some (.int a1), some (.int a2), some (.int a3), some (.int (0 : Int32)), some (.int (0 : Int32))]) (Nat.le_of_ble_eq_true rfl) rfl rfl dX11_odds_41 ?_
        exact v_weak (lvle_s (lvle_s (lvle_s (lvle_s (lvle_s (lvle_s lvle_0)))))) (wX11_odds_43 hz   h)
      · replace h := (if_pos hc).symm.trans h
        refine v_ldc2 hz wq_716 dX11_odds_22 ?_
        obtain ⟨rfl, rfl⟩ := sp_inv h
        exact v_lret hz dX11_odds_25 (by decide) (by decide)
noncomputable def fX11_mean (M : Mem) (a0 : Nat) (a1 : Int32) (a2 : Int32) : Option (Int64 × Mem) :=
  bd (fX11_isAskedSpan M a1) fun x1 M1 => if x1 = 0 then (some ((-9223372036854775808 : Int64), M1)) else (bd (fX11_isFractionPart M1 a2) fun x2 M2 => if x2 = 0 then (some ((-9223372036854775808 : Int64), M2)) else (ck (isK M2 a0 11) <| rb (mR M2 a0 1) fun b4 => rb (mR M2 a0 0) fun b5 => ck (isK M2 b4 3) <| bd (fX3_take M2 b4 b5) fun x7 M7 => ck (isK M7 a0 11) <| rb (mR M7 a0 1) fun b9 => ck (isK M7 b9 3) <| bd (fX3_goHours M7 b9 a1) fun x11 M11 => ck (isK M11 a0 11) <| rb (mR M11 a0 1) fun b13 => ck (isK M11 b13 3) <| bd (fX3_wearOfAll M11 b13) fun x15 M15 => bd (fX11_shareOfCells M15 x15 a2) fun x16 M16 => some (x16, M16)))
set_option maxRecDepth 100000 in
set_option maxHeartbeats 4000000 in
theorem tX11_mean (r : Nat) {fx : Fx} {al : Bool} {M N : Mem} {a0 : Nat} {a1 : Int32} {a2 : Int32} {xr : Int64}  (h : fX11_mean M a0 a1 a2 = some (xr, N)) : Ct fx yX11_mean cX11_mean 3 (some .long) (r + 6) 0 0 al [.ref a0, .int a1, .int a2] M (some (.long xr)) N := by
  refine ct_of (lv := [some (.ref a0), some (.int a1), some (.int a2)]) (by decide) (Nat.le_of_ble_eq_true rfl) rfl rfl (fun z hz => ?_)
  unfold fX11_mean at h
  refine v_iload_n hz rfl rfl dX11_mean_0 ?_
  obtain ⟨x1, M1, e1, h⟩ := bd_inv h
  refine v_callS hz (As := [.int a1]) sl_X11_184 (tX11_isAskedSpan (r + 5) e1) rfl rfl rfl (Nat.le_of_ble_eq_true rfl) ⟨by decide, by decide⟩ dX11_mean_1 ?_
  show V z 4 [some (.ref a0), some (.int a1), some (.int a2)] [.int x1] M1 0 0
  refine v_if_eq (tgt := 14) hz dX11_mean_4 (by decide) (fun hc => ?_) (fun hc => ?_)
  · replace h := (if_pos hc).symm.trans h
    refine v_ldc2 hz wq_716 dX11_mean_14 ?_
    obtain ⟨rfl, rfl⟩ := sp_inv h
    exact v_lret hz dX11_mean_17 (by decide) (by decide)
  · replace h := (if_neg hc).symm.trans h
    refine v_iload_n hz rfl rfl dX11_mean_7 ?_
    obtain ⟨x2, M2, e2, h⟩ := bd_inv h
    refine v_callS hz (As := [.int a2]) sl_X11_217 (tX11_isFractionPart (r + 5) e2) rfl rfl rfl (Nat.le_of_ble_eq_true rfl) ⟨by decide, by decide⟩ dX11_mean_8 ?_
    show V z 11 [some (.ref a0), some (.int a1), some (.int a2)] [.int x2] M2 0 0
    refine v_if_ne (tgt := 18) hz dX11_mean_11 (by decide) (fun hc => ?_) (fun hc => ?_)
    · replace h := (if_neg hc).symm.trans h
      refine v_aload_n hz rfl rfl dX11_mean_18 ?_
      obtain ⟨ck3, h⟩ := ck_inv h
      obtain ⟨ka3, kb3⟩ := isK_of ck3
      obtain ⟨b4, r4, h⟩ := rb_inv h
      refine v_getR hz fl_X11_94 rfl dX11_mean_19 ka3 kb3 r4 ?_
      refine v_aload_n hz rfl rfl dX11_mean_22 ?_
      obtain ⟨b5, r5, h⟩ := rb_inv h
      refine v_getR hz fl_X11_90 rfl dX11_mean_23 ka3 kb3 r5 ?_
      obtain ⟨ck6, h⟩ := ck_inv h
      obtain ⟨ka6, kb6⟩ := isK_of ck6
      obtain ⟨x7, M7, e7, h⟩ := bd_inv h
      refine v_callV hz (As := [.ref b5]) vl_X11_187 (tX3_take (r + 4) e7) rfl (by decide) ka6 kb6 rfl rfl rfl (Nat.le_of_ble_eq_true rfl) ⟨by decide, by decide⟩ dX11_mean_26 ?_
      show V z 29 [some (.ref a0), some (.int a1), some (.int a2)] [] M7 0 0
      refine v_aload_n hz rfl rfl dX11_mean_29 ?_
      obtain ⟨ck8, h⟩ := ck_inv h
      obtain ⟨ka8, kb8⟩ := isK_of ck8
      obtain ⟨b9, r9, h⟩ := rb_inv h
      refine v_getR hz fl_X11_94 rfl dX11_mean_30 ka8 kb8 r9 ?_
      refine v_iload_n hz rfl rfl dX11_mean_33 ?_
      obtain ⟨ck10, h⟩ := ck_inv h
      obtain ⟨ka10, kb10⟩ := isK_of ck10
      obtain ⟨x11, M11, e11, h⟩ := bd_inv h
      refine v_callV hz (As := [.int a1]) vl_X11_181 (tX3_goHours (r + 0) e11) rfl (by decide) ka10 kb10 rfl rfl rfl (Nat.le_of_ble_eq_true rfl) ⟨by decide, by decide⟩ dX11_mean_34 ?_
      show V z 37 [some (.ref a0), some (.int a1), some (.int a2)] [] M11 0 0
      refine v_aload_n hz rfl rfl dX11_mean_37 ?_
      obtain ⟨ck12, h⟩ := ck_inv h
      obtain ⟨ka12, kb12⟩ := isK_of ck12
      obtain ⟨b13, r13, h⟩ := rb_inv h
      refine v_getR hz fl_X11_94 rfl dX11_mean_38 ka12 kb12 r13 ?_
      obtain ⟨ck14, h⟩ := ck_inv h
      obtain ⟨ka14, kb14⟩ := isK_of ck14
      obtain ⟨x15, M15, e15, h⟩ := bd_inv h
      refine v_callV hz (As := []) vl_X11_175 (tX3_wearOfAll (r + 5) e15) rfl (by decide) ka14 kb14 rfl rfl rfl (Nat.le_of_ble_eq_true rfl) ⟨by decide, by decide⟩ dX11_mean_41 ?_
      show V z 44 [some (.ref a0), some (.int a1), some (.int a2)] [.int x15] M15 0 0
      refine v_iload_n hz rfl rfl dX11_mean_44 ?_
      obtain ⟨x16, M16, e16, h⟩ := bd_inv h
      refine v_callS hz (As := [.int x15, .int a2]) sl_X11_222 (tX11_shareOfCells (r + 5) e16) rfl rfl rfl (Nat.le_of_ble_eq_true rfl) ⟨by decide, by decide⟩ dX11_mean_45 ?_
      show V z 48 [some (.ref a0), some (.int a1), some (.int a2)] [.long x16] M16 0 0
      obtain ⟨rfl, rfl⟩ := sp_inv h
      exact v_lret hz dX11_mean_48 (by decide) (by decide)
    · replace h := (if_pos hc).symm.trans h
      refine v_ldc2 hz wq_716 dX11_mean_14 ?_
      obtain ⟨rfl, rfl⟩ := sp_inv h
      exact v_lret hz dX11_mean_17 (by decide) (by decide)
noncomputable def fX11_plan (M : Mem) (a0 : Nat) (a1 : Int32) (a2 : Int32) : Option (Int32 × Mem) :=
  if a1 = (-1 : Int32) then (ck (isK M a0 11) <| rb (mR M a0 3) fun b3 => ck (isK M b3 5) <| bd (fX5_clear M b3) fun x5 M5 => some (x5, M5)) else if a1 = (0 : Int32) then (ck (isK M a0 11) <| rb (mR M a0 3) fun b7 => ck (isK M b7 5) <| bd (fX5_add M b7 a1 (0 : Int32) (0 : Int32)) fun x9 M9 => some (x9, M9)) else if a1 = (1 : Int32) then (bd (fX11_isCell M a2) fun x10 M10 => if x10 = 0 then (some ((-1 : Int32), M10)) else (ck (isK M10 a0 11) <| rb (mR M10 a0 3) fun b12 => ck (isK M10 b12 5) <| bd (fX5_add M10 b12 a1 a2 (0 : Int32)) fun x14 M14 => some (x14, M14))) else if a1 = (2 : Int32) then (ck (isK M a0 11) <| bd (fX11_isPerson M a0 a2) fun x16 M16 => if x16 = 0 then (some ((-1 : Int32), M16)) else (ck (isK M16 a0 11) <| rb (mR M16 a0 3) fun b18 => ck (isK M16 b18 5) <| bd (fX5_add M16 b18 a1 a2 (0 : Int32)) fun x20 M20 => some (x20, M20))) else if a1 = (3 : Int32) then (ck (isK M a0 11) <| bd (fX11_isPerson M a0 a2) fun x22 M22 => if x22 = 0 then (some ((-1 : Int32), M22)) else (ck (isK M22 a0 11) <| rb (mR M22 a0 3) fun b24 => ck (isK M22 b24 5) <| bd (fX5_add M22 b24 a1 a2 (0 : Int32)) fun x26 M26 => some (x26, M26))) else (some ((-1 : Int32), M))
set_option maxRecDepth 100000 in
set_option maxHeartbeats 4000000 in
theorem tX11_plan (r : Nat) {fx : Fx} {al : Bool} {M N : Mem} {a0 : Nat} {a1 : Int32} {a2 : Int32} {xr : Int32}  (h : fX11_plan M a0 a1 a2 = some (xr, N)) : Ct fx yX11_plan cX11_plan 3 (some .int) (r + 1) 0 0 al [.ref a0, .int a1, .int a2] M (some (.int xr)) N := by
  refine ct_of (lv := [some (.ref a0), some (.int a1), some (.int a2)]) (by decide) (Nat.le_of_ble_eq_true rfl) rfl rfl (fun z hz => ?_)
  unfold fX11_plan at h
  refine v_iload_n hz rfl rfl dX11_plan_0 ?_
  by_cases hs1_0 : a1 = (-1 : Int32)
  · replace h := (if_pos hs1_0).symm.trans h
    refine v_tableAt (tgt := 36) hz hs1_0 dX11_plan_1 (by decide) (by decide) (by decide) (by decide) ?_
    refine v_aload_n hz rfl rfl dX11_plan_36 ?_
    obtain ⟨ck2, h⟩ := ck_inv h
    obtain ⟨ka2, kb2⟩ := isK_of ck2
    obtain ⟨b3, r3, h⟩ := rb_inv h
    refine v_getR hz fl_X11_20 rfl dX11_plan_37 ka2 kb2 r3 ?_
    obtain ⟨ck4, h⟩ := ck_inv h
    obtain ⟨ka4, kb4⟩ := isK_of ck4
    obtain ⟨x5, M5, e5, h⟩ := bd_inv h
    refine v_callV hz (As := []) vl_X11_207 (tX5_clear (r + 0) e5) rfl (by decide) ka4 kb4 rfl rfl rfl (Nat.le_of_ble_eq_true rfl) ⟨by decide, by decide⟩ dX11_plan_40 ?_
    show V z 43 [some (.ref a0), some (.int a1), some (.int a2)] [.int x5] M5 0 0
    obtain ⟨rfl, rfl⟩ := sp_inv h
    exact v_iret hz dX11_plan_43 (by decide) (by decide)
  replace h := (if_neg hs1_0).symm.trans h
  by_cases hs1_1 : a1 = (0 : Int32)
  · replace h := (if_pos hs1_1).symm.trans h
    refine v_tableAt (tgt := 44) hz hs1_1 dX11_plan_1 (by decide) (by decide) (by decide) (by decide) ?_
    refine v_aload_n hz rfl rfl dX11_plan_44 ?_
    obtain ⟨ck6, h⟩ := ck_inv h
    obtain ⟨ka6, kb6⟩ := isK_of ck6
    obtain ⟨b7, r7, h⟩ := rb_inv h
    refine v_getR hz fl_X11_20 rfl dX11_plan_45 ka6 kb6 r7 ?_
    refine v_iload_n hz rfl rfl dX11_plan_48 ?_
    refine v_iconst hz (v := (0 : Int32)) (by decide) dX11_plan_49 ?_
    refine v_iconst hz (v := (0 : Int32)) (by decide) dX11_plan_50 ?_
    obtain ⟨ck8, h⟩ := ck_inv h
    obtain ⟨ka8, kb8⟩ := isK_of ck8
    obtain ⟨x9, M9, e9, h⟩ := bd_inv h
    refine v_callV hz (As := [.int a1, .int (0 : Int32), .int (0 : Int32)]) vl_X11_210 (tX5_add (r + 0) e9) rfl (by decide) ka8 kb8 rfl rfl rfl (Nat.le_of_ble_eq_true rfl) ⟨by decide, by decide⟩ dX11_plan_51 ?_
    show V z 54 [some (.ref a0), some (.int a1), some (.int a2)] [.int x9] M9 0 0
    obtain ⟨rfl, rfl⟩ := sp_inv h
    exact v_iret hz dX11_plan_54 (by decide) (by decide)
  replace h := (if_neg hs1_1).symm.trans h
  by_cases hs1_2 : a1 = (1 : Int32)
  · replace h := (if_pos hs1_2).symm.trans h
    refine v_tableAt (tgt := 55) hz hs1_2 dX11_plan_1 (by decide) (by decide) (by decide) (by decide) ?_
    refine v_iload_n hz rfl rfl dX11_plan_55 ?_
    obtain ⟨x10, M10, e10, h⟩ := bd_inv h
    refine v_callS hz (As := [.int a2]) sl_X11_100 (tX11_isCell (r + 0) e10) rfl rfl rfl (Nat.le_of_ble_eq_true rfl) ⟨by decide, by decide⟩ dX11_plan_56 ?_
    show V z 59 [some (.ref a0), some (.int a1), some (.int a2)] [.int x10] M10 0 0
    refine v_if_eq (tgt := 75) hz dX11_plan_59 (by decide) (fun hc => ?_) (fun hc => ?_)
    · replace h := (if_pos hc).symm.trans h
      refine v_iconst hz (v := (-1 : Int32)) (by decide) dX11_plan_75 ?_
      obtain ⟨rfl, rfl⟩ := sp_inv h
      exact v_iret hz dX11_plan_76 (by decide) (by decide)
    · replace h := (if_neg hc).symm.trans h
      refine v_aload_n hz rfl rfl dX11_plan_62 ?_
      obtain ⟨ck11, h⟩ := ck_inv h
      obtain ⟨ka11, kb11⟩ := isK_of ck11
      obtain ⟨b12, r12, h⟩ := rb_inv h
      refine v_getR hz fl_X11_20 rfl dX11_plan_63 ka11 kb11 r12 ?_
      refine v_iload_n hz rfl rfl dX11_plan_66 ?_
      refine v_iload_n hz rfl rfl dX11_plan_67 ?_
      refine v_iconst hz (v := (0 : Int32)) (by decide) dX11_plan_68 ?_
      obtain ⟨ck13, h⟩ := ck_inv h
      obtain ⟨ka13, kb13⟩ := isK_of ck13
      obtain ⟨x14, M14, e14, h⟩ := bd_inv h
      refine v_callV hz (As := [.int a1, .int a2, .int (0 : Int32)]) vl_X11_210 (tX5_add (r + 0) e14) rfl (by decide) ka13 kb13 rfl rfl rfl (Nat.le_of_ble_eq_true rfl) ⟨by decide, by decide⟩ dX11_plan_69 ?_
      show V z 72 [some (.ref a0), some (.int a1), some (.int a2)] [.int x14] M14 0 0
      refine v_goto (tgt := 76) hz dX11_plan_72 (by decide) ?_
      obtain ⟨rfl, rfl⟩ := sp_inv h
      exact v_iret hz dX11_plan_76 (by decide) (by decide)
  replace h := (if_neg hs1_2).symm.trans h
  by_cases hs1_3 : a1 = (2 : Int32)
  · replace h := (if_pos hs1_3).symm.trans h
    refine v_tableAt (tgt := 77) hz hs1_3 dX11_plan_1 (by decide) (by decide) (by decide) (by decide) ?_
    refine v_aload_n hz rfl rfl dX11_plan_77 ?_
    refine v_iload_n hz rfl rfl dX11_plan_78 ?_
    obtain ⟨ck15, h⟩ := ck_inv h
    obtain ⟨ka15, kb15⟩ := isK_of ck15
    obtain ⟨x16, M16, e16, h⟩ := bd_inv h
    refine v_callV hz (As := [.int a2]) vl_X11_111 (tX11_isPerson (r + 0) e16) rfl (by decide) ka15 kb15 rfl rfl rfl (Nat.le_of_ble_eq_true rfl) ⟨by decide, by decide⟩ dX11_plan_79 ?_
    show V z 82 [some (.ref a0), some (.int a1), some (.int a2)] [.int x16] M16 0 0
    refine v_if_eq (tgt := 98) hz dX11_plan_82 (by decide) (fun hc => ?_) (fun hc => ?_)
    · replace h := (if_pos hc).symm.trans h
      refine v_iconst hz (v := (-1 : Int32)) (by decide) dX11_plan_98 ?_
      obtain ⟨rfl, rfl⟩ := sp_inv h
      exact v_iret hz dX11_plan_99 (by decide) (by decide)
    · replace h := (if_neg hc).symm.trans h
      refine v_aload_n hz rfl rfl dX11_plan_85 ?_
      obtain ⟨ck17, h⟩ := ck_inv h
      obtain ⟨ka17, kb17⟩ := isK_of ck17
      obtain ⟨b18, r18, h⟩ := rb_inv h
      refine v_getR hz fl_X11_20 rfl dX11_plan_86 ka17 kb17 r18 ?_
      refine v_iload_n hz rfl rfl dX11_plan_89 ?_
      refine v_iload_n hz rfl rfl dX11_plan_90 ?_
      refine v_iconst hz (v := (0 : Int32)) (by decide) dX11_plan_91 ?_
      obtain ⟨ck19, h⟩ := ck_inv h
      obtain ⟨ka19, kb19⟩ := isK_of ck19
      obtain ⟨x20, M20, e20, h⟩ := bd_inv h
      refine v_callV hz (As := [.int a1, .int a2, .int (0 : Int32)]) vl_X11_210 (tX5_add (r + 0) e20) rfl (by decide) ka19 kb19 rfl rfl rfl (Nat.le_of_ble_eq_true rfl) ⟨by decide, by decide⟩ dX11_plan_92 ?_
      show V z 95 [some (.ref a0), some (.int a1), some (.int a2)] [.int x20] M20 0 0
      refine v_goto (tgt := 99) hz dX11_plan_95 (by decide) ?_
      obtain ⟨rfl, rfl⟩ := sp_inv h
      exact v_iret hz dX11_plan_99 (by decide) (by decide)
  replace h := (if_neg hs1_3).symm.trans h
  by_cases hs1_4 : a1 = (3 : Int32)
  · replace h := (if_pos hs1_4).symm.trans h
    refine v_tableAt (tgt := 77) hz hs1_4 dX11_plan_1 (by decide) (by decide) (by decide) (by decide) ?_
    refine v_aload_n hz rfl rfl dX11_plan_77 ?_
    refine v_iload_n hz rfl rfl dX11_plan_78 ?_
    obtain ⟨ck21, h⟩ := ck_inv h
    obtain ⟨ka21, kb21⟩ := isK_of ck21
    obtain ⟨x22, M22, e22, h⟩ := bd_inv h
    refine v_callV hz (As := [.int a2]) vl_X11_111 (tX11_isPerson (r + 0) e22) rfl (by decide) ka21 kb21 rfl rfl rfl (Nat.le_of_ble_eq_true rfl) ⟨by decide, by decide⟩ dX11_plan_79 ?_
    show V z 82 [some (.ref a0), some (.int a1), some (.int a2)] [.int x22] M22 0 0
    refine v_if_eq (tgt := 98) hz dX11_plan_82 (by decide) (fun hc => ?_) (fun hc => ?_)
    · replace h := (if_pos hc).symm.trans h
      refine v_iconst hz (v := (-1 : Int32)) (by decide) dX11_plan_98 ?_
      obtain ⟨rfl, rfl⟩ := sp_inv h
      exact v_iret hz dX11_plan_99 (by decide) (by decide)
    · replace h := (if_neg hc).symm.trans h
      refine v_aload_n hz rfl rfl dX11_plan_85 ?_
      obtain ⟨ck23, h⟩ := ck_inv h
      obtain ⟨ka23, kb23⟩ := isK_of ck23
      obtain ⟨b24, r24, h⟩ := rb_inv h
      refine v_getR hz fl_X11_20 rfl dX11_plan_86 ka23 kb23 r24 ?_
      refine v_iload_n hz rfl rfl dX11_plan_89 ?_
      refine v_iload_n hz rfl rfl dX11_plan_90 ?_
      refine v_iconst hz (v := (0 : Int32)) (by decide) dX11_plan_91 ?_
      obtain ⟨ck25, h⟩ := ck_inv h
      obtain ⟨ka25, kb25⟩ := isK_of ck25
      obtain ⟨x26, M26, e26, h⟩ := bd_inv h
      refine v_callV hz (As := [.int a1, .int a2, .int (0 : Int32)]) vl_X11_210 (tX5_add (r + 0) e26) rfl (by decide) ka25 kb25 rfl rfl rfl (Nat.le_of_ble_eq_true rfl) ⟨by decide, by decide⟩ dX11_plan_92 ?_
      show V z 95 [some (.ref a0), some (.int a1), some (.int a2)] [.int x26] M26 0 0
      refine v_goto (tgt := 99) hz dX11_plan_95 (by decide) ?_
      obtain ⟨rfl, rfl⟩ := sp_inv h
      exact v_iret hz dX11_plan_99 (by decide) (by decide)
  replace h := (if_neg hs1_4).symm.trans h
  refine v_tableOut (tgt := 100) hz dX11_plan_1 (by have q0 := lv_neT hs1_0 (show ((-1 : Int32)).toInt = -1 by decide); have q1 := lv_neT hs1_1 (show ((0 : Int32)).toInt = 0 by decide); have q2 := lv_neT hs1_2 (show ((1 : Int32)).toInt = 1 by decide); have q3 := lv_neT hs1_3 (show ((2 : Int32)).toInt = 2 by decide); have q4 := lv_neT hs1_4 (show ((3 : Int32)).toInt = 3 by decide); omega) (by decide) ?_
  refine v_iconst hz (v := (-1 : Int32)) (by decide) dX11_plan_100 ?_
  obtain ⟨rfl, rfl⟩ := sp_inv h
  exact v_iret hz dX11_plan_101 (by decide) (by decide)
noncomputable def fX11_carryOutInTrial (M : Mem) (a0 : Nat) (a1 : Int32) (a2 : Int32) : Option (Unit × Mem) :=
  if a1 = (0 : Int32) then (ck (isK M a0 11) <| rb (mR M a0 1) fun b3 => ck (isK M b3 3) <| bd (fX3_goHour M b3) fun x5 M5 => some ((), M5)) else if a1 = (1 : Int32) then (ck (isK M a0 11) <| rb (mR M a0 1) fun b7 => ck (isK M b7 3) <| bd (fX3_tread M b7 a2 (10 : Int32)) fun x9 M9 => some ((), M9)) else (ck (isK M a0 11) <| rb (mR M a0 1) fun b11 => ck (isK M b11 3) <| rb (mR M b11 8) fun b13 => if a1 = (2 : Int32) then (ck (isK M b13 16) <| ck (inb a2 (mG M b13)) <| some ((), (stI M b13 a2.toNatClampNeg (1 : Int32)))) else (ck (isK M b13 16) <| ck (inb a2 (mG M b13)) <| some ((), (stI M b13 a2.toNatClampNeg (0 : Int32)))))
set_option maxRecDepth 100000 in
set_option maxHeartbeats 4000000 in
theorem tX11_carryOutInTrial (r : Nat) {fx : Fx} {al : Bool} {M N : Mem} {a0 : Nat} {a1 : Int32} {a2 : Int32}  (h : fX11_carryOutInTrial M a0 a1 a2 = some ((), N)) : Ct fx yX11_carryOutInTrial cX11_carryOutInTrial 3 none (r + 5) 0 0 al [.ref a0, .int a1, .int a2] M none N := by
  refine ct_of (lv := [some (.ref a0), some (.int a1), some (.int a2)]) (by decide) (Nat.le_of_ble_eq_true rfl) rfl rfl (fun z hz => ?_)
  unfold fX11_carryOutInTrial at h
  refine v_iload_n hz rfl rfl dX11_carryOutInTrial_0 ?_
  by_cases hs1_0 : a1 = (0 : Int32)
  · replace h := (if_pos hs1_0).symm.trans h
    refine v_lookAt (tgt := 28) hz hs1_0 dX11_carryOutInTrial_1 (by decide) (by decide) (by decide) ?_
    refine v_aload_n hz rfl rfl dX11_carryOutInTrial_28 ?_
    obtain ⟨ck2, h⟩ := ck_inv h
    obtain ⟨ka2, kb2⟩ := isK_of ck2
    obtain ⟨b3, r3, h⟩ := rb_inv h
    refine v_getR hz fl_X11_94 rfl dX11_carryOutInTrial_29 ka2 kb2 r3 ?_
    obtain ⟨ck4, h⟩ := ck_inv h
    obtain ⟨ka4, kb4⟩ := isK_of ck4
    obtain ⟨x5, M5, e5, h⟩ := bd_inv h
    refine v_callV hz (As := []) vl_X11_300 (tX3_goHour (r + 0) e5) rfl (by decide) ka4 kb4 rfl rfl rfl (Nat.le_of_ble_eq_true rfl) ⟨by decide, by decide⟩ dX11_carryOutInTrial_32 ?_
    show V z 35 [some (.ref a0), some (.int a1), some (.int a2)] [] M5 0 0
    refine v_goto (tgt := 70) hz dX11_carryOutInTrial_35 (by decide) ?_
    obtain ⟨-, rfl⟩ := sp_inv h
    exact v_vret hz dX11_carryOutInTrial_70 (by decide) (by decide)
  replace h := (if_neg hs1_0).symm.trans h
  by_cases hs1_1 : a1 = (1 : Int32)
  · replace h := (if_pos hs1_1).symm.trans h
    refine v_lookAt (tgt := 38) hz hs1_1 dX11_carryOutInTrial_1 (by decide) (by decide) (by decide) ?_
    refine v_aload_n hz rfl rfl dX11_carryOutInTrial_38 ?_
    obtain ⟨ck6, h⟩ := ck_inv h
    obtain ⟨ka6, kb6⟩ := isK_of ck6
    obtain ⟨b7, r7, h⟩ := rb_inv h
    refine v_getR hz fl_X11_94 rfl dX11_carryOutInTrial_39 ka6 kb6 r7 ?_
    refine v_iload_n hz rfl rfl dX11_carryOutInTrial_42 ?_
    refine v_bipush hz (v := (10 : Int32)) (by decide) dX11_carryOutInTrial_43 ?_
    obtain ⟨ck8, h⟩ := ck_inv h
    obtain ⟨ka8, kb8⟩ := isK_of ck8
    obtain ⟨x9, M9, e9, h⟩ := bd_inv h
    refine v_callV hz (As := [.int a2, .int (10 : Int32)]) vl_X11_204 (tX3_tread (r + 3) e9) rfl (by decide) ka8 kb8 rfl rfl rfl (Nat.le_of_ble_eq_true rfl) ⟨by decide, by decide⟩ dX11_carryOutInTrial_45 ?_
    show V z 48 [some (.ref a0), some (.int a1), some (.int a2)] [] M9 0 0
    refine v_goto (tgt := 70) hz dX11_carryOutInTrial_48 (by decide) ?_
    obtain ⟨-, rfl⟩ := sp_inv h
    exact v_vret hz dX11_carryOutInTrial_70 (by decide) (by decide)
  replace h := (if_neg hs1_1).symm.trans h
  refine v_lookup (off := 50) (tgt := 51) hz dX11_carryOutInTrial_1 (by decide) ((lv_osw hs1_0 (show ((0 : Int32)).toInt = 0 by decide)).trans ((lv_osw hs1_1 (show ((1 : Int32)).toInt = 1 by decide)).trans rfl)) (by decide) ?_
  refine v_aload_n hz rfl rfl dX11_carryOutInTrial_51 ?_
  obtain ⟨ck10, h⟩ := ck_inv h
  obtain ⟨ka10, kb10⟩ := isK_of ck10
  obtain ⟨b11, r11, h⟩ := rb_inv h
  refine v_getR hz fl_X11_94 rfl dX11_carryOutInTrial_52 ka10 kb10 r11 ?_
  obtain ⟨ck12, h⟩ := ck_inv h
  obtain ⟨ka12, kb12⟩ := isK_of ck12
  obtain ⟨b13, r13, h⟩ := rb_inv h
  refine v_getR hz fl_X11_123 rfl dX11_carryOutInTrial_55 ka12 kb12 r13 ?_
  refine v_iload_n hz rfl rfl dX11_carryOutInTrial_58 ?_
  refine v_iload_n hz rfl rfl dX11_carryOutInTrial_59 ?_
  refine v_iconst hz (v := (2 : Int32)) (by decide) dX11_carryOutInTrial_60 ?_
  refine v_icmp_ne (tgt := 68) hz dX11_carryOutInTrial_61 (by decide) (fun hc => ?_) (fun hc => ?_)
  · replace h := (if_neg hc).symm.trans h
    refine v_iconst hz (v := (0 : Int32)) (by decide) dX11_carryOutInTrial_68 ?_
    obtain ⟨ck14, h⟩ := ck_inv h
    obtain ⟨ka14, kb14⟩ := isK_of ck14
    obtain ⟨g15, h⟩ := ck_inv h
    refine v_zastore hz (Or.inl rfl) dX11_carryOutInTrial_69 ka14 kb14 g15 ?_
    obtain ⟨-, rfl⟩ := sp_inv h
    exact v_vret hz dX11_carryOutInTrial_70 (by decide) (by decide)
  · replace h := (if_pos hc).symm.trans h
    refine v_iconst hz (v := (1 : Int32)) (by decide) dX11_carryOutInTrial_64 ?_
    refine v_goto (tgt := 69) hz dX11_carryOutInTrial_65 (by decide) ?_
    obtain ⟨ck16, h⟩ := ck_inv h
    obtain ⟨ka16, kb16⟩ := isK_of ck16
    obtain ⟨g17, h⟩ := ck_inv h
    refine v_zastore hz (Or.inr rfl) dX11_carryOutInTrial_69 ka16 kb16 g17 ?_
    obtain ⟨-, rfl⟩ := sp_inv h
    exact v_vret hz dX11_carryOutInTrial_70 (by decide) (by decide)
noncomputable def gX11_ends_24  : Nat → Mem → Nat → Int32 → Int32 → Option (Int32 × Mem)
  | 0, _, _, _, _ => none
  | n + 1, M, l0, l1, l2 => ck (isK M l0 11) <| rb (mR M l0 3) fun b7 => ck (isK M b7 5) <| if (mI M b7 2) ≤ l2 then (if l1 = 0 then (rb (mR M l0 1) fun b12 => ck (isK M b12 3) <| bd (fX3_wearOfAll M b12) fun x14 M14 => some (x14, M14)) else (rb (mR M l0 1) fun b9 => ck (isK M b9 3) <| bd (fX3_countBald M b9) fun x11 M11 => some (x11, M11))) else (bd (fX5_part M b7 l2 (0 : Int32)) fun x15 M15 => ck (isK M15 l0 11) <| rb (mR M15 l0 3) fun b17 => ck (isK M15 b17 5) <| bd (fX5_part M15 b17 l2 (1 : Int32)) fun x19 M19 => ck (isK M19 l0 11) <| bd (fX11_carryOutInTrial M19 l0 x15 x19) fun x21 M21 => (gX11_ends_24 n) M21 l0 l1 (l2 + (1 : Int32)))
noncomputable def fX11_ends (M : Mem) (a0 : Nat) (a1 : Int32) : Option (Int32 × Mem) :=
  if a1 < 0 then (some ((-1 : Int32), M)) else (if a1 ≤ (1 : Int32) then (ck (isK M a0 11) <| rb (mR M a0 1) fun b2 => rb (mR M a0 0) fun b3 => ck (isK M b2 3) <| bd (fX3_take M b2 b3) fun x5 M5 => gX11_ends_24 FU M5 a0 a1 (0 : Int32)) else (some ((-1 : Int32), M)))
set_option maxRecDepth 100000 in
set_option maxHeartbeats 4000000 in
theorem gX11_ends_24_s  (n : Nat) (M : Mem) (l0 : Nat) (l1 : Int32) (l2 : Int32) : gX11_ends_24  (n + 1) M l0 l1 l2 = (ck (isK M l0 11) <| rb (mR M l0 3) fun b7 => ck (isK M b7 5) <| if (mI M b7 2) ≤ l2 then (if l1 = 0 then (rb (mR M l0 1) fun b12 => ck (isK M b12 3) <| bd (fX3_wearOfAll M b12) fun x14 M14 => some (x14, M14)) else (rb (mR M l0 1) fun b9 => ck (isK M b9 3) <| bd (fX3_countBald M b9) fun x11 M11 => some (x11, M11))) else (bd (fX5_part M b7 l2 (0 : Int32)) fun x15 M15 => ck (isK M15 l0 11) <| rb (mR M15 l0 3) fun b17 => ck (isK M15 b17 5) <| bd (fX5_part M15 b17 l2 (1 : Int32)) fun x19 M19 => ck (isK M19 l0 11) <| bd (fX11_carryOutInTrial M19 l0 x15 x19) fun x21 M21 => (gX11_ends_24 n) M21 l0 l1 (l2 + (1 : Int32)))) := rfl
set_option maxRecDepth 100000 in
set_option maxHeartbeats 4000000 in
theorem wX11_ends_24 {z : Zx} {fx : Fx} {al : Bool} {r : Nat} {N : Mem} {xr : Int32} (hz : Zok z fx al yX11_ends.cls yX11_ends.name cX11_ends (some .int) 3 (r + 6) 0 0 (some (.int xr)) N)    : ∀ {n : Nat} {M : Mem} {l0 : Nat} {l1 : Int32} {l2 : Int32}, gX11_ends_24  n M l0 l1 l2 = some (xr, N) → V z 24 [some (.ref l0), some (.int l1), some (.int l2)] [] M 0 0 := by
  intro n
  induction n with
  | zero => intro M l0 l1 l2 h; cases h
  | succ n ih =>
    intro M l0 l1 l2 h
    replace h := (gX11_ends_24_s  n M l0 l1 l2).symm.trans h
    refine v_iload_n hz rfl rfl dX11_ends_24 ?_
    refine v_aload_n hz rfl rfl dX11_ends_25 ?_
    obtain ⟨ck6, h⟩ := ck_inv h
    obtain ⟨ka6, kb6⟩ := isK_of ck6
    obtain ⟨b7, r7, h⟩ := rb_inv h
    refine v_getR hz fl_X11_20 rfl dX11_ends_26 ka6 kb6 r7 ?_
    obtain ⟨ck8, h⟩ := ck_inv h
    obtain ⟨ka8, kb8⟩ := isK_of ck8
    refine v_getI hz fl_X11_226 rfl dX11_ends_29 ka8 kb8 ?_
    refine v_icmp_ge (tgt := 63) hz dX11_ends_32 (by decide) (fun hc => ?_) (fun hc => ?_)
    · replace h := (if_pos hc).symm.trans h
      refine v_iload_n hz rfl rfl dX11_ends_63 ?_
      refine v_if_ne (tgt := 77) hz dX11_ends_64 (by decide) (fun hc => ?_) (fun hc => ?_)
      · replace h := (if_neg hc).symm.trans h
        refine v_aload_n hz rfl rfl dX11_ends_77 ?_
        obtain ⟨b9, r9, h⟩ := rb_inv h
        refine v_getR hz fl_X11_94 rfl dX11_ends_78 ka6 kb6 r9 ?_
        obtain ⟨ck10, h⟩ := ck_inv h
        obtain ⟨ka10, kb10⟩ := isK_of ck10
        obtain ⟨x11, M11, e11, h⟩ := bd_inv h
        refine v_callV hz (As := []) vl_X11_172 (tX3_countBald (r + 4) e11) rfl (by decide) ka10 kb10 rfl rfl rfl (Nat.le_of_ble_eq_true rfl) ⟨by decide, by decide⟩ dX11_ends_81 ?_
        show V z 84 [some (.ref l0), some (.int l1), some (.int l2)] [.int x11] M11 0 0
        obtain ⟨rfl, rfl⟩ := sp_inv h
        exact v_iret hz dX11_ends_84 (by decide) (by decide)
      · replace h := (if_pos hc).symm.trans h
        refine v_aload_n hz rfl rfl dX11_ends_67 ?_
        obtain ⟨b12, r12, h⟩ := rb_inv h
        refine v_getR hz fl_X11_94 rfl dX11_ends_68 ka6 kb6 r12 ?_
        obtain ⟨ck13, h⟩ := ck_inv h
        obtain ⟨ka13, kb13⟩ := isK_of ck13
        obtain ⟨x14, M14, e14, h⟩ := bd_inv h
        refine v_callV hz (As := []) vl_X11_175 (tX3_wearOfAll (r + 5) e14) rfl (by decide) ka13 kb13 rfl rfl rfl (Nat.le_of_ble_eq_true rfl) ⟨by decide, by decide⟩ dX11_ends_71 ?_
        show V z 74 [some (.ref l0), some (.int l1), some (.int l2)] [.int x14] M14 0 0
        refine v_goto (tgt := 84) hz dX11_ends_74 (by decide) ?_
        obtain ⟨rfl, rfl⟩ := sp_inv h
        exact v_iret hz dX11_ends_84 (by decide) (by decide)
    · replace h := (if_neg hc).symm.trans h
      refine v_aload_n hz rfl rfl dX11_ends_35 ?_
      refine v_aload_n hz rfl rfl dX11_ends_36 ?_
      refine v_getR hz fl_X11_20 rfl dX11_ends_37 ka6 kb6 r7 ?_
      refine v_iload_n hz rfl rfl dX11_ends_40 ?_
      refine v_iconst hz (v := (0 : Int32)) (by decide) dX11_ends_41 ?_
      obtain ⟨x15, M15, e15, h⟩ := bd_inv h
      refine v_callV hz (As := [.int l2, .int (0 : Int32)]) vl_X11_229 (tX5_part (r + 5) e15) rfl (by decide) ka8 kb8 rfl rfl rfl (Nat.le_of_ble_eq_true rfl) ⟨by decide, by decide⟩ dX11_ends_42 ?_
      show V z 45 [some (.ref l0), some (.int l1), some (.int l2)] [.int x15, .ref l0] M15 0 0
      refine v_aload_n hz rfl rfl dX11_ends_45 ?_
      obtain ⟨ck16, h⟩ := ck_inv h
      obtain ⟨ka16, kb16⟩ := isK_of ck16
      obtain ⟨b17, r17, h⟩ := rb_inv h
      refine v_getR hz fl_X11_20 rfl dX11_ends_46 ka16 kb16 r17 ?_
      refine v_iload_n hz rfl rfl dX11_ends_49 ?_
      refine v_iconst hz (v := (1 : Int32)) (by decide) dX11_ends_50 ?_
      obtain ⟨ck18, h⟩ := ck_inv h
      obtain ⟨ka18, kb18⟩ := isK_of ck18
      obtain ⟨x19, M19, e19, h⟩ := bd_inv h
      refine v_callV hz (As := [.int l2, .int (1 : Int32)]) vl_X11_229 (tX5_part (r + 5) e19) rfl (by decide) ka18 kb18 rfl rfl rfl (Nat.le_of_ble_eq_true rfl) ⟨by decide, by decide⟩ dX11_ends_51 ?_
      show V z 54 [some (.ref l0), some (.int l1), some (.int l2)] [.int x19, .int x15, .ref l0] M19 0 0
      obtain ⟨ck20, h⟩ := ck_inv h
      obtain ⟨ka20, kb20⟩ := isK_of ck20
      obtain ⟨x21, M21, e21, h⟩ := bd_inv h
      refine v_callV hz (As := [.int x15, .int x19]) vl_X11_232 (tX11_carryOutInTrial (r + 0) e21) rfl (by decide) ka20 kb20 rfl rfl rfl (Nat.le_of_ble_eq_true rfl) ⟨by decide, by decide⟩ dX11_ends_54 ?_
      show V z 57 [some (.ref l0), some (.int l1), some (.int l2)] [] M21 0 0
      refine v_iinc hz (v := (l2 + (1 : Int32))) (lw := [some (.ref l0), some (.int l1), some (.int (l2 + (1 : Int32)))]) rfl (congrArg (fun q => l2 + q) (show Int32.ofInt (1) = (1 : Int32) by decide)) rfl rfl dX11_ends_57 ?_
      refine v_goto (tgt := 24) hz dX11_ends_60 (by decide) ?_
      exact v_weak (lvle_s (lvle_s (lvle_s lvle_0))) (ih h)
set_option maxRecDepth 100000 in
set_option maxHeartbeats 4000000 in
theorem tX11_ends (r : Nat) {fx : Fx} {al : Bool} {M N : Mem} {a0 : Nat} {a1 : Int32} {xr : Int32}  (h : fX11_ends M a0 a1 = some (xr, N)) : Ct fx yX11_ends cX11_ends 3 (some .int) (r + 6) 0 0 al [.ref a0, .int a1] M (some (.int xr)) N := by
  refine ct_of (lv := [some (.ref a0), some (.int a1), none]) (by decide) (Nat.le_of_ble_eq_true rfl) rfl rfl (fun z hz => ?_)
  unfold fX11_ends at h
  refine v_iload_n hz rfl rfl dX11_ends_0 ?_
  refine v_if_lt (tgt := 9) hz dX11_ends_1 (by decide) (fun hc => ?_) (fun hc => ?_)
  · replace h := (if_pos hc).symm.trans h
    refine v_iconst hz (v := (-1 : Int32)) (by decide) dX11_ends_9 ?_
    obtain ⟨rfl, rfl⟩ := sp_inv h
    exact v_iret hz dX11_ends_10 (by decide) (by decide)
  · replace h := (if_neg hc).symm.trans h
    refine v_iload_n hz rfl rfl dX11_ends_4 ?_
    refine v_iconst hz (v := (1 : Int32)) (by decide) dX11_ends_5 ?_
    refine v_icmp_le (tgt := 11) hz dX11_ends_6 (by decide) (fun hc => ?_) (fun hc => ?_)
    · replace h := (if_pos hc).symm.trans h
      refine v_aload_n hz rfl rfl dX11_ends_11 ?_
      obtain ⟨ck1, h⟩ := ck_inv h
      obtain ⟨ka1, kb1⟩ := isK_of ck1
      obtain ⟨b2, r2, h⟩ := rb_inv h
      refine v_getR hz fl_X11_94 rfl dX11_ends_12 ka1 kb1 r2 ?_
      refine v_aload_n hz rfl rfl dX11_ends_15 ?_
      obtain ⟨b3, r3, h⟩ := rb_inv h
      refine v_getR hz fl_X11_90 rfl dX11_ends_16 ka1 kb1 r3 ?_
      obtain ⟨ck4, h⟩ := ck_inv h
      obtain ⟨ka4, kb4⟩ := isK_of ck4
      obtain ⟨x5, M5, e5, h⟩ := bd_inv h
      refine v_callV hz (As := [.ref b3]) vl_X11_187 (tX3_take (r + 4) e5) rfl (by decide) ka4 kb4 rfl rfl rfl (Nat.le_of_ble_eq_true rfl) ⟨by decide, by decide⟩ dX11_ends_19 ?_
      show V z 22 [some (.ref a0), some (.int a1), none] [] M5 0 0
      refine v_iconst hz (v := (0 : Int32)) (by decide) dX11_ends_22 ?_
      refine v_istore_n hz (lw := [some (.ref a0), some (.int a1), some (.int (0 : Int32))]) rfl (Nat.le_of_ble_eq_true rfl) rfl rfl dX11_ends_23 ?_
      exact v_weak (lvle_s (lvle_s (lvle_s lvle_0))) (wX11_ends_24 hz   h)
    · replace h := (if_neg hc).symm.trans h
      refine v_iconst hz (v := (-1 : Int32)) (by decide) dX11_ends_9 ?_
      obtain ⟨rfl, rfl⟩ := sp_inv h
      exact v_iret hz dX11_ends_10 (by decide) (by decide)
noncomputable def fX11_book (M : Mem) (a0 : Nat) (a1 : Int32) (a2 : Int32) : Option (Int32 × Mem) :=
  if a1 = (-1 : Int32) then (ck (isK M a0 11) <| rb (mR M a0 4) fun b9 => ck (isK M b9 5) <| bd (fX5_clear M b9) fun x11 M11 => some (x11, M11)) else (ck (isK M a0 11) <| bd (fX11_isPerson M a0 a1) fun x2 M2 => if x2 = 0 then (some ((-1 : Int32), M2)) else (bd (fX11_isCell M2 a2) fun x3 M3 => if x3 = 0 then (some ((-1 : Int32), M3)) else (ck (isK M3 a0 11) <| rb (mR M3 a0 4) fun b5 => ck (isK M3 b5 5) <| bd (fX5_add M3 b5 a1 a2 (0 : Int32)) fun x7 M7 => some (x7, M7))))
set_option maxRecDepth 100000 in
set_option maxHeartbeats 4000000 in
theorem tX11_book (r : Nat) {fx : Fx} {al : Bool} {M N : Mem} {a0 : Nat} {a1 : Int32} {a2 : Int32} {xr : Int32}  (h : fX11_book M a0 a1 a2 = some (xr, N)) : Ct fx yX11_book cX11_book 3 (some .int) (r + 1) 0 0 al [.ref a0, .int a1, .int a2] M (some (.int xr)) N := by
  refine ct_of (lv := [some (.ref a0), some (.int a1), some (.int a2)]) (by decide) (Nat.le_of_ble_eq_true rfl) rfl rfl (fun z hz => ?_)
  unfold fX11_book at h
  refine v_iload_n hz rfl rfl dX11_book_0 ?_
  refine v_iconst hz (v := (-1 : Int32)) (by decide) dX11_book_1 ?_
  refine v_icmp_ne (tgt := 13) hz dX11_book_2 (by decide) (fun hc => ?_) (fun hc => ?_)
  · replace h := (if_neg hc).symm.trans h
    refine v_aload_n hz rfl rfl dX11_book_13 ?_
    refine v_iload_n hz rfl rfl dX11_book_14 ?_
    obtain ⟨ck1, h⟩ := ck_inv h
    obtain ⟨ka1, kb1⟩ := isK_of ck1
    obtain ⟨x2, M2, e2, h⟩ := bd_inv h
    refine v_callV hz (As := [.int a1]) vl_X11_111 (tX11_isPerson (r + 0) e2) rfl (by decide) ka1 kb1 rfl rfl rfl (Nat.le_of_ble_eq_true rfl) ⟨by decide, by decide⟩ dX11_book_15 ?_
    show V z 18 [some (.ref a0), some (.int a1), some (.int a2)] [.int x2] M2 0 0
    refine v_if_eq (tgt := 28) hz dX11_book_18 (by decide) (fun hc => ?_) (fun hc => ?_)
    · replace h := (if_pos hc).symm.trans h
      refine v_iconst hz (v := (-1 : Int32)) (by decide) dX11_book_28 ?_
      obtain ⟨rfl, rfl⟩ := sp_inv h
      exact v_iret hz dX11_book_29 (by decide) (by decide)
    · replace h := (if_neg hc).symm.trans h
      refine v_iload_n hz rfl rfl dX11_book_21 ?_
      obtain ⟨x3, M3, e3, h⟩ := bd_inv h
      refine v_callS hz (As := [.int a2]) sl_X11_100 (tX11_isCell (r + 0) e3) rfl rfl rfl (Nat.le_of_ble_eq_true rfl) ⟨by decide, by decide⟩ dX11_book_22 ?_
      show V z 25 [some (.ref a0), some (.int a1), some (.int a2)] [.int x3] M3 0 0
      refine v_if_ne (tgt := 30) hz dX11_book_25 (by decide) (fun hc => ?_) (fun hc => ?_)
      · replace h := (if_neg hc).symm.trans h
        refine v_aload_n hz rfl rfl dX11_book_30 ?_
        obtain ⟨ck4, h⟩ := ck_inv h
        obtain ⟨ka4, kb4⟩ := isK_of ck4
        obtain ⟨b5, r5, h⟩ := rb_inv h
        refine v_getR hz fl_X11_23 rfl dX11_book_31 ka4 kb4 r5 ?_
        refine v_iload_n hz rfl rfl dX11_book_34 ?_
        refine v_iload_n hz rfl rfl dX11_book_35 ?_
        refine v_iconst hz (v := (0 : Int32)) (by decide) dX11_book_36 ?_
        obtain ⟨ck6, h⟩ := ck_inv h
        obtain ⟨ka6, kb6⟩ := isK_of ck6
        obtain ⟨x7, M7, e7, h⟩ := bd_inv h
        refine v_callV hz (As := [.int a1, .int a2, .int (0 : Int32)]) vl_X11_210 (tX5_add (r + 0) e7) rfl (by decide) ka6 kb6 rfl rfl rfl (Nat.le_of_ble_eq_true rfl) ⟨by decide, by decide⟩ dX11_book_37 ?_
        show V z 40 [some (.ref a0), some (.int a1), some (.int a2)] [.int x7] M7 0 0
        obtain ⟨rfl, rfl⟩ := sp_inv h
        exact v_iret hz dX11_book_40 (by decide) (by decide)
      · replace h := (if_pos hc).symm.trans h
        refine v_iconst hz (v := (-1 : Int32)) (by decide) dX11_book_28 ?_
        obtain ⟨rfl, rfl⟩ := sp_inv h
        exact v_iret hz dX11_book_29 (by decide) (by decide)
  · replace h := (if_pos hc).symm.trans h
    refine v_aload_n hz rfl rfl dX11_book_5 ?_
    obtain ⟨ck8, h⟩ := ck_inv h
    obtain ⟨ka8, kb8⟩ := isK_of ck8
    obtain ⟨b9, r9, h⟩ := rb_inv h
    refine v_getR hz fl_X11_23 rfl dX11_book_6 ka8 kb8 r9 ?_
    obtain ⟨ck10, h⟩ := ck_inv h
    obtain ⟨ka10, kb10⟩ := isK_of ck10
    obtain ⟨x11, M11, e11, h⟩ := bd_inv h
    refine v_callV hz (As := []) vl_X11_207 (tX5_clear (r + 0) e11) rfl (by decide) ka10 kb10 rfl rfl rfl (Nat.le_of_ble_eq_true rfl) ⟨by decide, by decide⟩ dX11_book_9 ?_
    show V z 12 [some (.ref a0), some (.int a1), some (.int a2)] [.int x11] M11 0 0
    obtain ⟨rfl, rfl⟩ := sp_inv h
    exact v_iret hz dX11_book_12 (by decide) (by decide)
noncomputable def gX11_looked_2  : Nat → Mem → Nat → Int32 → Option (Int32 × Mem)
  | 0, _, _, _ => none
  | n + 1, M, l0, l1 => ck (isK M l0 11) <| rb (mR M l0 4) fun b2 => ck (isK M b2 5) <| if (mI M b2 2) ≤ l1 then (some ((-5 : Int32), M)) else (rb (mR M l0 0) fun b4 => ck (isK M b4 3) <| rb (mR M b4 7) fun b6 => bd (fX5_part M b2 l1 (0 : Int32)) fun x7 M7 => ck (isK M7 b6 14) <| ck (inb x7 (mG M7 b6)) <| ck (isK M7 l0 11) <| rb (mR M7 l0 4) fun b11 => ck (isK M7 b11 5) <| bd (fX5_part M7 b11 l1 (1 : Int32)) fun x13 M13 => if (mI M7 b6 x7.toNatClampNeg) = x13 then ((gX11_looked_2 n) M13 l0 (l1 + (1 : Int32))) else (some (l1, M13)))
noncomputable def fX11_looked (M : Mem) (a0 : Nat) : Option (Int32 × Mem) :=
  gX11_looked_2 FU M a0 (0 : Int32)
set_option maxRecDepth 100000 in
set_option maxHeartbeats 4000000 in
theorem gX11_looked_2_s  (n : Nat) (M : Mem) (l0 : Nat) (l1 : Int32) : gX11_looked_2  (n + 1) M l0 l1 = (ck (isK M l0 11) <| rb (mR M l0 4) fun b2 => ck (isK M b2 5) <| if (mI M b2 2) ≤ l1 then (some ((-5 : Int32), M)) else (rb (mR M l0 0) fun b4 => ck (isK M b4 3) <| rb (mR M b4 7) fun b6 => bd (fX5_part M b2 l1 (0 : Int32)) fun x7 M7 => ck (isK M7 b6 14) <| ck (inb x7 (mG M7 b6)) <| ck (isK M7 l0 11) <| rb (mR M7 l0 4) fun b11 => ck (isK M7 b11 5) <| bd (fX5_part M7 b11 l1 (1 : Int32)) fun x13 M13 => if (mI M7 b6 x7.toNatClampNeg) = x13 then ((gX11_looked_2 n) M13 l0 (l1 + (1 : Int32))) else (some (l1, M13)))) := rfl
set_option maxRecDepth 100000 in
set_option maxHeartbeats 4000000 in
theorem wX11_looked_2 {z : Zx} {fx : Fx} {al : Bool} {r : Nat} {N : Mem} {xr : Int32} (hz : Zok z fx al yX11_looked.cls yX11_looked.name cX11_looked (some .int) 2 (r + 1) 0 0 (some (.int xr)) N)    : ∀ {n : Nat} {M : Mem} {l0 : Nat} {l1 : Int32}, gX11_looked_2  n M l0 l1 = some (xr, N) → V z 2 [some (.ref l0), some (.int l1)] [] M 0 0 := by
  intro n
  induction n with
  | zero => intro M l0 l1 h; cases h
  | succ n ih =>
    intro M l0 l1 h
    replace h := (gX11_looked_2_s  n M l0 l1).symm.trans h
    refine v_iload_n hz rfl rfl dX11_looked_2 ?_
    refine v_aload_n hz rfl rfl dX11_looked_3 ?_
    obtain ⟨ck1, h⟩ := ck_inv h
    obtain ⟨ka1, kb1⟩ := isK_of ck1
    obtain ⟨b2, r2, h⟩ := rb_inv h
    refine v_getR hz fl_X11_23 rfl dX11_looked_4 ka1 kb1 r2 ?_
    obtain ⟨ck3, h⟩ := ck_inv h
    obtain ⟨ka3, kb3⟩ := isK_of ck3
    refine v_getI hz fl_X11_226 rfl dX11_looked_7 ka3 kb3 ?_
    refine v_icmp_ge (tgt := 50) hz dX11_looked_10 (by decide) (fun hc => ?_) (fun hc => ?_)
    · replace h := (if_pos hc).symm.trans h
      refine v_bipush hz (v := (-5 : Int32)) (by decide) dX11_looked_50 ?_
      obtain ⟨rfl, rfl⟩ := sp_inv h
      exact v_iret hz dX11_looked_52 (by decide) (by decide)
    · replace h := (if_neg hc).symm.trans h
      refine v_aload_n hz rfl rfl dX11_looked_13 ?_
      obtain ⟨b4, r4, h⟩ := rb_inv h
      refine v_getR hz fl_X11_90 rfl dX11_looked_14 ka1 kb1 r4 ?_
      obtain ⟨ck5, h⟩ := ck_inv h
      obtain ⟨ka5, kb5⟩ := isK_of ck5
      obtain ⟨b6, r6, h⟩ := rb_inv h
      refine v_getR hz fl_X11_120 rfl dX11_looked_17 ka5 kb5 r6 ?_
      refine v_aload_n hz rfl rfl dX11_looked_20 ?_
      refine v_getR hz fl_X11_23 rfl dX11_looked_21 ka1 kb1 r2 ?_
      refine v_iload_n hz rfl rfl dX11_looked_24 ?_
      refine v_iconst hz (v := (0 : Int32)) (by decide) dX11_looked_25 ?_
      obtain ⟨x7, M7, e7, h⟩ := bd_inv h
      refine v_callV hz (As := [.int l1, .int (0 : Int32)]) vl_X11_229 (tX5_part (r + 0) e7) rfl (by decide) ka3 kb3 rfl rfl rfl (Nat.le_of_ble_eq_true rfl) ⟨by decide, by decide⟩ dX11_looked_26 ?_
      show V z 29 [some (.ref l0), some (.int l1)] [.int x7, .ref b6] M7 0 0
      obtain ⟨ck8, h⟩ := ck_inv h
      obtain ⟨ka8, kb8⟩ := isK_of ck8
      obtain ⟨g9, h⟩ := ck_inv h
      refine v_iaload hz dX11_looked_29 ka8 kb8 g9 ?_
      refine v_aload_n hz rfl rfl dX11_looked_30 ?_
      obtain ⟨ck10, h⟩ := ck_inv h
      obtain ⟨ka10, kb10⟩ := isK_of ck10
      obtain ⟨b11, r11, h⟩ := rb_inv h
      refine v_getR hz fl_X11_23 rfl dX11_looked_31 ka10 kb10 r11 ?_
      refine v_iload_n hz rfl rfl dX11_looked_34 ?_
      refine v_iconst hz (v := (1 : Int32)) (by decide) dX11_looked_35 ?_
      obtain ⟨ck12, h⟩ := ck_inv h
      obtain ⟨ka12, kb12⟩ := isK_of ck12
      obtain ⟨x13, M13, e13, h⟩ := bd_inv h
      refine v_callV hz (As := [.int l1, .int (1 : Int32)]) vl_X11_229 (tX5_part (r + 0) e13) rfl (by decide) ka12 kb12 rfl rfl rfl (Nat.le_of_ble_eq_true rfl) ⟨by decide, by decide⟩ dX11_looked_36 ?_
      show V z 39 [some (.ref l0), some (.int l1)] [.int x13, .int (mI M7 b6 x7.toNatClampNeg)] M13 0 0
      refine v_icmp_eq (tgt := 44) hz dX11_looked_39 (by decide) (fun hc => ?_) (fun hc => ?_)
      · replace h := (if_pos hc).symm.trans h
        refine v_iinc hz (v := (l1 + (1 : Int32))) (lw := [some (.ref l0), some (.int (l1 + (1 : Int32)))]) rfl (congrArg (fun q => l1 + q) (show Int32.ofInt (1) = (1 : Int32) by decide)) rfl rfl dX11_looked_44 ?_
        refine v_goto (tgt := 2) hz dX11_looked_47 (by decide) ?_
        exact v_weak (lvle_s (lvle_s lvle_0)) (ih h)
      · replace h := (if_neg hc).symm.trans h
        refine v_iload_n hz rfl rfl dX11_looked_42 ?_
        obtain ⟨rfl, rfl⟩ := sp_inv h
        exact v_iret hz dX11_looked_43 (by decide) (by decide)
set_option maxRecDepth 100000 in
set_option maxHeartbeats 4000000 in
theorem tX11_looked (r : Nat) {fx : Fx} {al : Bool} {M N : Mem} {a0 : Nat} {xr : Int32}  (h : fX11_looked M a0 = some (xr, N)) : Ct fx yX11_looked cX11_looked 2 (some .int) (r + 1) 0 0 al [.ref a0] M (some (.int xr)) N := by
  refine ct_of (lv := [some (.ref a0), none]) (by decide) (Nat.le_of_ble_eq_true rfl) rfl rfl (fun z hz => ?_)
  unfold fX11_looked at h
  refine v_iconst hz (v := (0 : Int32)) (by decide) dX11_looked_0 ?_
  refine v_istore_n hz (lw := [some (.ref a0), some (.int (0 : Int32))]) rfl (Nat.le_of_ble_eq_true rfl) rfl rfl dX11_looked_1 ?_
  exact v_weak (lvle_s (lvle_s lvle_0)) (wX11_looked_2 hz   h)
noncomputable def fX11_isTape (M : Mem) (a0 : Int32) : Option (Int32 × Mem) :=
  if a0 < 0 then (some ((0 : Int32), M)) else (if (6 : Int32) ≤ a0 then (some ((0 : Int32), M)) else (some ((1 : Int32), M)))
set_option maxRecDepth 100000 in
set_option maxHeartbeats 4000000 in
theorem tX11_isTape (r : Nat) {fx : Fx} {al : Bool} {M N : Mem} {a0 : Int32} {xr : Int32}  (h : fX11_isTape M a0 = some (xr, N)) : Ct fx yX11_isTape cX11_isTape 1 (some .boolean) (r + 0) 0 0 al [.int a0] M (some (.int xr)) N := by
  refine ct_of (lv := [some (.int a0)]) (by decide) (Nat.le_of_ble_eq_true rfl) rfl rfl (fun z hz => ?_)
  unfold fX11_isTape at h
  refine v_iload_n hz rfl rfl dX11_isTape_0 ?_
  refine v_if_lt (tgt := 14) hz dX11_isTape_1 (by decide) (fun hc => ?_) (fun hc => ?_)
  · replace h := (if_pos hc).symm.trans h
    refine v_iconst hz (v := (0 : Int32)) (by decide) dX11_isTape_14 ?_
    obtain ⟨rfl, rfl⟩ := sp_inv h
    exact v_zret hz (Or.inl rfl) dX11_isTape_15 (by decide) (by decide)
  · replace h := (if_neg hc).symm.trans h
    refine v_iload_n hz rfl rfl dX11_isTape_4 ?_
    refine v_bipush hz (v := (6 : Int32)) (by decide) dX11_isTape_5 ?_
    refine v_icmp_ge (tgt := 14) hz dX11_isTape_7 (by decide) (fun hc => ?_) (fun hc => ?_)
    · replace h := (if_pos hc).symm.trans h
      refine v_iconst hz (v := (0 : Int32)) (by decide) dX11_isTape_14 ?_
      obtain ⟨rfl, rfl⟩ := sp_inv h
      exact v_zret hz (Or.inl rfl) dX11_isTape_15 (by decide) (by decide)
    · replace h := (if_neg hc).symm.trans h
      refine v_iconst hz (v := (1 : Int32)) (by decide) dX11_isTape_10 ?_
      refine v_goto (tgt := 15) hz dX11_isTape_11 (by decide) ?_
      obtain ⟨rfl, rfl⟩ := sp_inv h
      exact v_zret hz (Or.inr rfl) dX11_isTape_15 (by decide) (by decide)
