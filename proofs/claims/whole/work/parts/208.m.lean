noncomputable def fX11_see (M : Mem) (a0 : Nat) (a1 : Int32) (a2 : Int32) (a3 : Int32) : Option (Int32 × Mem) :=
  if a1 = (-1 : Int32) then (ck (isK M a0 11) <| rb (mR M a0 2) fun b9 => ck (isK M b9 5) <| bd (fX5_clear M b9) fun x11 M11 => some (x11, M11)) else (ck (isK M a0 11) <| bd (fX11_isPerson M a0 a1) fun x2 M2 => if x2 = 0 then (some ((-1 : Int32), M2)) else (bd (fX11_isCell M2 a3) fun x3 M3 => if x3 = 0 then (some ((-1 : Int32), M3)) else (if a2 < 0 then (some ((-2 : Int32), M3)) else (if a2 ≤ (8 : Int32) then (ck (isK M3 a0 11) <| rb (mR M3 a0 2) fun b5 => ck (isK M3 b5 5) <| bd (fX5_add M3 b5 a1 a2 a3) fun x7 M7 => some (x7, M7)) else (some ((-2 : Int32), M3))))))
set_option maxRecDepth 100000 in
set_option maxHeartbeats 4000000 in
theorem tX11_see (r : Nat) {fx : Fx} {al : Bool} {M N : Mem} {a0 : Nat} {a1 : Int32} {a2 : Int32} {a3 : Int32} {xr : Int32}  (h : fX11_see M a0 a1 a2 a3 = some (xr, N)) : Ct fx yX11_see cX11_see 4 (some .int) (r + 1) 0 0 al [.ref a0, .int a1, .int a2, .int a3] M (some (.int xr)) N := by
  refine ct_of (lv := [some (.ref a0), some (.int a1), some (.int a2), some (.int a3)]) (by decide) (Nat.le_of_ble_eq_true rfl) rfl rfl (fun z hz => ?_)
  unfold fX11_see at h
  refine v_iload_n hz rfl rfl dX11_see_0 ?_
  refine v_iconst hz (v := (-1 : Int32)) (by decide) dX11_see_1 ?_
  refine v_icmp_ne (tgt := 13) hz dX11_see_2 (by decide) (fun hc => ?_) (fun hc => ?_)
  · replace h := (if_neg hc).symm.trans h
    refine v_aload_n hz rfl rfl dX11_see_13 ?_
    refine v_iload_n hz rfl rfl dX11_see_14 ?_
    obtain ⟨ck1, h⟩ := ck_inv h
    obtain ⟨ka1, kb1⟩ := isK_of ck1
    obtain ⟨x2, M2, e2, h⟩ := bd_inv h
    refine v_callV hz (As := [.int a1]) vl_X11_111 (tX11_isPerson (r + 0) e2) rfl (by decide) ka1 kb1 rfl rfl rfl (Nat.le_of_ble_eq_true rfl) ⟨by decide, by decide⟩ dX11_see_15 ?_
    show V z 18 [some (.ref a0), some (.int a1), some (.int a2), some (.int a3)] [.int x2] M2 0 0
    refine v_if_eq (tgt := 28) hz dX11_see_18 (by decide) (fun hc => ?_) (fun hc => ?_)
    · replace h := (if_pos hc).symm.trans h
      refine v_iconst hz (v := (-1 : Int32)) (by decide) dX11_see_28 ?_
      obtain ⟨rfl, rfl⟩ := sp_inv h
      exact v_iret hz dX11_see_29 (by decide) (by decide)
    · replace h := (if_neg hc).symm.trans h
      refine v_iload_n hz rfl rfl dX11_see_21 ?_
      obtain ⟨x3, M3, e3, h⟩ := bd_inv h
      refine v_callS hz (As := [.int a3]) sl_X11_100 (tX11_isCell (r + 0) e3) rfl rfl rfl (Nat.le_of_ble_eq_true rfl) ⟨by decide, by decide⟩ dX11_see_22 ?_
      show V z 25 [some (.ref a0), some (.int a1), some (.int a2), some (.int a3)] [.int x3] M3 0 0
      refine v_if_ne (tgt := 30) hz dX11_see_25 (by decide) (fun hc => ?_) (fun hc => ?_)
      · replace h := (if_neg hc).symm.trans h
        refine v_iload_n hz rfl rfl dX11_see_30 ?_
        refine v_if_lt (tgt := 40) hz dX11_see_31 (by decide) (fun hc => ?_) (fun hc => ?_)
        · replace h := (if_pos hc).symm.trans h
          refine v_bipush hz (v := (-2 : Int32)) (by decide) dX11_see_40 ?_
          obtain ⟨rfl, rfl⟩ := sp_inv h
          exact v_iret hz dX11_see_42 (by decide) (by decide)
        · replace h := (if_neg hc).symm.trans h
          refine v_iload_n hz rfl rfl dX11_see_34 ?_
          refine v_bipush hz (v := (8 : Int32)) (by decide) dX11_see_35 ?_
          refine v_icmp_le (tgt := 43) hz dX11_see_37 (by decide) (fun hc => ?_) (fun hc => ?_)
          · replace h := (if_pos hc).symm.trans h
            refine v_aload_n hz rfl rfl dX11_see_43 ?_
            obtain ⟨ck4, h⟩ := ck_inv h
            obtain ⟨ka4, kb4⟩ := isK_of ck4
            obtain ⟨b5, r5, h⟩ := rb_inv h
            refine v_getR hz fl_X11_16 rfl dX11_see_44 ka4 kb4 r5 ?_
            refine v_iload_n hz rfl rfl dX11_see_47 ?_
            refine v_iload_n hz rfl rfl dX11_see_48 ?_
            refine v_iload_n hz rfl rfl dX11_see_49 ?_
            obtain ⟨ck6, h⟩ := ck_inv h
            obtain ⟨ka6, kb6⟩ := isK_of ck6
            obtain ⟨x7, M7, e7, h⟩ := bd_inv h
            refine v_callV hz (As := [.int a1, .int a2, .int a3]) vl_X11_210 (tX5_add (r + 0) e7) rfl (by decide) ka6 kb6 rfl rfl rfl (Nat.le_of_ble_eq_true rfl) ⟨by decide, by decide⟩ dX11_see_50 ?_
            show V z 53 [some (.ref a0), some (.int a1), some (.int a2), some (.int a3)] [.int x7] M7 0 0
            obtain ⟨rfl, rfl⟩ := sp_inv h
            exact v_iret hz dX11_see_53 (by decide) (by decide)
          · replace h := (if_neg hc).symm.trans h
            refine v_bipush hz (v := (-2 : Int32)) (by decide) dX11_see_40 ?_
            obtain ⟨rfl, rfl⟩ := sp_inv h
            exact v_iret hz dX11_see_42 (by decide) (by decide)
      · replace h := (if_pos hc).symm.trans h
        refine v_iconst hz (v := (-1 : Int32)) (by decide) dX11_see_28 ?_
        obtain ⟨rfl, rfl⟩ := sp_inv h
        exact v_iret hz dX11_see_29 (by decide) (by decide)
  · replace h := (if_pos hc).symm.trans h
    refine v_aload_n hz rfl rfl dX11_see_5 ?_
    obtain ⟨ck8, h⟩ := ck_inv h
    obtain ⟨ka8, kb8⟩ := isK_of ck8
    obtain ⟨b9, r9, h⟩ := rb_inv h
    refine v_getR hz fl_X11_16 rfl dX11_see_6 ka8 kb8 r9 ?_
    obtain ⟨ck10, h⟩ := ck_inv h
    obtain ⟨ka10, kb10⟩ := isK_of ck10
    obtain ⟨x11, M11, e11, h⟩ := bd_inv h
    refine v_callV hz (As := []) vl_X11_207 (tX5_clear (r + 0) e11) rfl (by decide) ka10 kb10 rfl rfl rfl (Nat.le_of_ble_eq_true rfl) ⟨by decide, by decide⟩ dX11_see_9 ?_
    show V z 12 [some (.ref a0), some (.int a1), some (.int a2), some (.int a3)] [.int x11] M11 0 0
    obtain ⟨rfl, rfl⟩ := sp_inv h
    exact v_iret hz dX11_see_12 (by decide) (by decide)
noncomputable def gX11_trialIsAsSeen_57 (K2 : Mem → Nat → Int32 → Int32 → Option (Int32 × Mem)) (M : Mem) (l0 : Nat) (l1 : Int32) (l2 : Int32) : Option (Int32 × Mem) :=
  K2 M l0 l1 (l2 + (1 : Int32))
noncomputable def gX11_trialIsAsSeen_2  : Nat → Mem → Nat → Int32 → Int32 → Option (Int32 × Mem)
  | 0, _, _, _, _ => none
  | n + 1, M, l0, l1, l2 => ck (isK M l0 11) <| rb (mR M l0 2) fun b2 => ck (isK M b2 5) <| if (mI M b2 2) ≤ l2 then (some ((1 : Int32), M)) else (bd (fX5_part M b2 l2 (1 : Int32)) fun x4 M4 => if x4 = l1 then (ck (isK M4 l0 11) <| rb (mR M4 l0 1) fun b6 => ck (isK M4 b6 3) <| rb (mR M4 b6 7) fun b8 => rb (mR M4 l0 2) fun b9 => ck (isK M4 b9 5) <| bd (fX5_part M4 b9 l2 (0 : Int32)) fun x11 M11 => ck (isK M11 b8 14) <| ck (inb x11 (mG M11 b8)) <| ck (isK M11 l0 11) <| rb (mR M11 l0 2) fun b15 => ck (isK M11 b15 5) <| bd (fX5_part M11 b15 l2 (2 : Int32)) fun x17 M17 => if (mI M11 b8 x11.toNatClampNeg) = x17 then (gX11_trialIsAsSeen_57 (gX11_trialIsAsSeen_2 n) M17 l0 l1 l2) else (some ((0 : Int32), M17))) else (gX11_trialIsAsSeen_57 (gX11_trialIsAsSeen_2 n) M4 l0 l1 l2))
noncomputable def fX11_trialIsAsSeen (M : Mem) (a0 : Nat) (a1 : Int32) : Option (Int32 × Mem) :=
  gX11_trialIsAsSeen_2 FU M a0 a1 (0 : Int32)
set_option maxRecDepth 100000 in
set_option maxHeartbeats 4000000 in
theorem wX11_trialIsAsSeen_57 {z : Zx} {fx : Fx} {al : Bool} {r : Nat} {N : Mem} {xr : Int32} (hz : Zok z fx al yX11_trialIsAsSeen.cls yX11_trialIsAsSeen.name cX11_trialIsAsSeen (some .boolean) 3 (r + 1) 0 0 (some (.int xr)) N)  {K2 : Mem → Nat → Int32 → Int32 → Option (Int32 × Mem)} (hK2 : ∀ {M : Mem} {l0 : Nat} {l1 : Int32} {l2 : Int32}, K2 M l0 l1 l2 = some (xr, N) → V z 2 [some (.ref l0), some (.int l1), some (.int l2)] [] M 0 0) {M : Mem} {l0 : Nat} {l1 : Int32} {l2 : Int32} (h : gX11_trialIsAsSeen_57 K2 M l0 l1 l2 = some (xr, N)) : V z 57 [some (.ref l0), some (.int l1), some (.int l2)] [] M 0 0 := by
  unfold gX11_trialIsAsSeen_57 at h
  refine v_iinc hz (v := (l2 + (1 : Int32))) (lw := [some (.ref l0), some (.int l1), some (.int (l2 + (1 : Int32)))]) rfl (congrArg (fun q => l2 + q) (show Int32.ofInt (1) = (1 : Int32) by decide)) rfl rfl dX11_trialIsAsSeen_57 ?_
  refine v_goto (tgt := 2) hz dX11_trialIsAsSeen_60 (by decide) ?_
  exact v_weak (lvle_s (lvle_s (lvle_s lvle_0))) (hK2 h)
set_option maxRecDepth 100000 in
set_option maxHeartbeats 4000000 in
theorem gX11_trialIsAsSeen_2_s  (n : Nat) (M : Mem) (l0 : Nat) (l1 : Int32) (l2 : Int32) : gX11_trialIsAsSeen_2  (n + 1) M l0 l1 l2 = (ck (isK M l0 11) <| rb (mR M l0 2) fun b2 => ck (isK M b2 5) <| if (mI M b2 2) ≤ l2 then (some ((1 : Int32), M)) else (bd (fX5_part M b2 l2 (1 : Int32)) fun x4 M4 => if x4 = l1 then (ck (isK M4 l0 11) <| rb (mR M4 l0 1) fun b6 => ck (isK M4 b6 3) <| rb (mR M4 b6 7) fun b8 => rb (mR M4 l0 2) fun b9 => ck (isK M4 b9 5) <| bd (fX5_part M4 b9 l2 (0 : Int32)) fun x11 M11 => ck (isK M11 b8 14) <| ck (inb x11 (mG M11 b8)) <| ck (isK M11 l0 11) <| rb (mR M11 l0 2) fun b15 => ck (isK M11 b15 5) <| bd (fX5_part M11 b15 l2 (2 : Int32)) fun x17 M17 => if (mI M11 b8 x11.toNatClampNeg) = x17 then (gX11_trialIsAsSeen_57 (gX11_trialIsAsSeen_2 n) M17 l0 l1 l2) else (some ((0 : Int32), M17))) else (gX11_trialIsAsSeen_57 (gX11_trialIsAsSeen_2 n) M4 l0 l1 l2))) := rfl
set_option maxRecDepth 100000 in
set_option maxHeartbeats 4000000 in
theorem wX11_trialIsAsSeen_2 {z : Zx} {fx : Fx} {al : Bool} {r : Nat} {N : Mem} {xr : Int32} (hz : Zok z fx al yX11_trialIsAsSeen.cls yX11_trialIsAsSeen.name cX11_trialIsAsSeen (some .boolean) 3 (r + 1) 0 0 (some (.int xr)) N)    : ∀ {n : Nat} {M : Mem} {l0 : Nat} {l1 : Int32} {l2 : Int32}, gX11_trialIsAsSeen_2  n M l0 l1 l2 = some (xr, N) → V z 2 [some (.ref l0), some (.int l1), some (.int l2)] [] M 0 0 := by
  intro n
  induction n with
  | zero => intro M l0 l1 l2 h; cases h
  | succ n ih =>
    intro M l0 l1 l2 h
    replace h := (gX11_trialIsAsSeen_2_s  n M l0 l1 l2).symm.trans h
    refine v_iload_n hz rfl rfl dX11_trialIsAsSeen_2 ?_
    refine v_aload_n hz rfl rfl dX11_trialIsAsSeen_3 ?_
    obtain ⟨ck1, h⟩ := ck_inv h
    obtain ⟨ka1, kb1⟩ := isK_of ck1
    obtain ⟨b2, r2, h⟩ := rb_inv h
    refine v_getR hz fl_X11_16 rfl dX11_trialIsAsSeen_4 ka1 kb1 r2 ?_
    obtain ⟨ck3, h⟩ := ck_inv h
    obtain ⟨ka3, kb3⟩ := isK_of ck3
    refine v_getI hz fl_X11_226 rfl dX11_trialIsAsSeen_7 ka3 kb3 ?_
    refine v_icmp_ge (tgt := 63) hz dX11_trialIsAsSeen_10 (by decide) (fun hc => ?_) (fun hc => ?_)
    · replace h := (if_pos hc).symm.trans h
      refine v_iconst hz (v := (1 : Int32)) (by decide) dX11_trialIsAsSeen_63 ?_
      obtain ⟨rfl, rfl⟩ := sp_inv h
      exact v_zret hz (Or.inr rfl) dX11_trialIsAsSeen_64 (by decide) (by decide)
    · replace h := (if_neg hc).symm.trans h
      refine v_aload_n hz rfl rfl dX11_trialIsAsSeen_13 ?_
      refine v_getR hz fl_X11_16 rfl dX11_trialIsAsSeen_14 ka1 kb1 r2 ?_
      refine v_iload_n hz rfl rfl dX11_trialIsAsSeen_17 ?_
      refine v_iconst hz (v := (1 : Int32)) (by decide) dX11_trialIsAsSeen_18 ?_
      obtain ⟨x4, M4, e4, h⟩ := bd_inv h
      refine v_callV hz (As := [.int l2, .int (1 : Int32)]) vl_X11_229 (tX5_part (r + 0) e4) rfl (by decide) ka3 kb3 rfl rfl rfl (Nat.le_of_ble_eq_true rfl) ⟨by decide, by decide⟩ dX11_trialIsAsSeen_19 ?_
      show V z 22 [some (.ref l0), some (.int l1), some (.int l2)] [.int x4] M4 0 0
      refine v_iload_n hz rfl rfl dX11_trialIsAsSeen_22 ?_
      refine v_icmp_ne (tgt := 57) hz dX11_trialIsAsSeen_23 (by decide) (fun hc => ?_) (fun hc => ?_)
      · replace h := (if_neg hc).symm.trans h
        exact v_weak (lvle_s (lvle_s (lvle_s lvle_0))) (wX11_trialIsAsSeen_57 hz  (fun h => ih h) h)
      · replace h := (if_pos hc).symm.trans h
        refine v_aload_n hz rfl rfl dX11_trialIsAsSeen_26 ?_
        obtain ⟨ck5, h⟩ := ck_inv h
        obtain ⟨ka5, kb5⟩ := isK_of ck5
        obtain ⟨b6, r6, h⟩ := rb_inv h
        refine v_getR hz fl_X11_94 rfl dX11_trialIsAsSeen_27 ka5 kb5 r6 ?_
        obtain ⟨ck7, h⟩ := ck_inv h
        obtain ⟨ka7, kb7⟩ := isK_of ck7
        obtain ⟨b8, r8, h⟩ := rb_inv h
        refine v_getR hz fl_X11_120 rfl dX11_trialIsAsSeen_30 ka7 kb7 r8 ?_
        refine v_aload_n hz rfl rfl dX11_trialIsAsSeen_33 ?_
        obtain ⟨b9, r9, h⟩ := rb_inv h
        refine v_getR hz fl_X11_16 rfl dX11_trialIsAsSeen_34 ka5 kb5 r9 ?_
        refine v_iload_n hz rfl rfl dX11_trialIsAsSeen_37 ?_
        refine v_iconst hz (v := (0 : Int32)) (by decide) dX11_trialIsAsSeen_38 ?_
        obtain ⟨ck10, h⟩ := ck_inv h
        obtain ⟨ka10, kb10⟩ := isK_of ck10
        obtain ⟨x11, M11, e11, h⟩ := bd_inv h
        refine v_callV hz (As := [.int l2, .int (0 : Int32)]) vl_X11_229 (tX5_part (r + 0) e11) rfl (by decide) ka10 kb10 rfl rfl rfl (Nat.le_of_ble_eq_true rfl) ⟨by decide, by decide⟩ dX11_trialIsAsSeen_39 ?_
        show V z 42 [some (.ref l0), some (.int l1), some (.int l2)] [.int x11, .ref b8] M11 0 0
        obtain ⟨ck12, h⟩ := ck_inv h
        obtain ⟨ka12, kb12⟩ := isK_of ck12
        obtain ⟨g13, h⟩ := ck_inv h
        refine v_iaload hz dX11_trialIsAsSeen_42 ka12 kb12 g13 ?_
        refine v_aload_n hz rfl rfl dX11_trialIsAsSeen_43 ?_
        obtain ⟨ck14, h⟩ := ck_inv h
        obtain ⟨ka14, kb14⟩ := isK_of ck14
        obtain ⟨b15, r15, h⟩ := rb_inv h
        refine v_getR hz fl_X11_16 rfl dX11_trialIsAsSeen_44 ka14 kb14 r15 ?_
        refine v_iload_n hz rfl rfl dX11_trialIsAsSeen_47 ?_
        refine v_iconst hz (v := (2 : Int32)) (by decide) dX11_trialIsAsSeen_48 ?_
        obtain ⟨ck16, h⟩ := ck_inv h
        obtain ⟨ka16, kb16⟩ := isK_of ck16
        obtain ⟨x17, M17, e17, h⟩ := bd_inv h
        refine v_callV hz (As := [.int l2, .int (2 : Int32)]) vl_X11_229 (tX5_part (r + 0) e17) rfl (by decide) ka16 kb16 rfl rfl rfl (Nat.le_of_ble_eq_true rfl) ⟨by decide, by decide⟩ dX11_trialIsAsSeen_49 ?_
        show V z 52 [some (.ref l0), some (.int l1), some (.int l2)] [.int x17, .int (mI M11 b8 x11.toNatClampNeg)] M17 0 0
        refine v_icmp_eq (tgt := 57) hz dX11_trialIsAsSeen_52 (by decide) (fun hc => ?_) (fun hc => ?_)
        · replace h := (if_pos hc).symm.trans h
          exact v_weak (lvle_s (lvle_s (lvle_s lvle_0))) (wX11_trialIsAsSeen_57 hz  (fun h => ih h) h)
        · replace h := (if_neg hc).symm.trans h
          refine v_iconst hz (v := (0 : Int32)) (by decide) dX11_trialIsAsSeen_55 ?_
          obtain ⟨rfl, rfl⟩ := sp_inv h
          exact v_zret hz (Or.inl rfl) dX11_trialIsAsSeen_56 (by decide) (by decide)
set_option maxRecDepth 100000 in
set_option maxHeartbeats 4000000 in
theorem tX11_trialIsAsSeen (r : Nat) {fx : Fx} {al : Bool} {M N : Mem} {a0 : Nat} {a1 : Int32} {xr : Int32}  (h : fX11_trialIsAsSeen M a0 a1 = some (xr, N)) : Ct fx yX11_trialIsAsSeen cX11_trialIsAsSeen 3 (some .boolean) (r + 1) 0 0 al [.ref a0, .int a1] M (some (.int xr)) N := by
  refine ct_of (lv := [some (.ref a0), some (.int a1), none]) (by decide) (Nat.le_of_ble_eq_true rfl) rfl rfl (fun z hz => ?_)
  unfold fX11_trialIsAsSeen at h
  refine v_iconst hz (v := (0 : Int32)) (by decide) dX11_trialIsAsSeen_0 ?_
  refine v_istore_n hz (lw := [some (.ref a0), some (.int a1), some (.int (0 : Int32))]) rfl (Nat.le_of_ble_eq_true rfl) rfl rfl dX11_trialIsAsSeen_1 ?_
  exact v_weak (lvle_s (lvle_s (lvle_s lvle_0))) (wX11_trialIsAsSeen_2 hz   h)
noncomputable def gX11_trialGoesAsSeen_53 (K37 : Mem → Nat → Int32 → Int32 → Option (Int32 × Mem)) (M : Mem) (l0 : Nat) (l1 : Int32) (l2 : Int32) : Option (Int32 × Mem) :=
  ck (isK M l0 11) <| bd (fX11_trialIsAsSeen M l0 l2) fun x5 M5 => if x5 = 0 then (some ((0 : Int32), M5)) else (K37 M5 l0 l1 (l2 + (1 : Int32)))
noncomputable def gX11_trialGoesAsSeen_37  : Nat → Mem → Nat → Int32 → Int32 → Option (Int32 × Mem)
  | 0, _, _, _, _ => none
  | n + 1, M, l0, l1, l2 => if l1 < l2 then (some ((1 : Int32), M)) else (if l2 ≤ 0 then (gX11_trialGoesAsSeen_53 (gX11_trialGoesAsSeen_37 n) M l0 l1 l2) else (ck (isK M l0 11) <| rb (mR M l0 1) fun b7 => ck (isK M b7 3) <| bd (fX3_goHour M b7) fun x9 M9 => gX11_trialGoesAsSeen_53 (gX11_trialGoesAsSeen_37 n) M9 l0 l1 l2))
noncomputable def gX11_trialGoesAsSeen_4  : Nat → Mem → Nat → Int32 → Int32 → Option (Int32 × Mem)
  | 0, _, _, _, _ => none
  | n + 1, M, l0, l1, l2 => ck (isK M l0 11) <| rb (mR M l0 2) fun b2 => ck (isK M b2 5) <| if (mI M b2 2) ≤ l2 then (gX11_trialGoesAsSeen_37 FU M l0 l1 (0 : Int32)) else (bd (fX5_part M b2 l2 (1 : Int32)) fun x10 M10 => (gX11_trialGoesAsSeen_4 n) M10 l0 (if l1 < x10 then x10 else l1) (l2 + (1 : Int32)))
noncomputable def fX11_trialGoesAsSeen (M : Mem) (a0 : Nat) : Option (Int32 × Mem) :=
  gX11_trialGoesAsSeen_4 FU M a0 (0 : Int32) (0 : Int32)
set_option maxRecDepth 100000 in
set_option maxHeartbeats 4000000 in
theorem wX11_trialGoesAsSeen_53 {z : Zx} {fx : Fx} {al : Bool} {r : Nat} {N : Mem} {xr : Int32} (hz : Zok z fx al yX11_trialGoesAsSeen.cls yX11_trialGoesAsSeen.name cX11_trialGoesAsSeen (some .boolean) 3 (r + 5) 0 0 (some (.int xr)) N)  {K37 : Mem → Nat → Int32 → Int32 → Option (Int32 × Mem)} (hK37 : ∀ {M : Mem} {l0 : Nat} {l1 : Int32} {l2 : Int32}, K37 M l0 l1 l2 = some (xr, N) → V z 37 [some (.ref l0), some (.int l1), some (.int l2)] [] M 0 0) {M : Mem} {l0 : Nat} {l1 : Int32} {l2 : Int32} (h : gX11_trialGoesAsSeen_53 K37 M l0 l1 l2 = some (xr, N)) : V z 53 [some (.ref l0), some (.int l1), some (.int l2)] [] M 0 0 := by
  unfold gX11_trialGoesAsSeen_53 at h
  refine v_aload_n hz rfl rfl dX11_trialGoesAsSeen_53 ?_
  refine v_iload_n hz rfl rfl dX11_trialGoesAsSeen_54 ?_
  obtain ⟨ck4, h⟩ := ck_inv h
  obtain ⟨ka4, kb4⟩ := isK_of ck4
  obtain ⟨x5, M5, e5, h⟩ := bd_inv h
  refine v_callV hz (As := [.int l2]) vl_X11_303 (tX11_trialIsAsSeen (r + 3) e5) rfl (by decide) ka4 kb4 rfl rfl rfl (Nat.le_of_ble_eq_true rfl) ⟨by decide, by decide⟩ dX11_trialGoesAsSeen_55 ?_
  show V z 58 [some (.ref l0), some (.int l1), some (.int l2)] [.int x5] M5 0 0
  refine v_if_ne (tgt := 63) hz dX11_trialGoesAsSeen_58 (by decide) (fun hc => ?_) (fun hc => ?_)
  · replace h := (if_neg hc).symm.trans h
    refine v_iinc hz (v := (l2 + (1 : Int32))) (lw := [some (.ref l0), some (.int l1), some (.int (l2 + (1 : Int32)))]) rfl (congrArg (fun q => l2 + q) (show Int32.ofInt (1) = (1 : Int32) by decide)) rfl rfl dX11_trialGoesAsSeen_63 ?_
    refine v_goto (tgt := 37) hz dX11_trialGoesAsSeen_66 (by decide) ?_
    exact v_weak (lvle_s (lvle_s (lvle_s lvle_0))) (hK37 h)
  · replace h := (if_pos hc).symm.trans h
    refine v_iconst hz (v := (0 : Int32)) (by decide) dX11_trialGoesAsSeen_61 ?_
    obtain ⟨rfl, rfl⟩ := sp_inv h
    exact v_zret hz (Or.inl rfl) dX11_trialGoesAsSeen_62 (by decide) (by decide)
set_option maxRecDepth 100000 in
set_option maxHeartbeats 4000000 in
theorem gX11_trialGoesAsSeen_37_s  (n : Nat) (M : Mem) (l0 : Nat) (l1 : Int32) (l2 : Int32) : gX11_trialGoesAsSeen_37  (n + 1) M l0 l1 l2 = (if l1 < l2 then (some ((1 : Int32), M)) else (if l2 ≤ 0 then (gX11_trialGoesAsSeen_53 (gX11_trialGoesAsSeen_37 n) M l0 l1 l2) else (ck (isK M l0 11) <| rb (mR M l0 1) fun b7 => ck (isK M b7 3) <| bd (fX3_goHour M b7) fun x9 M9 => gX11_trialGoesAsSeen_53 (gX11_trialGoesAsSeen_37 n) M9 l0 l1 l2))) := rfl
set_option maxRecDepth 100000 in
set_option maxHeartbeats 4000000 in
theorem wX11_trialGoesAsSeen_37 {z : Zx} {fx : Fx} {al : Bool} {r : Nat} {N : Mem} {xr : Int32} (hz : Zok z fx al yX11_trialGoesAsSeen.cls yX11_trialGoesAsSeen.name cX11_trialGoesAsSeen (some .boolean) 3 (r + 5) 0 0 (some (.int xr)) N)    : ∀ {n : Nat} {M : Mem} {l0 : Nat} {l1 : Int32} {l2 : Int32}, gX11_trialGoesAsSeen_37  n M l0 l1 l2 = some (xr, N) → V z 37 [some (.ref l0), some (.int l1), some (.int l2)] [] M 0 0 := by
  intro n
  induction n with
  | zero => intro M l0 l1 l2 h; cases h
  | succ n ih =>
    intro M l0 l1 l2 h
    replace h := (gX11_trialGoesAsSeen_37_s  n M l0 l1 l2).symm.trans h
    refine v_iload_n hz rfl rfl dX11_trialGoesAsSeen_37 ?_
    refine v_iload_n hz rfl rfl dX11_trialGoesAsSeen_38 ?_
    refine v_icmp_gt (tgt := 69) hz dX11_trialGoesAsSeen_39 (by decide) (fun hc => ?_) (fun hc => ?_)
    · replace h := (if_pos hc).symm.trans h
      refine v_iconst hz (v := (1 : Int32)) (by decide) dX11_trialGoesAsSeen_69 ?_
      obtain ⟨rfl, rfl⟩ := sp_inv h
      exact v_zret hz (Or.inr rfl) dX11_trialGoesAsSeen_70 (by decide) (by decide)
    · replace h := (if_neg hc).symm.trans h
      refine v_iload_n hz rfl rfl dX11_trialGoesAsSeen_42 ?_
      refine v_if_le (tgt := 53) hz dX11_trialGoesAsSeen_43 (by decide) (fun hc => ?_) (fun hc => ?_)
      · replace h := (if_pos hc).symm.trans h
        exact v_weak (lvle_s (lvle_s (lvle_s lvle_0))) (wX11_trialGoesAsSeen_53 hz  (fun h => ih h) h)
      · replace h := (if_neg hc).symm.trans h
        refine v_aload_n hz rfl rfl dX11_trialGoesAsSeen_46 ?_
        obtain ⟨ck6, h⟩ := ck_inv h
        obtain ⟨ka6, kb6⟩ := isK_of ck6
        obtain ⟨b7, r7, h⟩ := rb_inv h
        refine v_getR hz fl_X11_94 rfl dX11_trialGoesAsSeen_47 ka6 kb6 r7 ?_
        obtain ⟨ck8, h⟩ := ck_inv h
        obtain ⟨ka8, kb8⟩ := isK_of ck8
        obtain ⟨x9, M9, e9, h⟩ := bd_inv h
        refine v_callV hz (As := []) vl_X11_300 (tX3_goHour (r + 0) e9) rfl (by decide) ka8 kb8 rfl rfl rfl (Nat.le_of_ble_eq_true rfl) ⟨by decide, by decide⟩ dX11_trialGoesAsSeen_50 ?_
        show V z 53 [some (.ref l0), some (.int l1), some (.int l2)] [] M9 0 0
        exact v_weak (lvle_s (lvle_s (lvle_s lvle_0))) (wX11_trialGoesAsSeen_53 hz  (fun h => ih h) h)
set_option maxRecDepth 100000 in
set_option maxHeartbeats 4000000 in
theorem gX11_trialGoesAsSeen_4_s  (n : Nat) (M : Mem) (l0 : Nat) (l1 : Int32) (l2 : Int32) : gX11_trialGoesAsSeen_4  (n + 1) M l0 l1 l2 = (ck (isK M l0 11) <| rb (mR M l0 2) fun b2 => ck (isK M b2 5) <| if (mI M b2 2) ≤ l2 then (gX11_trialGoesAsSeen_37 FU M l0 l1 (0 : Int32)) else (bd (fX5_part M b2 l2 (1 : Int32)) fun x10 M10 => (gX11_trialGoesAsSeen_4 n) M10 l0 (if l1 < x10 then x10 else l1) (l2 + (1 : Int32)))) := rfl
set_option maxRecDepth 100000 in
set_option maxHeartbeats 4000000 in
theorem wX11_trialGoesAsSeen_4 {z : Zx} {fx : Fx} {al : Bool} {r : Nat} {N : Mem} {xr : Int32} (hz : Zok z fx al yX11_trialGoesAsSeen.cls yX11_trialGoesAsSeen.name cX11_trialGoesAsSeen (some .boolean) 3 (r + 5) 0 0 (some (.int xr)) N)    : ∀ {n : Nat} {M : Mem} {l0 : Nat} {l1 : Int32} {l2 : Int32}, gX11_trialGoesAsSeen_4  n M l0 l1 l2 = some (xr, N) → V z 4 [some (.ref l0), some (.int l1), some (.int l2)] [] M 0 0 := by
  intro n
  induction n with
  | zero => intro M l0 l1 l2 h; cases h
  | succ n ih =>
    intro M l0 l1 l2 h
    replace h := (gX11_trialGoesAsSeen_4_s  n M l0 l1 l2).symm.trans h
    refine v_iload_n hz rfl rfl dX11_trialGoesAsSeen_4 ?_
    refine v_aload_n hz rfl rfl dX11_trialGoesAsSeen_5 ?_
    obtain ⟨ck1, h⟩ := ck_inv h
    obtain ⟨ka1, kb1⟩ := isK_of ck1
    obtain ⟨b2, r2, h⟩ := rb_inv h
    refine v_getR hz fl_X11_16 rfl dX11_trialGoesAsSeen_6 ka1 kb1 r2 ?_
    obtain ⟨ck3, h⟩ := ck_inv h
    obtain ⟨ka3, kb3⟩ := isK_of ck3
    refine v_getI hz fl_X11_226 rfl dX11_trialGoesAsSeen_9 ka3 kb3 ?_
    refine v_icmp_ge (tgt := 35) hz dX11_trialGoesAsSeen_12 (by decide) (fun hc => ?_) (fun hc => ?_)
    · replace h := (if_pos hc).symm.trans h
      refine v_iconst hz (v := (0 : Int32)) (by decide) dX11_trialGoesAsSeen_35 ?_
      refine v_istore_n hz (lw := [some (.ref l0), some (.int l1), some (.int (0 : Int32))]) rfl (Nat.le_of_ble_eq_true rfl) rfl rfl dX11_trialGoesAsSeen_36 ?_
      exact v_weak (lvle_s (lvle_s (lvle_s lvle_0))) (wX11_trialGoesAsSeen_37 hz   h)
    · replace h := (if_neg hc).symm.trans h
      refine v_iload_n hz rfl rfl dX11_trialGoesAsSeen_15 ?_
      refine v_aload_n hz rfl rfl dX11_trialGoesAsSeen_16 ?_
      refine v_getR hz fl_X11_16 rfl dX11_trialGoesAsSeen_17 ka1 kb1 r2 ?_
      refine v_iload_n hz rfl rfl dX11_trialGoesAsSeen_20 ?_
      refine v_iconst hz (v := (1 : Int32)) (by decide) dX11_trialGoesAsSeen_21 ?_
      obtain ⟨x10, M10, e10, h⟩ := bd_inv h
      refine v_callV hz (As := [.int l2, .int (1 : Int32)]) vl_X11_229 (tX5_part (r + 4) e10) rfl (by decide) ka3 kb3 rfl rfl rfl (Nat.le_of_ble_eq_true rfl) ⟨by decide, by decide⟩ dX11_trialGoesAsSeen_22 ?_
      show V z 25 [some (.ref l0), some (.int l1), some (.int l2)] [.int x10, .int l1] M10 0 0
      refine v_mmax hz ml_X11_295 rfl (Nat.le_of_ble_eq_true rfl) (by decide) (by decide) dX11_trialGoesAsSeen_25 ?_
      refine v_istore_n hz (lw := [some (.ref l0), some (.int (if l1 < x10 then x10 else l1)), some (.int l2)]) rfl (Nat.le_of_ble_eq_true rfl) rfl rfl dX11_trialGoesAsSeen_28 ?_
      refine v_iinc hz (v := (l2 + (1 : Int32))) (lw := [some (.ref l0), some (.int (if l1 < x10 then x10 else l1)), some (.int (l2 + (1 : Int32)))]) rfl (congrArg (fun q => l2 + q) (show Int32.ofInt (1) = (1 : Int32) by decide)) rfl rfl dX11_trialGoesAsSeen_29 ?_
      refine v_goto (tgt := 4) hz dX11_trialGoesAsSeen_32 (by decide) ?_
      exact v_weak (lvle_s (lvle_s (lvle_s lvle_0))) (ih h)
set_option maxRecDepth 100000 in
set_option maxHeartbeats 4000000 in
theorem tX11_trialGoesAsSeen (r : Nat) {fx : Fx} {al : Bool} {M N : Mem} {a0 : Nat} {xr : Int32}  (h : fX11_trialGoesAsSeen M a0 = some (xr, N)) : Ct fx yX11_trialGoesAsSeen cX11_trialGoesAsSeen 3 (some .boolean) (r + 5) 0 0 al [.ref a0] M (some (.int xr)) N := by
  refine ct_of (lv := [some (.ref a0), none, none]) (by decide) (Nat.le_of_ble_eq_true rfl) rfl rfl (fun z hz => ?_)
  unfold fX11_trialGoesAsSeen at h
  refine v_iconst hz (v := (0 : Int32)) (by decide) dX11_trialGoesAsSeen_0 ?_
  refine v_istore_n hz (lw := [some (.ref a0), some (.int (0 : Int32)), none]) rfl (Nat.le_of_ble_eq_true rfl) rfl rfl dX11_trialGoesAsSeen_1 ?_
  refine v_iconst hz (v := (0 : Int32)) (by decide) dX11_trialGoesAsSeen_2 ?_
  refine v_istore_n hz (lw := [some (.ref a0), some (.int (0 : Int32)), some (.int (0 : Int32))]) rfl (Nat.le_of_ble_eq_true rfl) rfl rfl dX11_trialGoesAsSeen_3 ?_
  exact v_weak (lvle_s (lvle_s (lvle_s lvle_0))) (wX11_trialGoesAsSeen_4 hz   h)
noncomputable def gX11_from_54 (K14 : Mem → Nat → Int32 → Int32 → Int32 → Option (Int32 × Mem)) (M : Mem) (l0 : Nat) (l1 : Int32) (l2 : Int32) (l3 : Int32) : Option (Int32 × Mem) :=
  K14 M l0 l1 l2 (l3 + (1 : Int32))
noncomputable def gX11_from_14  : Nat → Mem → Nat → Int32 → Int32 → Int32 → Option (Int32 × Mem)
  | 0, _, _, _, _, _ => none
  | n + 1, M, l0, l1, l2, l3 => if (25 : Int32) ≤ l3 then (some (l2, M)) else (ck (isK M l0 11) <| rb (mR M l0 1) fun b4 => rb (mR M l0 0) fun b5 => ck (isK M b4 3) <| bd (fX3_take M b4 b5) fun x7 M7 => ck (isK M7 l0 11) <| rb (mR M7 l0 1) fun b9 => ck (isK M7 b9 3) <| rb (mR M7 b9 7) fun b11 => ck (isK M7 b11 14) <| ck (inb l1 (mG M7 b11)) <| bd (fX11_trialGoesAsSeen (stI M7 b11 l1.toNatClampNeg l3) l0) fun x14 M14 => if x14 = 0 then (gX11_from_54 (gX11_from_14 n) M14 l0 l1 l2 l3) else (gX11_from_54 (gX11_from_14 n) M14 l0 l1 (l2 ||| ((1 : Int32) <<< (l3 &&& 31))) l3))
noncomputable def fX11_from (M : Mem) (a0 : Nat) (a1 : Int32) : Option (Int32 × Mem) :=
  ck (isK M a0 11) <| bd (fX11_isPerson M a0 a1) fun x2 M2 => if x2 = 0 then (some ((-1 : Int32), M2)) else (gX11_from_14 FU M2 a0 a1 (0 : Int32) (0 : Int32))
set_option maxRecDepth 100000 in
set_option maxHeartbeats 4000000 in
theorem wX11_from_54 {z : Zx} {fx : Fx} {al : Bool} {r : Nat} {N : Mem} {xr : Int32} (hz : Zok z fx al yX11_from.cls yX11_from.name cX11_from (some .int) 4 (r + 6) 0 0 (some (.int xr)) N)  {K14 : Mem → Nat → Int32 → Int32 → Int32 → Option (Int32 × Mem)} (hK14 : ∀ {M : Mem} {l0 : Nat} {l1 : Int32} {l2 : Int32} {l3 : Int32}, K14 M l0 l1 l2 l3 = some (xr, N) → V z 14 [some (.ref l0), some (.int l1), some (.int l2), some (.int l3)] [] M 0 0) {M : Mem} {l0 : Nat} {l1 : Int32} {l2 : Int32} {l3 : Int32} (h : gX11_from_54 K14 M l0 l1 l2 l3 = some (xr, N)) : V z 54 [some (.ref l0), some (.int l1), some (.int l2), some (.int l3)] [] M 0 0 := by
  unfold gX11_from_54 at h
  refine v_iinc hz (v := (l3 + (1 : Int32))) (lw := [some (.ref l0), some (.int l1), some (.int l2), some (.int (l3 + (1 : Int32)))]) rfl (congrArg (fun q => l3 + q) (show Int32.ofInt (1) = (1 : Int32) by decide)) rfl rfl dX11_from_54 ?_
  refine v_goto (tgt := 14) hz dX11_from_57 (by decide) ?_
  exact v_weak (lvle_s (lvle_s (lvle_s (lvle_s lvle_0)))) (hK14 h)
set_option maxRecDepth 100000 in
set_option maxHeartbeats 4000000 in
theorem gX11_from_14_s  (n : Nat) (M : Mem) (l0 : Nat) (l1 : Int32) (l2 : Int32) (l3 : Int32) : gX11_from_14  (n + 1) M l0 l1 l2 l3 = (if (25 : Int32) ≤ l3 then (some (l2, M)) else (ck (isK M l0 11) <| rb (mR M l0 1) fun b4 => rb (mR M l0 0) fun b5 => ck (isK M b4 3) <| bd (fX3_take M b4 b5) fun x7 M7 => ck (isK M7 l0 11) <| rb (mR M7 l0 1) fun b9 => ck (isK M7 b9 3) <| rb (mR M7 b9 7) fun b11 => ck (isK M7 b11 14) <| ck (inb l1 (mG M7 b11)) <| bd (fX11_trialGoesAsSeen (stI M7 b11 l1.toNatClampNeg l3) l0) fun x14 M14 => if x14 = 0 then (gX11_from_54 (gX11_from_14 n) M14 l0 l1 l2 l3) else (gX11_from_54 (gX11_from_14 n) M14 l0 l1 (l2 ||| ((1 : Int32) <<< (l3 &&& 31))) l3))) := rfl
set_option maxRecDepth 100000 in
set_option maxHeartbeats 4000000 in
theorem wX11_from_14 {z : Zx} {fx : Fx} {al : Bool} {r : Nat} {N : Mem} {xr : Int32} (hz : Zok z fx al yX11_from.cls yX11_from.name cX11_from (some .int) 4 (r + 6) 0 0 (some (.int xr)) N)    : ∀ {n : Nat} {M : Mem} {l0 : Nat} {l1 : Int32} {l2 : Int32} {l3 : Int32}, gX11_from_14  n M l0 l1 l2 l3 = some (xr, N) → V z 14 [some (.ref l0), some (.int l1), some (.int l2), some (.int l3)] [] M 0 0 := by
  intro n
  induction n with
  | zero => intro M l0 l1 l2 l3 h; cases h
  | succ n ih =>
    intro M l0 l1 l2 l3 h
    replace h := (gX11_from_14_s  n M l0 l1 l2 l3).symm.trans h
    refine v_iload_n hz rfl rfl dX11_from_14 ?_
    refine v_bipush hz (v := (25 : Int32)) (by decide) dX11_from_15 ?_
    refine v_icmp_ge (tgt := 60) hz dX11_from_17 (by decide) (fun hc => ?_) (fun hc => ?_)
    · replace h := (if_pos hc).symm.trans h
      refine v_iload_n hz rfl rfl dX11_from_60 ?_
      obtain ⟨rfl, rfl⟩ := sp_inv h
      exact v_iret hz dX11_from_61 (by decide) (by decide)
    · replace h := (if_neg hc).symm.trans h
      refine v_aload_n hz rfl rfl dX11_from_20 ?_
      obtain ⟨ck3, h⟩ := ck_inv h
      obtain ⟨ka3, kb3⟩ := isK_of ck3
      obtain ⟨b4, r4, h⟩ := rb_inv h
      refine v_getR hz fl_X11_94 rfl dX11_from_21 ka3 kb3 r4 ?_
      refine v_aload_n hz rfl rfl dX11_from_24 ?_
      obtain ⟨b5, r5, h⟩ := rb_inv h
      refine v_getR hz fl_X11_90 rfl dX11_from_25 ka3 kb3 r5 ?_
      obtain ⟨ck6, h⟩ := ck_inv h
      obtain ⟨ka6, kb6⟩ := isK_of ck6
      obtain ⟨x7, M7, e7, h⟩ := bd_inv h
      refine v_callV hz (As := [.ref b5]) vl_X11_187 (tX3_take (r + 4) e7) rfl (by decide) ka6 kb6 rfl rfl rfl (Nat.le_of_ble_eq_true rfl) ⟨by decide, by decide⟩ dX11_from_28 ?_
      show V z 31 [some (.ref l0), some (.int l1), some (.int l2), some (.int l3)] [] M7 0 0
      refine v_aload_n hz rfl rfl dX11_from_31 ?_
      obtain ⟨ck8, h⟩ := ck_inv h
      obtain ⟨ka8, kb8⟩ := isK_of ck8
      obtain ⟨b9, r9, h⟩ := rb_inv h
      refine v_getR hz fl_X11_94 rfl dX11_from_32 ka8 kb8 r9 ?_
      obtain ⟨ck10, h⟩ := ck_inv h
      obtain ⟨ka10, kb10⟩ := isK_of ck10
      obtain ⟨b11, r11, h⟩ := rb_inv h
      refine v_getR hz fl_X11_120 rfl dX11_from_35 ka10 kb10 r11 ?_
      refine v_iload_n hz rfl rfl dX11_from_38 ?_
      refine v_iload_n hz rfl rfl dX11_from_39 ?_
      obtain ⟨ck12, h⟩ := ck_inv h
      obtain ⟨ka12, kb12⟩ := isK_of ck12
      obtain ⟨g13, h⟩ := ck_inv h
      refine v_iastore hz dX11_from_40 ka12 kb12 g13 ?_
      refine v_aload_n hz rfl rfl dX11_from_41 ?_
      obtain ⟨x14, M14, e14, h⟩ := bd_inv h
      refine v_callV hz (As := []) vl_X11_213 (tX11_trialGoesAsSeen (r + 0) e14) rfl (by decide) ka8 kb8 rfl rfl rfl (Nat.le_of_ble_eq_true rfl) ⟨by decide, by decide⟩ dX11_from_42 ?_
      show V z 45 [some (.ref l0), some (.int l1), some (.int l2), some (.int l3)] [.int x14] M14 0 0
      refine v_if_eq (tgt := 54) hz dX11_from_45 (by decide) (fun hc => ?_) (fun hc => ?_)
      · replace h := (if_pos hc).symm.trans h
        exact v_weak (lvle_s (lvle_s (lvle_s (lvle_s lvle_0)))) (wX11_from_54 hz  (fun h => ih h) h)
      · replace h := (if_neg hc).symm.trans h
        refine v_iload_n hz rfl rfl dX11_from_48 ?_
        refine v_iconst hz (v := (1 : Int32)) (by decide) dX11_from_49 ?_
        refine v_iload_n hz rfl rfl dX11_from_50 ?_
        refine v_ishl hz dX11_from_51 ?_
        refine v_ior hz dX11_from_52 ?_
        refine v_istore_n hz (lw := [some (.ref l0), some (.int l1), some (.int (l2 ||| ((1 : Int32) <<< (l3 &&& 31)))), some (.int l3)]) rfl (Nat.le_of_ble_eq_true rfl) rfl rfl dX11_from_53 ?_
        exact v_weak (lvle_s (lvle_s (lvle_s (lvle_s lvle_0)))) (wX11_from_54 hz  (fun h => ih h) h)
set_option maxRecDepth 100000 in
set_option maxHeartbeats 4000000 in
theorem tX11_from (r : Nat) {fx : Fx} {al : Bool} {M N : Mem} {a0 : Nat} {a1 : Int32} {xr : Int32}  (h : fX11_from M a0 a1 = some (xr, N)) : Ct fx yX11_from cX11_from 4 (some .int) (r + 6) 0 0 al [.ref a0, .int a1] M (some (.int xr)) N := by
  refine ct_of (lv := [some (.ref a0), some (.int a1), none, none]) (by decide) (Nat.le_of_ble_eq_true rfl) rfl rfl (fun z hz => ?_)
  unfold fX11_from at h
  refine v_aload_n hz rfl rfl dX11_from_0 ?_
  refine v_iload_n hz rfl rfl dX11_from_1 ?_
  obtain ⟨ck1, h⟩ := ck_inv h
  obtain ⟨ka1, kb1⟩ := isK_of ck1
  obtain ⟨x2, M2, e2, h⟩ := bd_inv h
  refine v_callV hz (As := [.int a1]) vl_X11_111 (tX11_isPerson (r + 5) e2) rfl (by decide) ka1 kb1 rfl rfl rfl (Nat.le_of_ble_eq_true rfl) ⟨by decide, by decide⟩ dX11_from_2 ?_
  show V z 5 [some (.ref a0), some (.int a1), none, none] [.int x2] M2 0 0
  refine v_if_ne (tgt := 10) hz dX11_from_5 (by decide) (fun hc => ?_) (fun hc => ?_)
  · replace h := (if_neg hc).symm.trans h
    refine v_iconst hz (v := (0 : Int32)) (by decide) dX11_from_10 ?_
    refine v_istore_n hz (lw := [some (.ref a0), some (.int a1), some (.int (0 : Int32)), none]) rfl (Nat.le_of_ble_eq_true rfl) rfl rfl dX11_from_11 ?_
    refine v_iconst hz (v := (0 : Int32)) (by decide) dX11_from_12 ?_
    refine v_istore_n hz (lw := [some (.ref a0), some (.int a1), some (.int (0 : Int32)), some (.int (0 : Int32))]) rfl (Nat.le_of_ble_eq_true rfl) rfl rfl dX11_from_13 ?_
    exact v_weak (lvle_s (lvle_s (lvle_s (lvle_s lvle_0)))) (wX11_from_14 hz   h)
  · replace h := (if_pos hc).symm.trans h
    refine v_iconst hz (v := (-1 : Int32)) (by decide) dX11_from_8 ?_
    obtain ⟨rfl, rfl⟩ := sp_inv h
    exact v_iret hz dX11_from_9 (by decide) (by decide)
noncomputable def gX11_can_70 (K29 : Mem → Nat → Int32 → Int32 → Int32 → Int32 → Int32 → Option (Int32 × Mem)) (M : Mem) (l0 : Nat) (l1 : Int32) (l2 : Int32) (l3 : Int32) (l4 : Int32) (l5 : Int32) : Option (Int32 × Mem) :=
  K29 M l0 l1 l2 l3 l4 (l5 + (-1 : Int32))
noncomputable def gX11_can_29  : Nat → Mem → Nat → Int32 → Int32 → Int32 → Int32 → Int32 → Option (Int32 × Mem)
  | 0, _, _, _, _, _, _, _ => none
  | n + 1, M, l0, l1, l2, l3, l4, l5 => if l5 < 0 then (if l2 = 0 then (some (l3, M)) else (some (l4, M))) else (ck (isK M l0 11) <| rb (mR M l0 1) fun b4 => rb (mR M l0 0) fun b5 => ck (isK M b4 3) <| bd (fX3_take M b4 b5) fun x7 M7 => ck (isK M7 l0 11) <| rb (mR M7 l0 1) fun b9 => ck (isK M7 b9 3) <| rb (mR M7 b9 6) fun b11 => ck (isK M7 b11 14) <| ck (inb l1 (mG M7 b11)) <| bd (fX11_trialGoesAsSeen (stI M7 b11 l1.toNatClampNeg l5) l0) fun x14 M14 => if x14 = 0 then (gX11_can_70 (gX11_can_29 n) M14 l0 l1 l2 l3 l4 l5) else (gX11_can_70 (gX11_can_29 n) M14 l0 l1 l2 (l3 + (1 : Int32)) l5 l5))
noncomputable def fX11_can (M : Mem) (a0 : Nat) (a1 : Int32) (a2 : Int32) : Option (Int32 × Mem) :=
  ck (isK M a0 11) <| bd (fX11_isPerson M a0 a1) fun x2 M2 => if x2 = 0 then (some ((-1 : Int32), M2)) else (if a2 < 0 then (some ((-1 : Int32), M2)) else (if a2 ≤ (1 : Int32) then (gX11_can_29 FU M2 a0 a1 a2 (0 : Int32) (-5 : Int32) (9 : Int32)) else (some ((-1 : Int32), M2))))
set_option maxRecDepth 100000 in
set_option maxHeartbeats 4000000 in
theorem wX11_can_70 {z : Zx} {fx : Fx} {al : Bool} {r : Nat} {N : Mem} {xr : Int32} (hz : Zok z fx al yX11_can.cls yX11_can.name cX11_can (some .int) 6 (r + 6) 0 0 (some (.int xr)) N)  {K29 : Mem → Nat → Int32 → Int32 → Int32 → Int32 → Int32 → Option (Int32 × Mem)} (hK29 : ∀ {M : Mem} {l0 : Nat} {l1 : Int32} {l2 : Int32} {l3 : Int32} {l4 : Int32} {l5 : Int32}, K29 M l0 l1 l2 l3 l4 l5 = some (xr, N) → V z 29 [some (.ref l0), some (.int l1), some (.int l2), some (.int l3), some (.int l4), some (.int l5)] [] M 0 0) {M : Mem} {l0 : Nat} {l1 : Int32} {l2 : Int32} {l3 : Int32} {l4 : Int32} {l5 : Int32} (h : gX11_can_70 K29 M l0 l1 l2 l3 l4 l5 = some (xr, N)) : V z 70 [some (.ref l0), some (.int l1), some (.int l2), some (.int l3), some (.int l4), some (.int l5)] [] M 0 0 := by
  unfold gX11_can_70 at h
  refine v_iinc hz (v := (l5 + (-1 : Int32))) (lw := [some (.ref l0), some (.int l1), some (.int l2), some (.int l3), some (.int l4), some (.int (l5 + (-1 : Int32)))]) rfl (congrArg (fun q => l5 + q) (show Int32.ofInt (-1) = (-1 : Int32) by decide)) rfl rfl dX11_can_70 ?_
  refine v_goto (tgt := 29) hz dX11_can_73 (by decide) ?_
  exact v_weak (lvle_s (lvle_s (lvle_s (lvle_s (lvle_s (lvle_s lvle_0)))))) (hK29 h)
set_option maxRecDepth 100000 in
set_option maxHeartbeats 4000000 in
theorem gX11_can_29_s  (n : Nat) (M : Mem) (l0 : Nat) (l1 : Int32) (l2 : Int32) (l3 : Int32) (l4 : Int32) (l5 : Int32) : gX11_can_29  (n + 1) M l0 l1 l2 l3 l4 l5 = (if l5 < 0 then (if l2 = 0 then (some (l3, M)) else (some (l4, M))) else (ck (isK M l0 11) <| rb (mR M l0 1) fun b4 => rb (mR M l0 0) fun b5 => ck (isK M b4 3) <| bd (fX3_take M b4 b5) fun x7 M7 => ck (isK M7 l0 11) <| rb (mR M7 l0 1) fun b9 => ck (isK M7 b9 3) <| rb (mR M7 b9 6) fun b11 => ck (isK M7 b11 14) <| ck (inb l1 (mG M7 b11)) <| bd (fX11_trialGoesAsSeen (stI M7 b11 l1.toNatClampNeg l5) l0) fun x14 M14 => if x14 = 0 then (gX11_can_70 (gX11_can_29 n) M14 l0 l1 l2 l3 l4 l5) else (gX11_can_70 (gX11_can_29 n) M14 l0 l1 l2 (l3 + (1 : Int32)) l5 l5))) := rfl
set_option maxRecDepth 100000 in
set_option maxHeartbeats 4000000 in
theorem wX11_can_29 {z : Zx} {fx : Fx} {al : Bool} {r : Nat} {N : Mem} {xr : Int32} (hz : Zok z fx al yX11_can.cls yX11_can.name cX11_can (some .int) 6 (r + 6) 0 0 (some (.int xr)) N)    : ∀ {n : Nat} {M : Mem} {l0 : Nat} {l1 : Int32} {l2 : Int32} {l3 : Int32} {l4 : Int32} {l5 : Int32}, gX11_can_29  n M l0 l1 l2 l3 l4 l5 = some (xr, N) → V z 29 [some (.ref l0), some (.int l1), some (.int l2), some (.int l3), some (.int l4), some (.int l5)] [] M 0 0 := by
  intro n
  induction n with
  | zero => intro M l0 l1 l2 l3 l4 l5 h; cases h
  | succ n ih =>
    intro M l0 l1 l2 l3 l4 l5 h
    replace h := (gX11_can_29_s  n M l0 l1 l2 l3 l4 l5).symm.trans h
    refine v_iload hz rfl dX11_can_29 ?_
    refine v_if_lt (tgt := 76) hz dX11_can_31 (by decide) (fun hc => ?_) (fun hc => ?_)
    · replace h := (if_pos hc).symm.trans h
      refine v_iload_n hz rfl rfl dX11_can_76 ?_
      refine v_if_ne (tgt := 84) hz dX11_can_77 (by decide) (fun hc => ?_) (fun hc => ?_)
      · replace h := (if_neg hc).symm.trans h
        refine v_iload hz rfl dX11_can_84 ?_
        obtain ⟨rfl, rfl⟩ := sp_inv h
        exact v_iret hz dX11_can_86 (by decide) (by decide)
      · replace h := (if_pos hc).symm.trans h
        refine v_iload_n hz rfl rfl dX11_can_80 ?_
        refine v_goto (tgt := 86) hz dX11_can_81 (by decide) ?_
        obtain ⟨rfl, rfl⟩ := sp_inv h
        exact v_iret hz dX11_can_86 (by decide) (by decide)
    · replace h := (if_neg hc).symm.trans h
      refine v_aload_n hz rfl rfl dX11_can_34 ?_
      obtain ⟨ck3, h⟩ := ck_inv h
      obtain ⟨ka3, kb3⟩ := isK_of ck3
      obtain ⟨b4, r4, h⟩ := rb_inv h
      refine v_getR hz fl_X11_94 rfl dX11_can_35 ka3 kb3 r4 ?_
      refine v_aload_n hz rfl rfl dX11_can_38 ?_
      obtain ⟨b5, r5, h⟩ := rb_inv h
      refine v_getR hz fl_X11_90 rfl dX11_can_39 ka3 kb3 r5 ?_
      obtain ⟨ck6, h⟩ := ck_inv h
      obtain ⟨ka6, kb6⟩ := isK_of ck6
      obtain ⟨x7, M7, e7, h⟩ := bd_inv h
      refine v_callV hz (As := [.ref b5]) vl_X11_187 (tX3_take (r + 4) e7) rfl (by decide) ka6 kb6 rfl rfl rfl (Nat.le_of_ble_eq_true rfl) ⟨by decide, by decide⟩ dX11_can_42 ?_
      show V z 45 [some (.ref l0), some (.int l1), some (.int l2), some (.int l3), some (.int l4), some (.int l5)] [] M7 0 0
      refine v_aload_n hz rfl rfl dX11_can_45 ?_
      obtain ⟨ck8, h⟩ := ck_inv h
      obtain ⟨ka8, kb8⟩ := isK_of ck8
      obtain ⟨b9, r9, h⟩ := rb_inv h
      refine v_getR hz fl_X11_94 rfl dX11_can_46 ka8 kb8 r9 ?_
      obtain ⟨ck10, h⟩ := ck_inv h
      obtain ⟨ka10, kb10⟩ := isK_of ck10
      obtain ⟨b11, r11, h⟩ := rb_inv h
      refine v_getR hz fl_X11_117 rfl dX11_can_49 ka10 kb10 r11 ?_
      refine v_iload_n hz rfl rfl dX11_can_52 ?_
      refine v_iload hz rfl dX11_can_53 ?_
      obtain ⟨ck12, h⟩ := ck_inv h
      obtain ⟨ka12, kb12⟩ := isK_of ck12
      obtain ⟨g13, h⟩ := ck_inv h
      refine v_iastore hz dX11_can_55 ka12 kb12 g13 ?_
      refine v_aload_n hz rfl rfl dX11_can_56 ?_
      obtain ⟨x14, M14, e14, h⟩ := bd_inv h
      refine v_callV hz (As := []) vl_X11_213 (tX11_trialGoesAsSeen (r + 0) e14) rfl (by decide) ka8 kb8 rfl rfl rfl (Nat.le_of_ble_eq_true rfl) ⟨by decide, by decide⟩ dX11_can_57 ?_
      show V z 60 [some (.ref l0), some (.int l1), some (.int l2), some (.int l3), some (.int l4), some (.int l5)] [.int x14] M14 0 0
      refine v_if_eq (tgt := 70) hz dX11_can_60 (by decide) (fun hc => ?_) (fun hc => ?_)
      · replace h := (if_pos hc).symm.trans h
        exact v_weak (lvle_s (lvle_s (lvle_s (lvle_s (lvle_s (lvle_s lvle_0)))))) (wX11_can_70 hz  (fun h => ih h) h)
      · replace h := (if_neg hc).symm.trans h
        refine v_iinc hz (v := (l3 + (1 : Int32))) (lw := [some (.ref l0), some (.int l1), some (.int l2), some (.int (l3 + (1 : Int32))), some (.int l4), some (.int l5)]) rfl (congrArg (fun q => l3 + q) (show Int32.ofInt (1) = (1 : Int32) by decide)) rfl rfl dX11_can_63 ?_
        refine v_iload hz rfl dX11_can_66 ?_
        refine v_istore hz (lw := [some (.ref l0), some (.int l1), some (.int l2), some (.int (l3 + (1 : Int32))), some (.int l5), some (.int l5)]) (Nat.le_of_ble_eq_true rfl) rfl rfl dX11_can_68 ?_
        exact v_weak (lvle_s (lvle_s (lvle_s (lvle_s (lvle_s (lvle_s lvle_0)))))) (wX11_can_70 hz  (fun h => ih h) h)
set_option maxRecDepth 100000 in
set_option maxHeartbeats 4000000 in
theorem tX11_can (r : Nat) {fx : Fx} {al : Bool} {M N : Mem} {a0 : Nat} {a1 : Int32} {a2 : Int32} {xr : Int32}  (h : fX11_can M a0 a1 a2 = some (xr, N)) : Ct fx yX11_can cX11_can 6 (some .int) (r + 6) 0 0 al [.ref a0, .int a1, .int a2] M (some (.int xr)) N := by
  refine ct_of (lv := [some (.ref a0), some (.int a1), some (.int a2), none, none, none]) (by decide) (Nat.le_of_ble_eq_true rfl) rfl rfl (fun z hz => ?_)
  unfold fX11_can at h
  refine v_aload_n hz rfl rfl dX11_can_0 ?_
  refine v_iload_n hz rfl rfl dX11_can_1 ?_
  obtain ⟨ck1, h⟩ := ck_inv h
  obtain ⟨ka1, kb1⟩ := isK_of ck1
  obtain ⟨x2, M2, e2, h⟩ := bd_inv h
  refine v_callV hz (As := [.int a1]) vl_X11_111 (tX11_isPerson (r + 5) e2) rfl (by decide) ka1 kb1 rfl rfl rfl (Nat.le_of_ble_eq_true rfl) ⟨by decide, by decide⟩ dX11_can_2 ?_
  show V z 5 [some (.ref a0), some (.int a1), some (.int a2), none, none, none] [.int x2] M2 0 0
  refine v_if_eq (tgt := 17) hz dX11_can_5 (by decide) (fun hc => ?_) (fun hc => ?_)
  · replace h := (if_pos hc).symm.trans h
    refine v_iconst hz (v := (-1 : Int32)) (by decide) dX11_can_17 ?_
    obtain ⟨rfl, rfl⟩ := sp_inv h
    exact v_iret hz dX11_can_18 (by decide) (by decide)
  · replace h := (if_neg hc).symm.trans h
    refine v_iload_n hz rfl rfl dX11_can_8 ?_
    refine v_if_lt (tgt := 17) hz dX11_can_9 (by decide) (fun hc => ?_) (fun hc => ?_)
    · replace h := (if_pos hc).symm.trans h
      refine v_iconst hz (v := (-1 : Int32)) (by decide) dX11_can_17 ?_
      obtain ⟨rfl, rfl⟩ := sp_inv h
      exact v_iret hz dX11_can_18 (by decide) (by decide)
    · replace h := (if_neg hc).symm.trans h
      refine v_iload_n hz rfl rfl dX11_can_12 ?_
      refine v_iconst hz (v := (1 : Int32)) (by decide) dX11_can_13 ?_
      refine v_icmp_le (tgt := 19) hz dX11_can_14 (by decide) (fun hc => ?_) (fun hc => ?_)
      · replace h := (if_pos hc).symm.trans h
        refine v_iconst hz (v := (0 : Int32)) (by decide) dX11_can_19 ?_
        refine v_istore_n hz (lw := [some (.ref a0), some (.int a1), some (.int a2), some (.int (0 : Int32)), none, none]) rfl (Nat.le_of_ble_eq_true rfl) rfl rfl dX11_can_20 ?_
        refine v_bipush hz (v := (-5 : Int32)) (by decide) dX11_can_21 ?_
        refine v_istore hz (lw := [some (.ref a0), some (.int a1), some (.int a2), some (.int (0 : Int32)), some (.int (-5 : Int32)), none]) (Nat.le_of_ble_eq_true rfl) rfl rfl dX11_can_23 ?_
        refine v_bipush hz (v := (9 : Int32)) (by decide) dX11_can_25 ?_
        refine v_istore hz (lw := [some (.ref a0), some (.int a1), some (.int a2), some (.int (0 : Int32)), some (.int (-5 : Int32)), some (.int (9 : Int32))]) (Nat.le_of_ble_eq_true rfl) rfl rfl dX11_can_27 ?_
        exact v_weak (lvle_s (lvle_s (lvle_s (lvle_s (lvle_s (lvle_s lvle_0)))))) (wX11_can_29 hz   h)
      · replace h := (if_neg hc).symm.trans h
        refine v_iconst hz (v := (-1 : Int32)) (by decide) dX11_can_17 ?_
        obtain ⟨rfl, rfl⟩ := sp_inv h
        exact v_iret hz dX11_can_18 (by decide) (by decide)
noncomputable def gX11_isFractionPart_9  (M : Mem)  : Option (Int32 × Mem) :=
  some ((1 : Int32), M)
noncomputable def fX11_isFractionPart (M : Mem) (a0 : Int32) : Option (Int32 × Mem) :=
  if a0 = 0 then (gX11_isFractionPart_9 M) else (if a0 = (1 : Int32) then (gX11_isFractionPart_9 M) else (some ((0 : Int32), M)))
set_option maxRecDepth 100000 in
set_option maxHeartbeats 4000000 in
theorem wX11_isFractionPart_9 {z : Zx} {fx : Fx} {al : Bool} {r : Nat} {N : Mem} {xr : Int32} (hz : Zok z fx al yX11_isFractionPart.cls yX11_isFractionPart.name cX11_isFractionPart (some .boolean) 1 (r + 0) 0 0 (some (.int xr)) N)    {M : Mem}  (h : gX11_isFractionPart_9  M  = some (xr, N)) : V z 9 [none] [] M 0 0 := by
  unfold gX11_isFractionPart_9 at h
  refine v_iconst hz (v := (1 : Int32)) (by decide) dX11_isFractionPart_9 ?_
  refine v_goto (tgt := 14) hz dX11_isFractionPart_10 (by decide) ?_
  obtain ⟨rfl, rfl⟩ := sp_inv h
  exact v_zret hz (Or.inr rfl) dX11_isFractionPart_14 (by decide) (by decide)
set_option maxRecDepth 100000 in
set_option maxHeartbeats 4000000 in
theorem tX11_isFractionPart (r : Nat) {fx : Fx} {al : Bool} {M N : Mem} {a0 : Int32} {xr : Int32}  (h : fX11_isFractionPart M a0 = some (xr, N)) : Ct fx yX11_isFractionPart cX11_isFractionPart 1 (some .boolean) (r + 0) 0 0 al [.int a0] M (some (.int xr)) N := by
  refine ct_of (lv := [some (.int a0)]) (by decide) (Nat.le_of_ble_eq_true rfl) rfl rfl (fun z hz => ?_)
  unfold fX11_isFractionPart at h
  refine v_iload_n hz rfl rfl dX11_isFractionPart_0 ?_
  refine v_if_eq (tgt := 9) hz dX11_isFractionPart_1 (by decide) (fun hc => ?_) (fun hc => ?_)
  · replace h := (if_pos hc).symm.trans h
    exact v_weak (lvle_n lvle_0) (wX11_isFractionPart_9 hz   h)
  · replace h := (if_neg hc).symm.trans h
    refine v_iload_n hz rfl rfl dX11_isFractionPart_4 ?_
    refine v_iconst hz (v := (1 : Int32)) (by decide) dX11_isFractionPart_5 ?_
    refine v_icmp_ne (tgt := 13) hz dX11_isFractionPart_6 (by decide) (fun hc => ?_) (fun hc => ?_)
    · replace h := (if_neg hc).symm.trans h
      refine v_iconst hz (v := (0 : Int32)) (by decide) dX11_isFractionPart_13 ?_
      obtain ⟨rfl, rfl⟩ := sp_inv h
      exact v_zret hz (Or.inl rfl) dX11_isFractionPart_14 (by decide) (by decide)
    · replace h := (if_pos hc).symm.trans h
      exact v_weak (lvle_n lvle_0) (wX11_isFractionPart_9 hz   h)
noncomputable def gX11_shareOfCells_23  (M : Mem) (l0 : Int32) (l1 : Int32) (l2 : Int32) : Option (Int64 × Mem) :=
  if l1 = 0 then (ck (decide (¬ l2 = 0)) <| some ((l0 / l2).toInt64, M)) else (ck (decide (¬ l2 = 0)) <| some (((25 : Int32) / l2).toInt64, M))
noncomputable def fX11_shareOfCells (M : Mem) (a0 : Int32) (a1 : Int32) : Option (Int64 × Mem) :=
  if (a0 - a0 / (25 : Int32) * (25 : Int32)) = 0 then (gX11_shareOfCells_23 M a0 a1 (25 : Int32)) else (if (a0 - a0 / (5 : Int32) * (5 : Int32)) = 0 then (gX11_shareOfCells_23 M a0 a1 (5 : Int32)) else (gX11_shareOfCells_23 M a0 a1 (1 : Int32)))
set_option maxRecDepth 100000 in
set_option maxHeartbeats 4000000 in
theorem wX11_shareOfCells_23 {z : Zx} {fx : Fx} {al : Bool} {r : Nat} {N : Mem} {xr : Int64} (hz : Zok z fx al yX11_shareOfCells.cls yX11_shareOfCells.name cX11_shareOfCells (some .long) 3 (r + 0) 0 0 (some (.long xr)) N)    {M : Mem} {l0 : Int32} {l1 : Int32} {l2 : Int32} (h : gX11_shareOfCells_23  M l0 l1 l2 = some (xr, N)) : V z 23 [some (.int l0), some (.int l1), some (.int l2)] [] M 0 0 := by
  unfold gX11_shareOfCells_23 at h
  refine v_iload_n hz rfl rfl dX11_shareOfCells_23 ?_
  refine v_if_ne (tgt := 34) hz dX11_shareOfCells_24 (by decide) (fun hc => ?_) (fun hc => ?_)
  · replace h := (if_neg hc).symm.trans h
    refine v_bipush hz (v := (25 : Int32)) (by decide) dX11_shareOfCells_34 ?_
    refine v_iload_n hz rfl rfl dX11_shareOfCells_36 ?_
    obtain ⟨g1, h⟩ := ck_inv h
    refine v_idiv hz (of_decide_eq_true g1) dX11_shareOfCells_37 ?_
    refine v_i2l hz dX11_shareOfCells_38 ?_
    obtain ⟨rfl, rfl⟩ := sp_inv h
    exact v_lret hz dX11_shareOfCells_39 (by decide) (by decide)
  · replace h := (if_pos hc).symm.trans h
    refine v_iload_n hz rfl rfl dX11_shareOfCells_27 ?_
    refine v_iload_n hz rfl rfl dX11_shareOfCells_28 ?_
    obtain ⟨g2, h⟩ := ck_inv h
    refine v_idiv hz (of_decide_eq_true g2) dX11_shareOfCells_29 ?_
    refine v_i2l hz dX11_shareOfCells_30 ?_
    refine v_goto (tgt := 39) hz dX11_shareOfCells_31 (by decide) ?_
    obtain ⟨rfl, rfl⟩ := sp_inv h
    exact v_lret hz dX11_shareOfCells_39 (by decide) (by decide)
set_option maxRecDepth 100000 in
set_option maxHeartbeats 4000000 in
theorem tX11_shareOfCells (r : Nat) {fx : Fx} {al : Bool} {M N : Mem} {a0 : Int32} {a1 : Int32} {xr : Int64}  (h : fX11_shareOfCells M a0 a1 = some (xr, N)) : Ct fx yX11_shareOfCells cX11_shareOfCells 3 (some .long) (r + 0) 0 0 al [.int a0, .int a1] M (some (.long xr)) N := by
  refine ct_of (lv := [some (.int a0), some (.int a1), none]) (by decide) (Nat.le_of_ble_eq_true rfl) rfl rfl (fun z hz => ?_)
  unfold fX11_shareOfCells at h
  refine v_iconst hz (v := (1 : Int32)) (by decide) dX11_shareOfCells_0 ?_
  refine v_istore_n hz (lw := [some (.int a0), some (.int a1), some (.int (1 : Int32))]) rfl (Nat.le_of_ble_eq_true rfl) rfl rfl dX11_shareOfCells_1 ?_
  refine v_iload_n hz rfl rfl dX11_shareOfCells_2 ?_
  refine v_bipush hz (v := (25 : Int32)) (by decide) dX11_shareOfCells_3 ?_
  refine v_irem hz (by decide) dX11_shareOfCells_5 ?_
  refine v_if_ne (tgt := 15) hz dX11_shareOfCells_6 (by decide) (fun hc => ?_) (fun hc => ?_)
  · replace h := (if_neg hc).symm.trans h
    refine v_iload_n hz rfl rfl dX11_shareOfCells_15 ?_
    refine v_iconst hz (v := (5 : Int32)) (by decide) dX11_shareOfCells_16 ?_
    refine v_irem hz (by decide) dX11_shareOfCells_17 ?_
    refine v_if_ne (tgt := 23) hz dX11_shareOfCells_18 (by decide) (fun hc => ?_) (fun hc => ?_)
    · replace h := (if_neg hc).symm.trans h
      exact v_weak (lvle_s (lvle_s (lvle_s lvle_0))) (wX11_shareOfCells_23 hz   h)
    · replace h := (if_pos hc).symm.trans h
      refine v_iconst hz (v := (5 : Int32)) (by decide) dX11_shareOfCells_21 ?_
      refine v_istore_n hz (lw := [some (.int a0), some (.int a1), some (.int (5 : Int32))]) rfl (Nat.le_of_ble_eq_true rfl) rfl rfl dX11_shareOfCells_22 ?_
      exact v_weak (lvle_s (lvle_s (lvle_s lvle_0))) (wX11_shareOfCells_23 hz   h)
  · replace h := (if_pos hc).symm.trans h
    refine v_bipush hz (v := (25 : Int32)) (by decide) dX11_shareOfCells_9 ?_
    refine v_istore_n hz (lw := [some (.int a0), some (.int a1), some (.int (25 : Int32))]) rfl (Nat.le_of_ble_eq_true rfl) rfl rfl dX11_shareOfCells_11 ?_
    refine v_goto (tgt := 23) hz dX11_shareOfCells_12 (by decide) ?_
    exact v_weak (lvle_s (lvle_s (lvle_s lvle_0))) (wX11_shareOfCells_23 hz   h)
