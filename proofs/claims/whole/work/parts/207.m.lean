noncomputable def gX11_on_33  (M : Mem) (l0 : Nat) (l1 : Int32) (l3 : Int32) (l4 : Int32) : Option (Int32 × Mem) :=
  bd (fX11_isAskedSpan M l1) fun x1 M1 => if x1 = 0 then (some ((-2 : Int32), M1)) else (ck (isK M1 l0 11) <| rb (mR M1 l0 1) fun b3 => rb (mR M1 l0 0) fun b4 => ck (isK M1 b3 3) <| bd (fX3_take M1 b3 b4) fun x6 M6 => ck (isK M6 l0 11) <| rb (mR M6 l0 1) fun b8 => ck (isK M6 b8 3) <| bd (fX3_goHours M6 b8 l1) fun x10 M10 => bd (fX11_isCell M10 l3) fun x11 M11 => if x11 = 0 then (ck (isK M11 l0 11) <| bd (fX11_isPerson M11 l0 l4) fun x13 M13 => if x13 = 0 then (ck (isK M13 l0 11) <| rb (mR M13 l0 1) fun b15 => ck (isK M13 b15 3) <| bd (fX3_countBald M13 b15) fun x17 M17 => some (x17, M17)) else (ck (isK M13 l0 11) <| rb (mR M13 l0 1) fun b19 => ck (isK M13 b19 3) <| rb (mR M13 b19 7) fun b21 => ck (isK M13 b21 14) <| ck (inb l4 (mG M13 b21)) <| some ((mI M13 b21 l4.toNatClampNeg), M13))) else (ck (isK M11 l0 11) <| rb (mR M11 l0 1) fun b25 => ck (isK M11 b25 3) <| rb (mR M11 b25 3) fun b27 => ck (isK M11 b27 14) <| ck (inb l3 (mG M11 b27)) <| some ((mI M11 b27 l3.toNatClampNeg), M11)))
noncomputable def fX11_on (M : Mem) (a0 : Nat) (a1 : Int32) (a2 : Int32) : Option (Int32 × Mem) :=
  if a2 = 0 then (gX11_on_33 M a0 a1 (a2 - (10 : Int32)) (a2 - (40 : Int32))) else (bd (fX11_isCell M (a2 - (10 : Int32))) fun x30 M30 => if x30 = 0 then (ck (isK M30 a0 11) <| bd (fX11_isPerson M30 a0 (a2 - (40 : Int32))) fun x32 M32 => if x32 = 0 then (some ((-1 : Int32), M32)) else (gX11_on_33 M32 a0 a1 (a2 - (10 : Int32)) (a2 - (40 : Int32)))) else (gX11_on_33 M30 a0 a1 (a2 - (10 : Int32)) (a2 - (40 : Int32))))
set_option maxRecDepth 100000 in
set_option maxHeartbeats 4000000 in
theorem wX11_on_33 {z : Zx} {fx : Fx} {al : Bool} {r : Nat} {N : Mem} {xr : Int32} (hz : Zok z fx al yX11_on.cls yX11_on.name cX11_on (some .int) 5 (r + 6) 0 0 (some (.int xr)) N)    {M : Mem} {l0 : Nat} {l1 : Int32} {l3 : Int32} {l4 : Int32} (h : gX11_on_33  M l0 l1 l3 l4 = some (xr, N)) : V z 33 [some (.ref l0), some (.int l1), none, some (.int l3), some (.int l4)] [] M 0 0 := by
  unfold gX11_on_33 at h
  refine v_iload_n hz rfl rfl dX11_on_33 ?_
  obtain ⟨x1, M1, e1, h⟩ := bd_inv h
  refine v_callS hz (As := [.int l1]) sl_X11_184 (tX11_isAskedSpan (r + 5) e1) rfl rfl rfl (Nat.le_of_ble_eq_true rfl) ⟨by decide, by decide⟩ dX11_on_34 ?_
  show V z 37 [some (.ref l0), some (.int l1), none, some (.int l3), some (.int l4)] [.int x1] M1 0 0
  refine v_if_ne (tgt := 43) hz dX11_on_37 (by decide) (fun hc => ?_) (fun hc => ?_)
  · replace h := (if_neg hc).symm.trans h
    refine v_aload_n hz rfl rfl dX11_on_43 ?_
    obtain ⟨ck2, h⟩ := ck_inv h
    obtain ⟨ka2, kb2⟩ := isK_of ck2
    obtain ⟨b3, r3, h⟩ := rb_inv h
    refine v_getR hz fl_X11_94 rfl dX11_on_44 ka2 kb2 r3 ?_
    refine v_aload_n hz rfl rfl dX11_on_47 ?_
    obtain ⟨b4, r4, h⟩ := rb_inv h
    refine v_getR hz fl_X11_90 rfl dX11_on_48 ka2 kb2 r4 ?_
    obtain ⟨ck5, h⟩ := ck_inv h
    obtain ⟨ka5, kb5⟩ := isK_of ck5
    obtain ⟨x6, M6, e6, h⟩ := bd_inv h
    refine v_callV hz (As := [.ref b4]) vl_X11_187 (tX3_take (r + 4) e6) rfl (by decide) ka5 kb5 rfl rfl rfl (Nat.le_of_ble_eq_true rfl) ⟨by decide, by decide⟩ dX11_on_51 ?_
    show V z 54 [some (.ref l0), some (.int l1), none, some (.int l3), some (.int l4)] [] M6 0 0
    refine v_aload_n hz rfl rfl dX11_on_54 ?_
    obtain ⟨ck7, h⟩ := ck_inv h
    obtain ⟨ka7, kb7⟩ := isK_of ck7
    obtain ⟨b8, r8, h⟩ := rb_inv h
    refine v_getR hz fl_X11_94 rfl dX11_on_55 ka7 kb7 r8 ?_
    refine v_iload_n hz rfl rfl dX11_on_58 ?_
    obtain ⟨ck9, h⟩ := ck_inv h
    obtain ⟨ka9, kb9⟩ := isK_of ck9
    obtain ⟨x10, M10, e10, h⟩ := bd_inv h
    refine v_callV hz (As := [.int l1]) vl_X11_181 (tX3_goHours (r + 0) e10) rfl (by decide) ka9 kb9 rfl rfl rfl (Nat.le_of_ble_eq_true rfl) ⟨by decide, by decide⟩ dX11_on_59 ?_
    show V z 62 [some (.ref l0), some (.int l1), none, some (.int l3), some (.int l4)] [] M10 0 0
    refine v_iload_n hz rfl rfl dX11_on_62 ?_
    obtain ⟨x11, M11, e11, h⟩ := bd_inv h
    refine v_callS hz (As := [.int l3]) sl_X11_100 (tX11_isCell (r + 5) e11) rfl rfl rfl (Nat.le_of_ble_eq_true rfl) ⟨by decide, by decide⟩ dX11_on_63 ?_
    show V z 66 [some (.ref l0), some (.int l1), none, some (.int l3), some (.int l4)] [.int x11] M11 0 0
    refine v_if_eq (tgt := 79) hz dX11_on_66 (by decide) (fun hc => ?_) (fun hc => ?_)
    · replace h := (if_pos hc).symm.trans h
      refine v_aload_n hz rfl rfl dX11_on_79 ?_
      refine v_iload hz rfl dX11_on_80 ?_
      obtain ⟨ck12, h⟩ := ck_inv h
      obtain ⟨ka12, kb12⟩ := isK_of ck12
      obtain ⟨x13, M13, e13, h⟩ := bd_inv h
      refine v_callV hz (As := [.int l4]) vl_X11_111 (tX11_isPerson (r + 5) e13) rfl (by decide) ka12 kb12 rfl rfl rfl (Nat.le_of_ble_eq_true rfl) ⟨by decide, by decide⟩ dX11_on_82 ?_
      show V z 85 [some (.ref l0), some (.int l1), none, some (.int l3), some (.int l4)] [.int x13] M13 0 0
      refine v_if_eq (tgt := 101) hz dX11_on_85 (by decide) (fun hc => ?_) (fun hc => ?_)
      · replace h := (if_pos hc).symm.trans h
        refine v_aload_n hz rfl rfl dX11_on_101 ?_
        obtain ⟨ck14, h⟩ := ck_inv h
        obtain ⟨ka14, kb14⟩ := isK_of ck14
        obtain ⟨b15, r15, h⟩ := rb_inv h
        refine v_getR hz fl_X11_94 rfl dX11_on_102 ka14 kb14 r15 ?_
        obtain ⟨ck16, h⟩ := ck_inv h
        obtain ⟨ka16, kb16⟩ := isK_of ck16
        obtain ⟨x17, M17, e17, h⟩ := bd_inv h
        refine v_callV hz (As := []) vl_X11_172 (tX3_countBald (r + 4) e17) rfl (by decide) ka16 kb16 rfl rfl rfl (Nat.le_of_ble_eq_true rfl) ⟨by decide, by decide⟩ dX11_on_105 ?_
        show V z 108 [some (.ref l0), some (.int l1), none, some (.int l3), some (.int l4)] [.int x17] M17 0 0
        obtain ⟨rfl, rfl⟩ := sp_inv h
        exact v_iret hz dX11_on_108 (by decide) (by decide)
      · replace h := (if_neg hc).symm.trans h
        refine v_aload_n hz rfl rfl dX11_on_88 ?_
        obtain ⟨ck18, h⟩ := ck_inv h
        obtain ⟨ka18, kb18⟩ := isK_of ck18
        obtain ⟨b19, r19, h⟩ := rb_inv h
        refine v_getR hz fl_X11_94 rfl dX11_on_89 ka18 kb18 r19 ?_
        obtain ⟨ck20, h⟩ := ck_inv h
        obtain ⟨ka20, kb20⟩ := isK_of ck20
        obtain ⟨b21, r21, h⟩ := rb_inv h
        refine v_getR hz fl_X11_120 rfl dX11_on_92 ka20 kb20 r21 ?_
        refine v_iload hz rfl dX11_on_95 ?_
        obtain ⟨ck22, h⟩ := ck_inv h
        obtain ⟨ka22, kb22⟩ := isK_of ck22
        obtain ⟨g23, h⟩ := ck_inv h
        refine v_iaload hz dX11_on_97 ka22 kb22 g23 ?_
        refine v_goto (tgt := 108) hz dX11_on_98 (by decide) ?_
        obtain ⟨rfl, rfl⟩ := sp_inv h
        exact v_iret hz dX11_on_108 (by decide) (by decide)
    · replace h := (if_neg hc).symm.trans h
      refine v_aload_n hz rfl rfl dX11_on_69 ?_
      obtain ⟨ck24, h⟩ := ck_inv h
      obtain ⟨ka24, kb24⟩ := isK_of ck24
      obtain ⟨b25, r25, h⟩ := rb_inv h
      refine v_getR hz fl_X11_94 rfl dX11_on_70 ka24 kb24 r25 ?_
      obtain ⟨ck26, h⟩ := ck_inv h
      obtain ⟨ka26, kb26⟩ := isK_of ck26
      obtain ⟨b27, r27, h⟩ := rb_inv h
      refine v_getR hz fl_X11_143 rfl dX11_on_73 ka26 kb26 r27 ?_
      refine v_iload_n hz rfl rfl dX11_on_76 ?_
      obtain ⟨ck28, h⟩ := ck_inv h
      obtain ⟨ka28, kb28⟩ := isK_of ck28
      obtain ⟨g29, h⟩ := ck_inv h
      refine v_iaload hz dX11_on_77 ka28 kb28 g29 ?_
      obtain ⟨rfl, rfl⟩ := sp_inv h
      exact v_iret hz dX11_on_78 (by decide) (by decide)
  · replace h := (if_pos hc).symm.trans h
    refine v_bipush hz (v := (-2 : Int32)) (by decide) dX11_on_40 ?_
    obtain ⟨rfl, rfl⟩ := sp_inv h
    exact v_iret hz dX11_on_42 (by decide) (by decide)
set_option maxRecDepth 100000 in
set_option maxHeartbeats 4000000 in
theorem tX11_on (r : Nat) {fx : Fx} {al : Bool} {M N : Mem} {a0 : Nat} {a1 : Int32} {a2 : Int32} {xr : Int32}  (h : fX11_on M a0 a1 a2 = some (xr, N)) : Ct fx yX11_on cX11_on 5 (some .int) (r + 6) 0 0 al [.ref a0, .int a1, .int a2] M (some (.int xr)) N := by
  refine ct_of (lv := [some (.ref a0), some (.int a1), some (.int a2), none, none]) (by decide) (Nat.le_of_ble_eq_true rfl) rfl rfl (fun z hz => ?_)
  unfold fX11_on at h
  refine v_iload_n hz rfl rfl dX11_on_0 ?_
  refine v_bipush hz (v := (10 : Int32)) (by decide) dX11_on_1 ?_
  refine v_isub hz dX11_on_3 ?_
  refine v_istore_n hz (lw := [some (.ref a0), some (.int a1), some (.int a2), some (.int (a2 - (10 : Int32))), none]) rfl (Nat.le_of_ble_eq_true rfl) rfl rfl dX11_on_4 ?_
  refine v_iload_n hz rfl rfl dX11_on_5 ?_
  refine v_bipush hz (v := (40 : Int32)) (by decide) dX11_on_6 ?_
  refine v_isub hz dX11_on_8 ?_
  refine v_istore hz (lw := [some (.ref a0), some (.int a1), some (.int a2), some (.int (a2 - (10 : Int32))), some (.int (a2 - (40 : Int32)))]) (Nat.le_of_ble_eq_true rfl) rfl rfl dX11_on_9 ?_
  refine v_iload_n hz rfl rfl dX11_on_11 ?_
  refine v_if_eq (tgt := 33) hz dX11_on_12 (by decide) (fun hc => ?_) (fun hc => ?_)
  · replace h := (if_pos hc).symm.trans h
    exact v_weak (lvle_s (lvle_s (lvle_n (lvle_s (lvle_s lvle_0))))) (wX11_on_33 hz   h)
  · replace h := (if_neg hc).symm.trans h
    refine v_iload_n hz rfl rfl dX11_on_15 ?_
    obtain ⟨x30, M30, e30, h⟩ := bd_inv h
    refine v_callS hz (As := [.int (a2 - (10 : Int32))]) sl_X11_100 (tX11_isCell (r + 5) e30) rfl rfl rfl (Nat.le_of_ble_eq_true rfl) ⟨by decide, by decide⟩ dX11_on_16 ?_
    show V z 19 [some (.ref a0), some (.int a1), some (.int a2), some (.int (a2 - (10 : Int32))), some (.int (a2 - (40 : Int32)))] [.int x30] M30 0 0
    refine v_if_ne (tgt := 33) hz dX11_on_19 (by decide) (fun hc => ?_) (fun hc => ?_)
    · replace h := (if_neg hc).symm.trans h
      exact v_weak (lvle_s (lvle_s (lvle_n (lvle_s (lvle_s lvle_0))))) (wX11_on_33 hz   h)
    · replace h := (if_pos hc).symm.trans h
      refine v_aload_n hz rfl rfl dX11_on_22 ?_
      refine v_iload hz rfl dX11_on_23 ?_
      obtain ⟨ck31, h⟩ := ck_inv h
      obtain ⟨ka31, kb31⟩ := isK_of ck31
      obtain ⟨x32, M32, e32, h⟩ := bd_inv h
      refine v_callV hz (As := [.int (a2 - (40 : Int32))]) vl_X11_111 (tX11_isPerson (r + 5) e32) rfl (by decide) ka31 kb31 rfl rfl rfl (Nat.le_of_ble_eq_true rfl) ⟨by decide, by decide⟩ dX11_on_25 ?_
      show V z 28 [some (.ref a0), some (.int a1), some (.int a2), some (.int (a2 - (10 : Int32))), some (.int (a2 - (40 : Int32)))] [.int x32] M32 0 0
      refine v_if_ne (tgt := 33) hz dX11_on_28 (by decide) (fun hc => ?_) (fun hc => ?_)
      · replace h := (if_neg hc).symm.trans h
        exact v_weak (lvle_s (lvle_s (lvle_n (lvle_s (lvle_s lvle_0))))) (wX11_on_33 hz   h)
      · replace h := (if_pos hc).symm.trans h
        refine v_iconst hz (v := (-1 : Int32)) (by decide) dX11_on_31 ?_
        obtain ⟨rfl, rfl⟩ := sp_inv h
        exact v_iret hz dX11_on_32 (by decide) (by decide)
noncomputable def gX11_leaveAloneInTrial_39 (K13 : Mem → Nat → Int32 → Int32 → Option (Unit × Mem)) (M : Mem) (l0 : Nat) (l1 : Int32) (l2 : Int32) : Option (Unit × Mem) :=
  K13 M l0 l1 (l2 + (1 : Int32))
noncomputable def gX11_leaveAloneInTrial_13  : Nat → Mem → Nat → Int32 → Int32 → Option (Unit × Mem)
  | 0, _, _, _, _ => none
  | n + 1, M, l0, l1, l2 => ck (isK M l0 11) <| rb (mR M l0 1) fun b7 => ck (isK M b7 3) <| if (mI M b7 4) ≤ l2 then (some ((), M)) else (if l2 = l1 then (gX11_leaveAloneInTrial_39 (gX11_leaveAloneInTrial_13 n) M l0 l1 l2) else (rb (mR M b7 8) fun b9 => ck (isK M b9 16) <| ck (inb l2 (mG M b9)) <| gX11_leaveAloneInTrial_39 (gX11_leaveAloneInTrial_13 n) (stI M b9 l2.toNatClampNeg (1 : Int32)) l0 l1 l2))
noncomputable def fX11_leaveAloneInTrial (M : Mem) (a0 : Nat) (a1 : Int32) : Option (Unit × Mem) :=
  ck (isK M a0 11) <| rb (mR M a0 1) fun b2 => rb (mR M a0 0) fun b3 => ck (isK M b2 3) <| bd (fX3_take M b2 b3) fun x5 M5 => gX11_leaveAloneInTrial_13 FU M5 a0 a1 (0 : Int32)
set_option maxRecDepth 100000 in
set_option maxHeartbeats 4000000 in
theorem wX11_leaveAloneInTrial_39 {z : Zx} {fx : Fx} {al : Bool} {r : Nat} {N : Mem} (hz : Zok z fx al yX11_leaveAloneInTrial.cls yX11_leaveAloneInTrial.name cX11_leaveAloneInTrial none 3 (r + 2) 0 0 none N)  {K13 : Mem → Nat → Int32 → Int32 → Option (Unit × Mem)} (hK13 : ∀ {M : Mem} {l0 : Nat} {l1 : Int32} {l2 : Int32}, K13 M l0 l1 l2 = some ((), N) → V z 13 [some (.ref l0), some (.int l1), some (.int l2)] [] M 0 0) {M : Mem} {l0 : Nat} {l1 : Int32} {l2 : Int32} (h : gX11_leaveAloneInTrial_39 K13 M l0 l1 l2 = some ((), N)) : V z 39 [some (.ref l0), some (.int l1), some (.int l2)] [] M 0 0 := by
  unfold gX11_leaveAloneInTrial_39 at h
  refine v_iinc hz (v := (l2 + (1 : Int32))) (lw := [some (.ref l0), some (.int l1), some (.int (l2 + (1 : Int32)))]) rfl (congrArg (fun q => l2 + q) (show Int32.ofInt (1) = (1 : Int32) by decide)) rfl rfl dX11_leaveAloneInTrial_39 ?_
  refine v_goto (tgt := 13) hz dX11_leaveAloneInTrial_42 (by decide) ?_
  exact v_weak (lvle_s (lvle_s (lvle_s lvle_0))) (hK13 h)
set_option maxRecDepth 100000 in
set_option maxHeartbeats 4000000 in
theorem gX11_leaveAloneInTrial_13_s  (n : Nat) (M : Mem) (l0 : Nat) (l1 : Int32) (l2 : Int32) : gX11_leaveAloneInTrial_13  (n + 1) M l0 l1 l2 = (ck (isK M l0 11) <| rb (mR M l0 1) fun b7 => ck (isK M b7 3) <| if (mI M b7 4) ≤ l2 then (some ((), M)) else (if l2 = l1 then (gX11_leaveAloneInTrial_39 (gX11_leaveAloneInTrial_13 n) M l0 l1 l2) else (rb (mR M b7 8) fun b9 => ck (isK M b9 16) <| ck (inb l2 (mG M b9)) <| gX11_leaveAloneInTrial_39 (gX11_leaveAloneInTrial_13 n) (stI M b9 l2.toNatClampNeg (1 : Int32)) l0 l1 l2))) := rfl
set_option maxRecDepth 100000 in
set_option maxHeartbeats 4000000 in
theorem wX11_leaveAloneInTrial_13 {z : Zx} {fx : Fx} {al : Bool} {r : Nat} {N : Mem} (hz : Zok z fx al yX11_leaveAloneInTrial.cls yX11_leaveAloneInTrial.name cX11_leaveAloneInTrial none 3 (r + 2) 0 0 none N)    : ∀ {n : Nat} {M : Mem} {l0 : Nat} {l1 : Int32} {l2 : Int32}, gX11_leaveAloneInTrial_13  n M l0 l1 l2 = some ((), N) → V z 13 [some (.ref l0), some (.int l1), some (.int l2)] [] M 0 0 := by
  intro n
  induction n with
  | zero => intro M l0 l1 l2 h; cases h
  | succ n ih =>
    intro M l0 l1 l2 h
    replace h := (gX11_leaveAloneInTrial_13_s  n M l0 l1 l2).symm.trans h
    refine v_iload_n hz rfl rfl dX11_leaveAloneInTrial_13 ?_
    refine v_aload_n hz rfl rfl dX11_leaveAloneInTrial_14 ?_
    obtain ⟨ck6, h⟩ := ck_inv h
    obtain ⟨ka6, kb6⟩ := isK_of ck6
    obtain ⟨b7, r7, h⟩ := rb_inv h
    refine v_getR hz fl_X11_94 rfl dX11_leaveAloneInTrial_15 ka6 kb6 r7 ?_
    obtain ⟨ck8, h⟩ := ck_inv h
    obtain ⟨ka8, kb8⟩ := isK_of ck8
    refine v_getI hz fl_X11_245 rfl dX11_leaveAloneInTrial_18 ka8 kb8 ?_
    refine v_icmp_ge (tgt := 45) hz dX11_leaveAloneInTrial_21 (by decide) (fun hc => ?_) (fun hc => ?_)
    · replace h := (if_pos hc).symm.trans h
      obtain ⟨-, rfl⟩ := sp_inv h
      exact v_vret hz dX11_leaveAloneInTrial_45 (by decide) (by decide)
    · replace h := (if_neg hc).symm.trans h
      refine v_iload_n hz rfl rfl dX11_leaveAloneInTrial_24 ?_
      refine v_iload_n hz rfl rfl dX11_leaveAloneInTrial_25 ?_
      refine v_icmp_eq (tgt := 39) hz dX11_leaveAloneInTrial_26 (by decide) (fun hc => ?_) (fun hc => ?_)
      · replace h := (if_pos hc).symm.trans h
        exact v_weak (lvle_s (lvle_s (lvle_s lvle_0))) (wX11_leaveAloneInTrial_39 hz  (fun h => ih h) h)
      · replace h := (if_neg hc).symm.trans h
        refine v_aload_n hz rfl rfl dX11_leaveAloneInTrial_29 ?_
        refine v_getR hz fl_X11_94 rfl dX11_leaveAloneInTrial_30 ka6 kb6 r7 ?_
        obtain ⟨b9, r9, h⟩ := rb_inv h
        refine v_getR hz fl_X11_123 rfl dX11_leaveAloneInTrial_33 ka8 kb8 r9 ?_
        refine v_iload_n hz rfl rfl dX11_leaveAloneInTrial_36 ?_
        refine v_iconst hz (v := (1 : Int32)) (by decide) dX11_leaveAloneInTrial_37 ?_
        obtain ⟨ck10, h⟩ := ck_inv h
        obtain ⟨ka10, kb10⟩ := isK_of ck10
        obtain ⟨g11, h⟩ := ck_inv h
        refine v_zastore hz (Or.inr rfl) dX11_leaveAloneInTrial_38 ka10 kb10 g11 ?_
        exact v_weak (lvle_s (lvle_s (lvle_s lvle_0))) (wX11_leaveAloneInTrial_39 hz  (fun h => ih h) h)
set_option maxRecDepth 100000 in
set_option maxHeartbeats 4000000 in
theorem tX11_leaveAloneInTrial (r : Nat) {fx : Fx} {al : Bool} {M N : Mem} {a0 : Nat} {a1 : Int32}  (h : fX11_leaveAloneInTrial M a0 a1 = some ((), N)) : Ct fx yX11_leaveAloneInTrial cX11_leaveAloneInTrial 3 none (r + 2) 0 0 al [.ref a0, .int a1] M none N := by
  refine ct_of (lv := [some (.ref a0), some (.int a1), none]) (by decide) (Nat.le_of_ble_eq_true rfl) rfl rfl (fun z hz => ?_)
  unfold fX11_leaveAloneInTrial at h
  refine v_aload_n hz rfl rfl dX11_leaveAloneInTrial_0 ?_
  obtain ⟨ck1, h⟩ := ck_inv h
  obtain ⟨ka1, kb1⟩ := isK_of ck1
  obtain ⟨b2, r2, h⟩ := rb_inv h
  refine v_getR hz fl_X11_94 rfl dX11_leaveAloneInTrial_1 ka1 kb1 r2 ?_
  refine v_aload_n hz rfl rfl dX11_leaveAloneInTrial_4 ?_
  obtain ⟨b3, r3, h⟩ := rb_inv h
  refine v_getR hz fl_X11_90 rfl dX11_leaveAloneInTrial_5 ka1 kb1 r3 ?_
  obtain ⟨ck4, h⟩ := ck_inv h
  obtain ⟨ka4, kb4⟩ := isK_of ck4
  obtain ⟨x5, M5, e5, h⟩ := bd_inv h
  refine v_callV hz (As := [.ref b3]) vl_X11_187 (tX3_take (r + 0) e5) rfl (by decide) ka4 kb4 rfl rfl rfl (Nat.le_of_ble_eq_true rfl) ⟨by decide, by decide⟩ dX11_leaveAloneInTrial_8 ?_
  show V z 11 [some (.ref a0), some (.int a1), none] [] M5 0 0
  refine v_iconst hz (v := (0 : Int32)) (by decide) dX11_leaveAloneInTrial_11 ?_
  refine v_istore_n hz (lw := [some (.ref a0), some (.int a1), some (.int (0 : Int32))]) rfl (Nat.le_of_ble_eq_true rfl) rfl rfl dX11_leaveAloneInTrial_12 ?_
  exact v_weak (lvle_s (lvle_s (lvle_s lvle_0))) (wX11_leaveAloneInTrial_13 hz   h)
noncomputable def fX11_orTooLate (M : Mem) (a0 : Int32) : Option (Int32 × Mem) :=
  if a0 = (-5 : Int32) then (some ((41 : Int32), M)) else (some (a0, M))
set_option maxRecDepth 100000 in
set_option maxHeartbeats 4000000 in
theorem tX11_orTooLate (r : Nat) {fx : Fx} {al : Bool} {M N : Mem} {a0 : Int32} {xr : Int32}  (h : fX11_orTooLate M a0 = some (xr, N)) : Ct fx yX11_orTooLate cX11_orTooLate 1 (some .int) (r + 0) 0 0 al [.int a0] M (some (.int xr)) N := by
  refine ct_of (lv := [some (.int a0)]) (by decide) (Nat.le_of_ble_eq_true rfl) rfl rfl (fun z hz => ?_)
  unfold fX11_orTooLate at h
  refine v_iload_n hz rfl rfl dX11_orTooLate_0 ?_
  refine v_bipush hz (v := (-5 : Int32)) (by decide) dX11_orTooLate_1 ?_
  refine v_icmp_ne (tgt := 11) hz dX11_orTooLate_3 (by decide) (fun hc => ?_) (fun hc => ?_)
  · replace h := (if_neg hc).symm.trans h
    refine v_iload_n hz rfl rfl dX11_orTooLate_11 ?_
    obtain ⟨rfl, rfl⟩ := sp_inv h
    exact v_iret hz dX11_orTooLate_12 (by decide) (by decide)
  · replace h := (if_pos hc).symm.trans h
    refine v_bipush hz (v := (41 : Int32)) (by decide) dX11_orTooLate_6 ?_
    refine v_goto (tgt := 12) hz dX11_orTooLate_8 (by decide) ?_
    obtain ⟨rfl, rfl⟩ := sp_inv h
    exact v_iret hz dX11_orTooLate_12 (by decide) (by decide)
noncomputable def gX11_blockOf_105 (K25 : Mem → Nat → Int32 → Int32 → Int32 → Int32 → Int32 → Option (Int32 × Mem)) (M : Mem) (l0 : Nat) (l1 : Int32) (l2 : Int32) (l3 : Int32) (l4 : Int32) (l5 : Int32) : Option (Int32 × Mem) :=
  K25 M l0 l1 l2 l3 l4 (l5 + (1 : Int32))
noncomputable def gX11_blockOf_25  : Nat → Mem → Nat → Int32 → Int32 → Int32 → Int32 → Int32 → Option (Int32 × Mem)
  | 0, _, _, _, _, _, _, _ => none
  | n + 1, M, l0, l1, l2, l3, l4, l5 => if (25 : Int32) ≤ l5 then (some (l4, M)) else (if (40 : Int32) < l3 then (some (l4, M)) else (if l5 = l2 then (gX11_blockOf_105 (gX11_blockOf_25 n) M l0 l1 l2 l3 l4 l5) else (ck (isK M l0 11) <| rb (mR M l0 0) fun b9 => ck (isK M b9 3) <| rb (mR M b9 7) fun b11 => ck (isK M b11 14) <| ck (inb l1 (mG M b11)) <| if l5 = (mI M b11 l1.toNatClampNeg) then (gX11_blockOf_105 (gX11_blockOf_25 n) M l0 l1 l2 l3 l4 l5) else (bd (fX11_leaveAloneInTrial M l0 l1) fun x14 M14 => ck (isK M14 l0 11) <| rb (mR M14 l0 1) fun b16 => ck (isK M14 b16 3) <| rb (mR M14 b16 3) fun b18 => ck (isK M14 b18 14) <| ck (inb l5 (mG M14 b18)) <| bd (fX3_hoursTo (stI M14 b18 l5.toNatClampNeg (99 : Int32)) b16 l1 l2) fun x21 M21 => bd (fX11_orTooLate M21 x21) fun x22 M22 => if x22 ≤ l3 then (gX11_blockOf_105 (gX11_blockOf_25 n) M22 l0 l1 l2 l3 l4 l5) else (gX11_blockOf_105 (gX11_blockOf_25 n) M22 l0 l1 l2 x22 l5 l5)))))
noncomputable def fX11_blockOf (M : Mem) (a0 : Nat) (a1 : Int32) (a2 : Int32) : Option (Int32 × Mem) :=
  ck (isK M a0 11) <| bd (fX11_leaveAloneInTrial M a0 a1) fun x2 M2 => ck (isK M2 a0 11) <| rb (mR M2 a0 1) fun b4 => ck (isK M2 b4 3) <| bd (fX3_hoursTo M2 b4 a1 a2) fun x6 M6 => bd (fX11_orTooLate M6 x6) fun x7 M7 => gX11_blockOf_25 FU M7 a0 a1 a2 x7 (-5 : Int32) (0 : Int32)
set_option maxRecDepth 100000 in
set_option maxHeartbeats 4000000 in
theorem wX11_blockOf_105 {z : Zx} {fx : Fx} {al : Bool} {r : Nat} {N : Mem} {xr : Int32} (hz : Zok z fx al yX11_blockOf.cls yX11_blockOf.name cX11_blockOf (some .int) 7 (r + 6) 0 0 (some (.int xr)) N)  {K25 : Mem → Nat → Int32 → Int32 → Int32 → Int32 → Int32 → Option (Int32 × Mem)} (hK25 : ∀ {M : Mem} {l0 : Nat} {l1 : Int32} {l2 : Int32} {l3 : Int32} {l4 : Int32} {l5 : Int32}, K25 M l0 l1 l2 l3 l4 l5 = some (xr, N) → V z 25 [some (.ref l0), some (.int l1), some (.int l2), some (.int l3), some (.int l4), some (.int l5), none] [] M 0 0) {M : Mem} {l0 : Nat} {l1 : Int32} {l2 : Int32} {l3 : Int32} {l4 : Int32} {l5 : Int32} (h : gX11_blockOf_105 K25 M l0 l1 l2 l3 l4 l5 = some (xr, N)) : V z 105 [some (.ref l0), some (.int l1), some (.int l2), some (.int l3), some (.int l4), some (.int l5), none] [] M 0 0 := by
  unfold gX11_blockOf_105 at h
  refine v_iinc hz (v := (l5 + (1 : Int32))) (lw := [some (.ref l0), some (.int l1), some (.int l2), some (.int l3), some (.int l4), some (.int (l5 + (1 : Int32))), none]) rfl (congrArg (fun q => l5 + q) (show Int32.ofInt (1) = (1 : Int32) by decide)) rfl rfl dX11_blockOf_105 ?_
  refine v_goto (tgt := 25) hz dX11_blockOf_108 (by decide) ?_
  exact v_weak (lvle_s (lvle_s (lvle_s (lvle_s (lvle_s (lvle_s (lvle_n lvle_0))))))) (hK25 h)
set_option maxRecDepth 100000 in
set_option maxHeartbeats 4000000 in
theorem gX11_blockOf_25_s  (n : Nat) (M : Mem) (l0 : Nat) (l1 : Int32) (l2 : Int32) (l3 : Int32) (l4 : Int32) (l5 : Int32) : gX11_blockOf_25  (n + 1) M l0 l1 l2 l3 l4 l5 = (if (25 : Int32) ≤ l5 then (some (l4, M)) else (if (40 : Int32) < l3 then (some (l4, M)) else (if l5 = l2 then (gX11_blockOf_105 (gX11_blockOf_25 n) M l0 l1 l2 l3 l4 l5) else (ck (isK M l0 11) <| rb (mR M l0 0) fun b9 => ck (isK M b9 3) <| rb (mR M b9 7) fun b11 => ck (isK M b11 14) <| ck (inb l1 (mG M b11)) <| if l5 = (mI M b11 l1.toNatClampNeg) then (gX11_blockOf_105 (gX11_blockOf_25 n) M l0 l1 l2 l3 l4 l5) else (bd (fX11_leaveAloneInTrial M l0 l1) fun x14 M14 => ck (isK M14 l0 11) <| rb (mR M14 l0 1) fun b16 => ck (isK M14 b16 3) <| rb (mR M14 b16 3) fun b18 => ck (isK M14 b18 14) <| ck (inb l5 (mG M14 b18)) <| bd (fX3_hoursTo (stI M14 b18 l5.toNatClampNeg (99 : Int32)) b16 l1 l2) fun x21 M21 => bd (fX11_orTooLate M21 x21) fun x22 M22 => if x22 ≤ l3 then (gX11_blockOf_105 (gX11_blockOf_25 n) M22 l0 l1 l2 l3 l4 l5) else (gX11_blockOf_105 (gX11_blockOf_25 n) M22 l0 l1 l2 x22 l5 l5)))))) := rfl
set_option maxRecDepth 100000 in
set_option maxHeartbeats 4000000 in
theorem wX11_blockOf_25 {z : Zx} {fx : Fx} {al : Bool} {r : Nat} {N : Mem} {xr : Int32} (hz : Zok z fx al yX11_blockOf.cls yX11_blockOf.name cX11_blockOf (some .int) 7 (r + 6) 0 0 (some (.int xr)) N)    : ∀ {n : Nat} {M : Mem} {l0 : Nat} {l1 : Int32} {l2 : Int32} {l3 : Int32} {l4 : Int32} {l5 : Int32}, gX11_blockOf_25  n M l0 l1 l2 l3 l4 l5 = some (xr, N) → V z 25 [some (.ref l0), some (.int l1), some (.int l2), some (.int l3), some (.int l4), some (.int l5), none] [] M 0 0 := by
  intro n
  induction n with
  | zero => intro M l0 l1 l2 l3 l4 l5 h; cases h
  | succ n ih =>
    intro M l0 l1 l2 l3 l4 l5 h
    replace h := (gX11_blockOf_25_s  n M l0 l1 l2 l3 l4 l5).symm.trans h
    refine v_iload hz rfl dX11_blockOf_25 ?_
    refine v_bipush hz (v := (25 : Int32)) (by decide) dX11_blockOf_27 ?_
    refine v_icmp_ge (tgt := 111) hz dX11_blockOf_29 (by decide) (fun hc => ?_) (fun hc => ?_)
    · replace h := (if_pos hc).symm.trans h
      refine v_iload hz rfl dX11_blockOf_111 ?_
      obtain ⟨rfl, rfl⟩ := sp_inv h
      exact v_iret hz dX11_blockOf_113 (by decide) (by decide)
    · replace h := (if_neg hc).symm.trans h
      refine v_iload_n hz rfl rfl dX11_blockOf_32 ?_
      refine v_bipush hz (v := (40 : Int32)) (by decide) dX11_blockOf_33 ?_
      refine v_icmp_gt (tgt := 111) hz dX11_blockOf_35 (by decide) (fun hc => ?_) (fun hc => ?_)
      · replace h := (if_pos hc).symm.trans h
        refine v_iload hz rfl dX11_blockOf_111 ?_
        obtain ⟨rfl, rfl⟩ := sp_inv h
        exact v_iret hz dX11_blockOf_113 (by decide) (by decide)
      · replace h := (if_neg hc).symm.trans h
        refine v_iload hz rfl dX11_blockOf_38 ?_
        refine v_iload_n hz rfl rfl dX11_blockOf_40 ?_
        refine v_icmp_eq (tgt := 105) hz dX11_blockOf_41 (by decide) (fun hc => ?_) (fun hc => ?_)
        · replace h := (if_pos hc).symm.trans h
          exact v_weak (lvle_s (lvle_s (lvle_s (lvle_s (lvle_s (lvle_s (lvle_n lvle_0))))))) (wX11_blockOf_105 hz  (fun h => ih h) h)
        · replace h := (if_neg hc).symm.trans h
          refine v_iload hz rfl dX11_blockOf_44 ?_
          refine v_aload_n hz rfl rfl dX11_blockOf_46 ?_
          obtain ⟨ck8, h⟩ := ck_inv h
          obtain ⟨ka8, kb8⟩ := isK_of ck8
          obtain ⟨b9, r9, h⟩ := rb_inv h
          refine v_getR hz fl_X11_90 rfl dX11_blockOf_47 ka8 kb8 r9 ?_
          obtain ⟨ck10, h⟩ := ck_inv h
          obtain ⟨ka10, kb10⟩ := isK_of ck10
          obtain ⟨b11, r11, h⟩ := rb_inv h
          refine v_getR hz fl_X11_120 rfl dX11_blockOf_50 ka10 kb10 r11 ?_
          refine v_iload_n hz rfl rfl dX11_blockOf_53 ?_
          obtain ⟨ck12, h⟩ := ck_inv h
          obtain ⟨ka12, kb12⟩ := isK_of ck12
          obtain ⟨g13, h⟩ := ck_inv h
          refine v_iaload hz dX11_blockOf_54 ka12 kb12 g13 ?_
          refine v_icmp_ne (tgt := 61) hz dX11_blockOf_55 (by decide) (fun hc => ?_) (fun hc => ?_)
          · replace h := (if_neg hc).symm.trans h
            refine v_aload_n hz rfl rfl dX11_blockOf_61 ?_
            refine v_iload_n hz rfl rfl dX11_blockOf_62 ?_
            obtain ⟨x14, M14, e14, h⟩ := bd_inv h
            refine v_callV hz (As := [.int l1]) vl_X11_289 (tX11_leaveAloneInTrial (r + 3) e14) rfl (by decide) ka8 kb8 rfl rfl rfl (Nat.le_of_ble_eq_true rfl) ⟨by decide, by decide⟩ dX11_blockOf_63 ?_
            show V z 66 [some (.ref l0), some (.int l1), some (.int l2), some (.int l3), some (.int l4), some (.int l5), none] [] M14 0 0
            refine v_aload_n hz rfl rfl dX11_blockOf_66 ?_
            obtain ⟨ck15, h⟩ := ck_inv h
            obtain ⟨ka15, kb15⟩ := isK_of ck15
            obtain ⟨b16, r16, h⟩ := rb_inv h
            refine v_getR hz fl_X11_94 rfl dX11_blockOf_67 ka15 kb15 r16 ?_
            obtain ⟨ck17, h⟩ := ck_inv h
            obtain ⟨ka17, kb17⟩ := isK_of ck17
            obtain ⟨b18, r18, h⟩ := rb_inv h
            refine v_getR hz fl_X11_143 rfl dX11_blockOf_70 ka17 kb17 r18 ?_
            refine v_iload hz rfl dX11_blockOf_73 ?_
            refine v_bipush hz (v := (99 : Int32)) (by decide) dX11_blockOf_75 ?_
            obtain ⟨ck19, h⟩ := ck_inv h
            obtain ⟨ka19, kb19⟩ := isK_of ck19
            obtain ⟨g20, h⟩ := ck_inv h
            refine v_iastore hz dX11_blockOf_77 ka19 kb19 g20 ?_
            refine v_aload_n hz rfl rfl dX11_blockOf_78 ?_
            refine v_getR hz fl_X11_94 rfl dX11_blockOf_79 ka15 kb15 r16 ?_
            refine v_iload_n hz rfl rfl dX11_blockOf_82 ?_
            refine v_iload_n hz rfl rfl dX11_blockOf_83 ?_
            obtain ⟨x21, M21, e21, h⟩ := bd_inv h
            refine v_callV hz (As := [.int l1, .int l2]) vl_X11_191 (tX3_hoursTo (r + 0) e21) rfl (by decide) ka17 kb17 rfl rfl rfl (Nat.le_of_ble_eq_true rfl) ⟨by decide, by decide⟩ dX11_blockOf_84 ?_
            show V z 87 [some (.ref l0), some (.int l1), some (.int l2), some (.int l3), some (.int l4), some (.int l5), none] [.int x21] M21 0 0
            obtain ⟨x22, M22, e22, h⟩ := bd_inv h
            refine v_callS hz (As := [.int x21]) sl_X11_292 (tX11_orTooLate (r + 5) e22) rfl rfl rfl (Nat.le_of_ble_eq_true rfl) ⟨by decide, by decide⟩ dX11_blockOf_87 ?_
            show V z 90 [some (.ref l0), some (.int l1), some (.int l2), some (.int l3), some (.int l4), some (.int l5), none] [.int x22] M22 0 0
            refine v_istore hz (lw := [some (.ref l0), some (.int l1), some (.int l2), some (.int l3), some (.int l4), some (.int l5), some (.int x22)]) (Nat.le_of_ble_eq_true rfl) rfl rfl dX11_blockOf_90 ?_
            refine v_iload hz rfl dX11_blockOf_92 ?_
            refine v_iload_n hz rfl rfl dX11_blockOf_94 ?_
            refine v_icmp_le (tgt := 105) hz dX11_blockOf_95 (by decide) (fun hc => ?_) (fun hc => ?_)
            · replace h := (if_pos hc).symm.trans h
              exact v_weak (lvle_s (lvle_s (lvle_s (lvle_s (lvle_s (lvle_s (lvle_n lvle_0))))))) (wX11_blockOf_105 hz  (fun h => ih h) h)
            · replace h := (if_neg hc).symm.trans h
              refine v_iload hz rfl dX11_blockOf_98 ?_
              refine v_istore_n hz (lw := [some (.ref l0), some (.int l1), some (.int l2), some (.int x22), some (.int l4), some (.int l5), some (.int x22)]) rfl (Nat.le_of_ble_eq_true rfl) rfl rfl dX11_blockOf_100 ?_
              refine v_iload hz rfl dX11_blockOf_101 ?_
              refine v_istore hz (lw := [some (.ref l0), some (.int l1), some (.int l2), some (.int x22), some (.int l5), some (.int l5), some (.int x22)]) (Nat.le_of_ble_eq_true rfl) rfl rfl dX11_blockOf_103 ?_
              exact v_weak (lvle_s (lvle_s (lvle_s (lvle_s (lvle_s (lvle_s (lvle_n lvle_0))))))) (wX11_blockOf_105 hz  (fun h => ih h) h)
          · replace h := (if_pos hc).symm.trans h
            refine v_goto (tgt := 105) hz dX11_blockOf_58 (by decide) ?_
            exact v_weak (lvle_s (lvle_s (lvle_s (lvle_s (lvle_s (lvle_s (lvle_n lvle_0))))))) (wX11_blockOf_105 hz  (fun h => ih h) h)
set_option maxRecDepth 100000 in
set_option maxHeartbeats 4000000 in
theorem tX11_blockOf (r : Nat) {fx : Fx} {al : Bool} {M N : Mem} {a0 : Nat} {a1 : Int32} {a2 : Int32} {xr : Int32}  (h : fX11_blockOf M a0 a1 a2 = some (xr, N)) : Ct fx yX11_blockOf cX11_blockOf 7 (some .int) (r + 6) 0 0 al [.ref a0, .int a1, .int a2] M (some (.int xr)) N := by
  refine ct_of (lv := [some (.ref a0), some (.int a1), some (.int a2), none, none, none, none]) (by decide) (Nat.le_of_ble_eq_true rfl) rfl rfl (fun z hz => ?_)
  unfold fX11_blockOf at h
  refine v_aload_n hz rfl rfl dX11_blockOf_0 ?_
  refine v_iload_n hz rfl rfl dX11_blockOf_1 ?_
  obtain ⟨ck1, h⟩ := ck_inv h
  obtain ⟨ka1, kb1⟩ := isK_of ck1
  obtain ⟨x2, M2, e2, h⟩ := bd_inv h
  refine v_callV hz (As := [.int a1]) vl_X11_289 (tX11_leaveAloneInTrial (r + 3) e2) rfl (by decide) ka1 kb1 rfl rfl rfl (Nat.le_of_ble_eq_true rfl) ⟨by decide, by decide⟩ dX11_blockOf_2 ?_
  show V z 5 [some (.ref a0), some (.int a1), some (.int a2), none, none, none, none] [] M2 0 0
  refine v_aload_n hz rfl rfl dX11_blockOf_5 ?_
  obtain ⟨ck3, h⟩ := ck_inv h
  obtain ⟨ka3, kb3⟩ := isK_of ck3
  obtain ⟨b4, r4, h⟩ := rb_inv h
  refine v_getR hz fl_X11_94 rfl dX11_blockOf_6 ka3 kb3 r4 ?_
  refine v_iload_n hz rfl rfl dX11_blockOf_9 ?_
  refine v_iload_n hz rfl rfl dX11_blockOf_10 ?_
  obtain ⟨ck5, h⟩ := ck_inv h
  obtain ⟨ka5, kb5⟩ := isK_of ck5
  obtain ⟨x6, M6, e6, h⟩ := bd_inv h
  refine v_callV hz (As := [.int a1, .int a2]) vl_X11_191 (tX3_hoursTo (r + 0) e6) rfl (by decide) ka5 kb5 rfl rfl rfl (Nat.le_of_ble_eq_true rfl) ⟨by decide, by decide⟩ dX11_blockOf_11 ?_
  show V z 14 [some (.ref a0), some (.int a1), some (.int a2), none, none, none, none] [.int x6] M6 0 0
  obtain ⟨x7, M7, e7, h⟩ := bd_inv h
  refine v_callS hz (As := [.int x6]) sl_X11_292 (tX11_orTooLate (r + 5) e7) rfl rfl rfl (Nat.le_of_ble_eq_true rfl) ⟨by decide, by decide⟩ dX11_blockOf_14 ?_
  show V z 17 [some (.ref a0), some (.int a1), some (.int a2), none, none, none, none] [.int x7] M7 0 0
  refine v_istore_n hz (lw := [some (.ref a0), some (.int a1), some (.int a2), some (.int x7), none, none, none]) rfl (Nat.le_of_ble_eq_true rfl) rfl rfl dX11_blockOf_17 ?_
  refine v_bipush hz (v := (-5 : Int32)) (by decide) dX11_blockOf_18 ?_
  refine v_istore hz (lw := [some (.ref a0), some (.int a1), some (.int a2), some (.int x7), some (.int (-5 : Int32)), none, none]) (Nat.le_of_ble_eq_true rfl) rfl rfl dX11_blockOf_20 ?_
  refine v_iconst hz (v := (0 : Int32)) (by decide) dX11_blockOf_22 ?_
  refine v_istore hz (lw := [some (.ref a0), some (.int a1), some (.int a2), some (.int x7), some (.int (-5 : Int32)), some (.int (0 : Int32)), none]) (Nat.le_of_ble_eq_true rfl) rfl rfl dX11_blockOf_23 ?_
  exact v_weak (lvle_s (lvle_s (lvle_s (lvle_s (lvle_s (lvle_s (lvle_n lvle_0))))))) (wX11_blockOf_25 hz   h)
noncomputable def fX11_way (M : Mem) (a0 : Nat) (a1 : Int32) (a2 : Int32) (a3 : Int32) : Option (Int32 × Mem) :=
  ck (isK M a0 11) <| bd (fX11_isPerson M a0 a1) fun x2 M2 => if x2 = 0 then (some ((-1 : Int32), M2)) else (bd (fX11_isCell M2 a2) fun x3 M3 => if x3 = 0 then (some ((-1 : Int32), M3)) else (if a3 = (0 : Int32) then (ck (isK M3 a0 11) <| rb (mR M3 a0 1) fun b6 => rb (mR M3 a0 0) fun b7 => ck (isK M3 b6 3) <| bd (fX3_take M3 b6 b7) fun x9 M9 => ck (isK M9 a0 11) <| rb (mR M9 a0 1) fun b11 => ck (isK M9 b11 3) <| bd (fX3_hoursTo M9 b11 a1 a2) fun x13 M13 => some (x13, M13)) else if a3 = (1 : Int32) then (ck (isK M3 a0 11) <| rb (mR M3 a0 0) fun b15 => ck (isK M3 b15 3) <| bd (fX3_stepsTo M3 b15 a1 a2) fun x17 M17 => some (x17, M17)) else if a3 = (2 : Int32) then (ck (isK M3 a0 11) <| bd (fX11_blockOf M3 a0 a1 a2) fun x19 M19 => some (x19, M19)) else (some ((-1 : Int32), M3))))
set_option maxRecDepth 100000 in
set_option maxHeartbeats 4000000 in
theorem tX11_way (r : Nat) {fx : Fx} {al : Bool} {M N : Mem} {a0 : Nat} {a1 : Int32} {a2 : Int32} {a3 : Int32} {xr : Int32}  (h : fX11_way M a0 a1 a2 a3 = some (xr, N)) : Ct fx yX11_way cX11_way 4 (some .int) (r + 7) 0 0 al [.ref a0, .int a1, .int a2, .int a3] M (some (.int xr)) N := by
  refine ct_of (lv := [some (.ref a0), some (.int a1), some (.int a2), some (.int a3)]) (by decide) (Nat.le_of_ble_eq_true rfl) rfl rfl (fun z hz => ?_)
  unfold fX11_way at h
  refine v_aload_n hz rfl rfl dX11_way_0 ?_
  refine v_iload_n hz rfl rfl dX11_way_1 ?_
  obtain ⟨ck1, h⟩ := ck_inv h
  obtain ⟨ka1, kb1⟩ := isK_of ck1
  obtain ⟨x2, M2, e2, h⟩ := bd_inv h
  refine v_callV hz (As := [.int a1]) vl_X11_111 (tX11_isPerson (r + 6) e2) rfl (by decide) ka1 kb1 rfl rfl rfl (Nat.le_of_ble_eq_true rfl) ⟨by decide, by decide⟩ dX11_way_2 ?_
  show V z 5 [some (.ref a0), some (.int a1), some (.int a2), some (.int a3)] [.int x2] M2 0 0
  refine v_if_eq (tgt := 15) hz dX11_way_5 (by decide) (fun hc => ?_) (fun hc => ?_)
  · replace h := (if_pos hc).symm.trans h
    refine v_iconst hz (v := (-1 : Int32)) (by decide) dX11_way_15 ?_
    obtain ⟨rfl, rfl⟩ := sp_inv h
    exact v_iret hz dX11_way_16 (by decide) (by decide)
  · replace h := (if_neg hc).symm.trans h
    refine v_iload_n hz rfl rfl dX11_way_8 ?_
    obtain ⟨x3, M3, e3, h⟩ := bd_inv h
    refine v_callS hz (As := [.int a2]) sl_X11_100 (tX11_isCell (r + 6) e3) rfl rfl rfl (Nat.le_of_ble_eq_true rfl) ⟨by decide, by decide⟩ dX11_way_9 ?_
    show V z 12 [some (.ref a0), some (.int a1), some (.int a2), some (.int a3)] [.int x3] M3 0 0
    refine v_if_ne (tgt := 17) hz dX11_way_12 (by decide) (fun hc => ?_) (fun hc => ?_)
    · replace h := (if_neg hc).symm.trans h
      refine v_iload_n hz rfl rfl dX11_way_17 ?_
      by_cases hs4_0 : a3 = (0 : Int32)
      · replace h := (if_pos hs4_0).symm.trans h
        refine v_tableAt (tgt := 44) hz hs4_0 dX11_way_18 (by decide) (by decide) (by decide) (by decide) ?_
        refine v_aload_n hz rfl rfl dX11_way_44 ?_
        obtain ⟨ck5, h⟩ := ck_inv h
        obtain ⟨ka5, kb5⟩ := isK_of ck5
        obtain ⟨b6, r6, h⟩ := rb_inv h
        refine v_getR hz fl_X11_94 rfl dX11_way_45 ka5 kb5 r6 ?_
        refine v_aload_n hz rfl rfl dX11_way_48 ?_
        obtain ⟨b7, r7, h⟩ := rb_inv h
        refine v_getR hz fl_X11_90 rfl dX11_way_49 ka5 kb5 r7 ?_
        obtain ⟨ck8, h⟩ := ck_inv h
        obtain ⟨ka8, kb8⟩ := isK_of ck8
        obtain ⟨x9, M9, e9, h⟩ := bd_inv h
        refine v_callV hz (As := [.ref b7]) vl_X11_187 (tX3_take (r + 5) e9) rfl (by decide) ka8 kb8 rfl rfl rfl (Nat.le_of_ble_eq_true rfl) ⟨by decide, by decide⟩ dX11_way_52 ?_
        show V z 55 [some (.ref a0), some (.int a1), some (.int a2), some (.int a3)] [] M9 0 0
        refine v_aload_n hz rfl rfl dX11_way_55 ?_
        obtain ⟨ck10, h⟩ := ck_inv h
        obtain ⟨ka10, kb10⟩ := isK_of ck10
        obtain ⟨b11, r11, h⟩ := rb_inv h
        refine v_getR hz fl_X11_94 rfl dX11_way_56 ka10 kb10 r11 ?_
        refine v_iload_n hz rfl rfl dX11_way_59 ?_
        refine v_iload_n hz rfl rfl dX11_way_60 ?_
        obtain ⟨ck12, h⟩ := ck_inv h
        obtain ⟨ka12, kb12⟩ := isK_of ck12
        obtain ⟨x13, M13, e13, h⟩ := bd_inv h
        refine v_callV hz (As := [.int a1, .int a2]) vl_X11_191 (tX3_hoursTo (r + 1) e13) rfl (by decide) ka12 kb12 rfl rfl rfl (Nat.le_of_ble_eq_true rfl) ⟨by decide, by decide⟩ dX11_way_61 ?_
        show V z 64 [some (.ref a0), some (.int a1), some (.int a2), some (.int a3)] [.int x13] M13 0 0
        obtain ⟨rfl, rfl⟩ := sp_inv h
        exact v_iret hz dX11_way_64 (by decide) (by decide)
      replace h := (if_neg hs4_0).symm.trans h
      by_cases hs4_1 : a3 = (1 : Int32)
      · replace h := (if_pos hs4_1).symm.trans h
        refine v_tableAt (tgt := 65) hz hs4_1 dX11_way_18 (by decide) (by decide) (by decide) (by decide) ?_
        refine v_aload_n hz rfl rfl dX11_way_65 ?_
        obtain ⟨ck14, h⟩ := ck_inv h
        obtain ⟨ka14, kb14⟩ := isK_of ck14
        obtain ⟨b15, r15, h⟩ := rb_inv h
        refine v_getR hz fl_X11_90 rfl dX11_way_66 ka14 kb14 r15 ?_
        refine v_iload_n hz rfl rfl dX11_way_69 ?_
        refine v_iload_n hz rfl rfl dX11_way_70 ?_
        obtain ⟨ck16, h⟩ := ck_inv h
        obtain ⟨ka16, kb16⟩ := isK_of ck16
        obtain ⟨x17, M17, e17, h⟩ := bd_inv h
        refine v_callV hz (As := [.int a1, .int a2]) vl_X11_194 (tX3_stepsTo (r + 5) e17) rfl (by decide) ka16 kb16 rfl rfl rfl (Nat.le_of_ble_eq_true rfl) ⟨by decide, by decide⟩ dX11_way_71 ?_
        show V z 74 [some (.ref a0), some (.int a1), some (.int a2), some (.int a3)] [.int x17] M17 0 0
        obtain ⟨rfl, rfl⟩ := sp_inv h
        exact v_iret hz dX11_way_74 (by decide) (by decide)
      replace h := (if_neg hs4_1).symm.trans h
      by_cases hs4_2 : a3 = (2 : Int32)
      · replace h := (if_pos hs4_2).symm.trans h
        refine v_tableAt (tgt := 75) hz hs4_2 dX11_way_18 (by decide) (by decide) (by decide) (by decide) ?_
        refine v_aload_n hz rfl rfl dX11_way_75 ?_
        refine v_iload_n hz rfl rfl dX11_way_76 ?_
        refine v_iload_n hz rfl rfl dX11_way_77 ?_
        obtain ⟨ck18, h⟩ := ck_inv h
        obtain ⟨ka18, kb18⟩ := isK_of ck18
        obtain ⟨x19, M19, e19, h⟩ := bd_inv h
        refine v_callV hz (As := [.int a1, .int a2]) vl_X11_197 (tX11_blockOf (r + 0) e19) rfl (by decide) ka18 kb18 rfl rfl rfl (Nat.le_of_ble_eq_true rfl) ⟨by decide, by decide⟩ dX11_way_78 ?_
        show V z 81 [some (.ref a0), some (.int a1), some (.int a2), some (.int a3)] [.int x19] M19 0 0
        obtain ⟨rfl, rfl⟩ := sp_inv h
        exact v_iret hz dX11_way_81 (by decide) (by decide)
      replace h := (if_neg hs4_2).symm.trans h
      refine v_tableOut (tgt := 82) hz dX11_way_18 (by have q0 := lv_neT hs4_0 (show ((0 : Int32)).toInt = 0 by decide); have q1 := lv_neT hs4_1 (show ((1 : Int32)).toInt = 1 by decide); have q2 := lv_neT hs4_2 (show ((2 : Int32)).toInt = 2 by decide); omega) (by decide) ?_
      refine v_iconst hz (v := (-1 : Int32)) (by decide) dX11_way_82 ?_
      obtain ⟨rfl, rfl⟩ := sp_inv h
      exact v_iret hz dX11_way_83 (by decide) (by decide)
    · replace h := (if_pos hc).symm.trans h
      refine v_iconst hz (v := (-1 : Int32)) (by decide) dX11_way_15 ?_
      obtain ⟨rfl, rfl⟩ := sp_inv h
      exact v_iret hz dX11_way_16 (by decide) (by decide)
noncomputable def gX11_isNext_2  : Nat → Mem → Int32 → Int32 → Int32 → Option (Int32 × Mem)
  | 0, _, _, _, _ => none
  | n + 1, M, l0, l1, l2 => if (4 : Int32) ≤ l2 then (some ((0 : Int32), M)) else (bd (fX11_nextTo M l0 l2) fun x1 M1 => if x1 = l1 then (some ((1 : Int32), M1)) else ((gX11_isNext_2 n) M1 l0 l1 (l2 + (1 : Int32))))
noncomputable def fX11_isNext (M : Mem) (a0 : Int32) (a1 : Int32) : Option (Int32 × Mem) :=
  gX11_isNext_2 FU M a0 a1 (0 : Int32)
set_option maxRecDepth 100000 in
set_option maxHeartbeats 4000000 in
theorem gX11_isNext_2_s  (n : Nat) (M : Mem) (l0 : Int32) (l1 : Int32) (l2 : Int32) : gX11_isNext_2  (n + 1) M l0 l1 l2 = (if (4 : Int32) ≤ l2 then (some ((0 : Int32), M)) else (bd (fX11_nextTo M l0 l2) fun x1 M1 => if x1 = l1 then (some ((1 : Int32), M1)) else ((gX11_isNext_2 n) M1 l0 l1 (l2 + (1 : Int32))))) := rfl
set_option maxRecDepth 100000 in
set_option maxHeartbeats 4000000 in
theorem wX11_isNext_2 {z : Zx} {fx : Fx} {al : Bool} {r : Nat} {N : Mem} {xr : Int32} (hz : Zok z fx al yX11_isNext.cls yX11_isNext.name cX11_isNext (some .boolean) 3 (r + 1) 0 0 (some (.int xr)) N)    : ∀ {n : Nat} {M : Mem} {l0 : Int32} {l1 : Int32} {l2 : Int32}, gX11_isNext_2  n M l0 l1 l2 = some (xr, N) → V z 2 [some (.int l0), some (.int l1), some (.int l2)] [] M 0 0 := by
  intro n
  induction n with
  | zero => intro M l0 l1 l2 h; cases h
  | succ n ih =>
    intro M l0 l1 l2 h
    replace h := (gX11_isNext_2_s  n M l0 l1 l2).symm.trans h
    refine v_iload_n hz rfl rfl dX11_isNext_2 ?_
    refine v_iconst hz (v := (4 : Int32)) (by decide) dX11_isNext_3 ?_
    refine v_icmp_ge (tgt := 24) hz dX11_isNext_4 (by decide) (fun hc => ?_) (fun hc => ?_)
    · replace h := (if_pos hc).symm.trans h
      refine v_iconst hz (v := (0 : Int32)) (by decide) dX11_isNext_24 ?_
      obtain ⟨rfl, rfl⟩ := sp_inv h
      exact v_zret hz (Or.inl rfl) dX11_isNext_25 (by decide) (by decide)
    · replace h := (if_neg hc).symm.trans h
      refine v_iload_n hz rfl rfl dX11_isNext_7 ?_
      refine v_iload_n hz rfl rfl dX11_isNext_8 ?_
      obtain ⟨x1, M1, e1, h⟩ := bd_inv h
      refine v_callS hz (As := [.int l0, .int l2]) sl_X11_286 (tX11_nextTo (r + 0) e1) rfl rfl rfl (Nat.le_of_ble_eq_true rfl) ⟨by decide, by decide⟩ dX11_isNext_9 ?_
      show V z 12 [some (.int l0), some (.int l1), some (.int l2)] [.int x1] M1 0 0
      refine v_iload_n hz rfl rfl dX11_isNext_12 ?_
      refine v_icmp_ne (tgt := 18) hz dX11_isNext_13 (by decide) (fun hc => ?_) (fun hc => ?_)
      · replace h := (if_neg hc).symm.trans h
        refine v_iinc hz (v := (l2 + (1 : Int32))) (lw := [some (.int l0), some (.int l1), some (.int (l2 + (1 : Int32)))]) rfl (congrArg (fun q => l2 + q) (show Int32.ofInt (1) = (1 : Int32) by decide)) rfl rfl dX11_isNext_18 ?_
        refine v_goto (tgt := 2) hz dX11_isNext_21 (by decide) ?_
        exact v_weak (lvle_s (lvle_s (lvle_s lvle_0))) (ih h)
      · replace h := (if_pos hc).symm.trans h
        refine v_iconst hz (v := (1 : Int32)) (by decide) dX11_isNext_16 ?_
        obtain ⟨rfl, rfl⟩ := sp_inv h
        exact v_zret hz (Or.inr rfl) dX11_isNext_17 (by decide) (by decide)
set_option maxRecDepth 100000 in
set_option maxHeartbeats 4000000 in
theorem tX11_isNext (r : Nat) {fx : Fx} {al : Bool} {M N : Mem} {a0 : Int32} {a1 : Int32} {xr : Int32}  (h : fX11_isNext M a0 a1 = some (xr, N)) : Ct fx yX11_isNext cX11_isNext 3 (some .boolean) (r + 1) 0 0 al [.int a0, .int a1] M (some (.int xr)) N := by
  refine ct_of (lv := [some (.int a0), some (.int a1), none]) (by decide) (Nat.le_of_ble_eq_true rfl) rfl rfl (fun z hz => ?_)
  unfold fX11_isNext at h
  refine v_iconst hz (v := (0 : Int32)) (by decide) dX11_isNext_0 ?_
  refine v_istore_n hz (lw := [some (.int a0), some (.int a1), some (.int (0 : Int32))]) rfl (Nat.le_of_ble_eq_true rfl) rfl rfl dX11_isNext_1 ?_
  exact v_weak (lvle_s (lvle_s (lvle_s lvle_0))) (wX11_isNext_2 hz   h)
noncomputable def gX11_night_49  : Nat → Mem → Nat → Int32 → Int32 → Int32 → Option (Int32 × Mem)
  | 0, _, _, _, _, _ => none
  | n + 1, M, l0, l1, l2, l3 => if (99 : Int32) < l3 then (some ((-5 : Int32), M)) else (ck (isK M l0 11) <| rb (mR M l0 1) fun b17 => ck (isK M b17 3) <| rb (mR M b17 3) fun b19 => rb (mR M l0 0) fun b20 => ck (isK M b20 3) <| rb (mR M b20 3) fun b22 => ck (isK M b22 14) <| ck (inb l2 (mG M b22)) <| ck (isK M b19 14) <| ck (inb l2 (mG M b19)) <| bd (fX3_tread (stI M b19 l2.toNatClampNeg (mI M b22 l2.toNatClampNeg)) b17 l2 l3) fun x27 M27 => ck (isK M27 l0 11) <| rb (mR M27 l0 1) fun b29 => ck (isK M27 b29 3) <| bd (fX3_sends M27 b29 l1) fun x31 M31 => if x31 = l2 then (some (l3, M31)) else ((gX11_night_49 n) M31 l0 l1 l2 (l3 + (1 : Int32))))
noncomputable def fX11_night (M : Mem) (a0 : Nat) (a1 : Int32) (a2 : Int32) : Option (Int32 × Mem) :=
  ck (isK M a0 11) <| bd (fX11_isPerson M a0 a1) fun x2 M2 => if x2 = 0 then (some ((-1 : Int32), M2)) else (bd (fX11_isCell M2 a2) fun x3 M3 => if x3 = 0 then (some ((-1 : Int32), M3)) else (ck (isK M3 a0 11) <| rb (mR M3 a0 0) fun b5 => ck (isK M3 b5 3) <| rb (mR M3 b5 7) fun b7 => ck (isK M3 b7 14) <| ck (inb a1 (mG M3 b7)) <| bd (fX11_isNext M3 (mI M3 b7 a1.toNatClampNeg) a2) fun x10 M10 => if x10 = 0 then (some ((-2 : Int32), M10)) else (ck (isK M10 a0 11) <| rb (mR M10 a0 1) fun b12 => rb (mR M10 a0 0) fun b13 => ck (isK M10 b12 3) <| bd (fX3_take M10 b12 b13) fun x15 M15 => gX11_night_49 FU M15 a0 a1 a2 (0 : Int32))))
set_option maxRecDepth 100000 in
set_option maxHeartbeats 4000000 in
theorem gX11_night_49_s  (n : Nat) (M : Mem) (l0 : Nat) (l1 : Int32) (l2 : Int32) (l3 : Int32) : gX11_night_49  (n + 1) M l0 l1 l2 l3 = (if (99 : Int32) < l3 then (some ((-5 : Int32), M)) else (ck (isK M l0 11) <| rb (mR M l0 1) fun b17 => ck (isK M b17 3) <| rb (mR M b17 3) fun b19 => rb (mR M l0 0) fun b20 => ck (isK M b20 3) <| rb (mR M b20 3) fun b22 => ck (isK M b22 14) <| ck (inb l2 (mG M b22)) <| ck (isK M b19 14) <| ck (inb l2 (mG M b19)) <| bd (fX3_tread (stI M b19 l2.toNatClampNeg (mI M b22 l2.toNatClampNeg)) b17 l2 l3) fun x27 M27 => ck (isK M27 l0 11) <| rb (mR M27 l0 1) fun b29 => ck (isK M27 b29 3) <| bd (fX3_sends M27 b29 l1) fun x31 M31 => if x31 = l2 then (some (l3, M31)) else ((gX11_night_49 n) M31 l0 l1 l2 (l3 + (1 : Int32))))) := rfl
set_option maxRecDepth 100000 in
set_option maxHeartbeats 4000000 in
theorem wX11_night_49 {z : Zx} {fx : Fx} {al : Bool} {r : Nat} {N : Mem} {xr : Int32} (hz : Zok z fx al yX11_night.cls yX11_night.name cX11_night (some .int) 4 (r + 4) 0 0 (some (.int xr)) N)    : ∀ {n : Nat} {M : Mem} {l0 : Nat} {l1 : Int32} {l2 : Int32} {l3 : Int32}, gX11_night_49  n M l0 l1 l2 l3 = some (xr, N) → V z 49 [some (.ref l0), some (.int l1), some (.int l2), some (.int l3)] [] M 0 0 := by
  intro n
  induction n with
  | zero => intro M l0 l1 l2 l3 h; cases h
  | succ n ih =>
    intro M l0 l1 l2 l3 h
    replace h := (gX11_night_49_s  n M l0 l1 l2 l3).symm.trans h
    refine v_iload_n hz rfl rfl dX11_night_49 ?_
    refine v_bipush hz (v := (99 : Int32)) (by decide) dX11_night_50 ?_
    refine v_icmp_gt (tgt := 102) hz dX11_night_52 (by decide) (fun hc => ?_) (fun hc => ?_)
    · replace h := (if_pos hc).symm.trans h
      refine v_bipush hz (v := (-5 : Int32)) (by decide) dX11_night_102 ?_
      obtain ⟨rfl, rfl⟩ := sp_inv h
      exact v_iret hz dX11_night_104 (by decide) (by decide)
    · replace h := (if_neg hc).symm.trans h
      refine v_aload_n hz rfl rfl dX11_night_55 ?_
      obtain ⟨ck16, h⟩ := ck_inv h
      obtain ⟨ka16, kb16⟩ := isK_of ck16
      obtain ⟨b17, r17, h⟩ := rb_inv h
      refine v_getR hz fl_X11_94 rfl dX11_night_56 ka16 kb16 r17 ?_
      obtain ⟨ck18, h⟩ := ck_inv h
      obtain ⟨ka18, kb18⟩ := isK_of ck18
      obtain ⟨b19, r19, h⟩ := rb_inv h
      refine v_getR hz fl_X11_143 rfl dX11_night_59 ka18 kb18 r19 ?_
      refine v_iload_n hz rfl rfl dX11_night_62 ?_
      refine v_aload_n hz rfl rfl dX11_night_63 ?_
      obtain ⟨b20, r20, h⟩ := rb_inv h
      refine v_getR hz fl_X11_90 rfl dX11_night_64 ka16 kb16 r20 ?_
      obtain ⟨ck21, h⟩ := ck_inv h
      obtain ⟨ka21, kb21⟩ := isK_of ck21
      obtain ⟨b22, r22, h⟩ := rb_inv h
      refine v_getR hz fl_X11_143 rfl dX11_night_67 ka21 kb21 r22 ?_
      refine v_iload_n hz rfl rfl dX11_night_70 ?_
      obtain ⟨ck23, h⟩ := ck_inv h
      obtain ⟨ka23, kb23⟩ := isK_of ck23
      obtain ⟨g24, h⟩ := ck_inv h
      refine v_iaload hz dX11_night_71 ka23 kb23 g24 ?_
      obtain ⟨ck25, h⟩ := ck_inv h
      obtain ⟨ka25, kb25⟩ := isK_of ck25
      obtain ⟨g26, h⟩ := ck_inv h
      refine v_iastore hz dX11_night_72 ka25 kb25 g26 ?_
      refine v_aload_n hz rfl rfl dX11_night_73 ?_
      refine v_getR hz fl_X11_94 rfl dX11_night_74 ka16 kb16 r17 ?_
      refine v_iload_n hz rfl rfl dX11_night_77 ?_
      refine v_iload_n hz rfl rfl dX11_night_78 ?_
      obtain ⟨x27, M27, e27, h⟩ := bd_inv h
      refine v_callV hz (As := [.int l2, .int l3]) vl_X11_204 (tX3_tread (r + 2) e27) rfl (by decide) ka18 kb18 rfl rfl rfl (Nat.le_of_ble_eq_true rfl) ⟨by decide, by decide⟩ dX11_night_79 ?_
      show V z 82 [some (.ref l0), some (.int l1), some (.int l2), some (.int l3)] [] M27 0 0
      refine v_aload_n hz rfl rfl dX11_night_82 ?_
      obtain ⟨ck28, h⟩ := ck_inv h
      obtain ⟨ka28, kb28⟩ := isK_of ck28
      obtain ⟨b29, r29, h⟩ := rb_inv h
      refine v_getR hz fl_X11_94 rfl dX11_night_83 ka28 kb28 r29 ?_
      refine v_iload_n hz rfl rfl dX11_night_86 ?_
      obtain ⟨ck30, h⟩ := ck_inv h
      obtain ⟨ka30, kb30⟩ := isK_of ck30
      obtain ⟨x31, M31, e31, h⟩ := bd_inv h
      refine v_callV hz (As := [.int l1]) vl_X11_127 (tX3_sends (r + 0) e31) rfl (by decide) ka30 kb30 rfl rfl rfl (Nat.le_of_ble_eq_true rfl) ⟨by decide, by decide⟩ dX11_night_87 ?_
      show V z 90 [some (.ref l0), some (.int l1), some (.int l2), some (.int l3)] [.int x31] M31 0 0
      refine v_iload_n hz rfl rfl dX11_night_90 ?_
      refine v_icmp_ne (tgt := 96) hz dX11_night_91 (by decide) (fun hc => ?_) (fun hc => ?_)
      · replace h := (if_neg hc).symm.trans h
        refine v_iinc hz (v := (l3 + (1 : Int32))) (lw := [some (.ref l0), some (.int l1), some (.int l2), some (.int (l3 + (1 : Int32)))]) rfl (congrArg (fun q => l3 + q) (show Int32.ofInt (1) = (1 : Int32) by decide)) rfl rfl dX11_night_96 ?_
        refine v_goto (tgt := 49) hz dX11_night_99 (by decide) ?_
        exact v_weak (lvle_s (lvle_s (lvle_s (lvle_s lvle_0)))) (ih h)
      · replace h := (if_pos hc).symm.trans h
        refine v_iload_n hz rfl rfl dX11_night_94 ?_
        obtain ⟨rfl, rfl⟩ := sp_inv h
        exact v_iret hz dX11_night_95 (by decide) (by decide)
set_option maxRecDepth 100000 in
set_option maxHeartbeats 4000000 in
theorem tX11_night (r : Nat) {fx : Fx} {al : Bool} {M N : Mem} {a0 : Nat} {a1 : Int32} {a2 : Int32} {xr : Int32}  (h : fX11_night M a0 a1 a2 = some (xr, N)) : Ct fx yX11_night cX11_night 4 (some .int) (r + 4) 0 0 al [.ref a0, .int a1, .int a2] M (some (.int xr)) N := by
  refine ct_of (lv := [some (.ref a0), some (.int a1), some (.int a2), none]) (by decide) (Nat.le_of_ble_eq_true rfl) rfl rfl (fun z hz => ?_)
  unfold fX11_night at h
  refine v_aload_n hz rfl rfl dX11_night_0 ?_
  refine v_iload_n hz rfl rfl dX11_night_1 ?_
  obtain ⟨ck1, h⟩ := ck_inv h
  obtain ⟨ka1, kb1⟩ := isK_of ck1
  obtain ⟨x2, M2, e2, h⟩ := bd_inv h
  refine v_callV hz (As := [.int a1]) vl_X11_111 (tX11_isPerson (r + 3) e2) rfl (by decide) ka1 kb1 rfl rfl rfl (Nat.le_of_ble_eq_true rfl) ⟨by decide, by decide⟩ dX11_night_2 ?_
  show V z 5 [some (.ref a0), some (.int a1), some (.int a2), none] [.int x2] M2 0 0
  refine v_if_eq (tgt := 15) hz dX11_night_5 (by decide) (fun hc => ?_) (fun hc => ?_)
  · replace h := (if_pos hc).symm.trans h
    refine v_iconst hz (v := (-1 : Int32)) (by decide) dX11_night_15 ?_
    obtain ⟨rfl, rfl⟩ := sp_inv h
    exact v_iret hz dX11_night_16 (by decide) (by decide)
  · replace h := (if_neg hc).symm.trans h
    refine v_iload_n hz rfl rfl dX11_night_8 ?_
    obtain ⟨x3, M3, e3, h⟩ := bd_inv h
    refine v_callS hz (As := [.int a2]) sl_X11_100 (tX11_isCell (r + 3) e3) rfl rfl rfl (Nat.le_of_ble_eq_true rfl) ⟨by decide, by decide⟩ dX11_night_9 ?_
    show V z 12 [some (.ref a0), some (.int a1), some (.int a2), none] [.int x3] M3 0 0
    refine v_if_ne (tgt := 17) hz dX11_night_12 (by decide) (fun hc => ?_) (fun hc => ?_)
    · replace h := (if_neg hc).symm.trans h
      refine v_aload_n hz rfl rfl dX11_night_17 ?_
      obtain ⟨ck4, h⟩ := ck_inv h
      obtain ⟨ka4, kb4⟩ := isK_of ck4
      obtain ⟨b5, r5, h⟩ := rb_inv h
      refine v_getR hz fl_X11_90 rfl dX11_night_18 ka4 kb4 r5 ?_
      obtain ⟨ck6, h⟩ := ck_inv h
      obtain ⟨ka6, kb6⟩ := isK_of ck6
      obtain ⟨b7, r7, h⟩ := rb_inv h
      refine v_getR hz fl_X11_120 rfl dX11_night_21 ka6 kb6 r7 ?_
      refine v_iload_n hz rfl rfl dX11_night_24 ?_
      obtain ⟨ck8, h⟩ := ck_inv h
      obtain ⟨ka8, kb8⟩ := isK_of ck8
      obtain ⟨g9, h⟩ := ck_inv h
      refine v_iaload hz dX11_night_25 ka8 kb8 g9 ?_
      refine v_iload_n hz rfl rfl dX11_night_26 ?_
      obtain ⟨x10, M10, e10, h⟩ := bd_inv h
      refine v_callS hz (As := [.int (mI M3 b7 a1.toNatClampNeg), .int a2]) sl_X11_200 (tX11_isNext (r + 2) e10) rfl rfl rfl (Nat.le_of_ble_eq_true rfl) ⟨by decide, by decide⟩ dX11_night_27 ?_
      show V z 30 [some (.ref a0), some (.int a1), some (.int a2), none] [.int x10] M10 0 0
      refine v_if_ne (tgt := 36) hz dX11_night_30 (by decide) (fun hc => ?_) (fun hc => ?_)
      · replace h := (if_neg hc).symm.trans h
        refine v_aload_n hz rfl rfl dX11_night_36 ?_
        obtain ⟨ck11, h⟩ := ck_inv h
        obtain ⟨ka11, kb11⟩ := isK_of ck11
        obtain ⟨b12, r12, h⟩ := rb_inv h
        refine v_getR hz fl_X11_94 rfl dX11_night_37 ka11 kb11 r12 ?_
        refine v_aload_n hz rfl rfl dX11_night_40 ?_
        obtain ⟨b13, r13, h⟩ := rb_inv h
        refine v_getR hz fl_X11_90 rfl dX11_night_41 ka11 kb11 r13 ?_
        obtain ⟨ck14, h⟩ := ck_inv h
        obtain ⟨ka14, kb14⟩ := isK_of ck14
        obtain ⟨x15, M15, e15, h⟩ := bd_inv h
        refine v_callV hz (As := [.ref b13]) vl_X11_187 (tX3_take (r + 2) e15) rfl (by decide) ka14 kb14 rfl rfl rfl (Nat.le_of_ble_eq_true rfl) ⟨by decide, by decide⟩ dX11_night_44 ?_
        show V z 47 [some (.ref a0), some (.int a1), some (.int a2), none] [] M15 0 0
        refine v_iconst hz (v := (0 : Int32)) (by decide) dX11_night_47 ?_
        refine v_istore_n hz (lw := [some (.ref a0), some (.int a1), some (.int a2), some (.int (0 : Int32))]) rfl (Nat.le_of_ble_eq_true rfl) rfl rfl dX11_night_48 ?_
        exact v_weak (lvle_s (lvle_s (lvle_s (lvle_s lvle_0)))) (wX11_night_49 hz   h)
      · replace h := (if_pos hc).symm.trans h
        refine v_bipush hz (v := (-2 : Int32)) (by decide) dX11_night_33 ?_
        obtain ⟨rfl, rfl⟩ := sp_inv h
        exact v_iret hz dX11_night_35 (by decide) (by decide)
    · replace h := (if_pos hc).symm.trans h
      refine v_iconst hz (v := (-1 : Int32)) (by decide) dX11_night_15 ?_
      obtain ⟨rfl, rfl⟩ := sp_inv h
      exact v_iret hz dX11_night_16 (by decide) (by decide)
