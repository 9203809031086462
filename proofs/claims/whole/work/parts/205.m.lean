noncomputable def gX7_readClause_60  (M : Mem) (l0 : Nat) (l1 : Int32) : Option (Int32 × Mem) :=
  ck (isK M l0 7) <| bd (fX7_readNumber M l0) fun x6 M6 => if x6 = (-1 : Int32) then (some ((0 : Int32), M6)) else (ck (isK M6 l0 7) <| bd (fX7_readWord M6 l0 4) fun x8 M8 => if x8 = 0 then (some ((0 : Int32), M8)) else (ck (isK M8 l0 7) <| bd (fX7_readEither M8 l0 (0 : Int32)) fun x10 M10 => if x10 = 0 then (some ((0 : Int32), M10)) else (ck (isK M10 l0 7) <| bd (fX7_addStep M10 l0 l1 x6) fun x12 M12 => some ((1 : Int32), M12))))
noncomputable def fX7_readClause (M : Mem) (a0 : Nat) : Option (Int32 × Mem) :=
  ck (isK M a0 7) <| if (mI M a0 6) = (100 : Int32) then (bd (fX7_readWord M a0 0) fun x15 M15 => if x15 = 0 then (some ((0 : Int32), M15)) else (gX7_readClause_60 M15 a0 (4 : Int32))) else (bd (fX7_readWord M a0 1) fun x2 M2 => if x2 = 0 then (some ((0 : Int32), M2)) else (ck (isK M2 a0 7) <| if (mI M2 a0 6) = (114 : Int32) then (bd (fX7_readWord M2 a0 3) fun x4 M4 => if x4 = 0 then (some ((0 : Int32), M4)) else (gX7_readClause_60 M4 a0 (5 : Int32))) else (bd (fX7_readBald M2 a0) fun x13 M13 => ck (b01 x13) <| some (x13, M13))))
set_option maxRecDepth 100000 in
set_option maxHeartbeats 4000000 in
theorem wX7_readClause_60 {z : Zx} {fx : Fx} {al : Bool} {r : Nat} {N : Mem} {xr : Int32} (hz : Zok z fx al yX7_readClause.cls yX7_readClause.name cX7_readClause (some .boolean) 3 (r + 30) 0 0 (some (.int xr)) N)    {M : Mem} {l0 : Nat} {l1 : Int32} (h : gX7_readClause_60  M l0 l1 = some (xr, N)) : V z 60 [some (.ref l0), some (.int l1), none] [] M 0 0 := by
  unfold gX7_readClause_60 at h
  refine v_aload_n hz rfl rfl dX7_readClause_60 ?_
  obtain ⟨ck5, h⟩ := ck_inv h
  obtain ⟨ka5, kb5⟩ := isK_of ck5
  obtain ⟨x6, M6, e6, h⟩ := bd_inv h
  refine v_callV hz (As := []) vl_X7_65 (tX7_readNumber (r + 28) e6) rfl (by decide) ka5 kb5 rfl rfl rfl (Nat.le_of_ble_eq_true rfl) ⟨by decide, by decide⟩ dX7_readClause_61 ?_
  show V z 64 [some (.ref l0), some (.int l1), none] [.int x6] M6 0 0
  refine v_istore_n hz (lw := [some (.ref l0), some (.int l1), some (.int x6)]) rfl (Nat.le_of_ble_eq_true rfl) rfl rfl dX7_readClause_64 ?_
  refine v_iload_n hz rfl rfl dX7_readClause_65 ?_
  refine v_iconst hz (v := (-1 : Int32)) (by decide) dX7_readClause_66 ?_
  refine v_icmp_eq (tgt := 87) hz dX7_readClause_67 (by decide) (fun hc => ?_) (fun hc => ?_)
  · replace h := (if_pos hc).symm.trans h
    refine v_iconst hz (v := (0 : Int32)) (by decide) dX7_readClause_87 ?_
    obtain ⟨rfl, rfl⟩ := sp_inv h
    exact v_zret hz (Or.inl rfl) dX7_readClause_88 (by decide) (by decide)
  · replace h := (if_neg hc).symm.trans h
    refine v_aload_n hz rfl rfl dX7_readClause_70 ?_
    refine v_ldcS hz (tx := " ") (j := 4) (by decide +kernel) dX7_readClause_71 ?_
    obtain ⟨ck7, h⟩ := ck_inv h
    obtain ⟨ka7, kb7⟩ := isK_of ck7
    obtain ⟨x8, M8, e8, h⟩ := bd_inv h
    refine v_callV hz (As := [.retAddr 4]) vl_X7_54 (tX7_readWord (r + 24) e8) rfl (by decide) ka7 kb7 rfl rfl rfl (Nat.le_of_ble_eq_true rfl) ⟨by decide, by decide⟩ dX7_readClause_73 ?_
    show V z 76 [some (.ref l0), some (.int l1), some (.int x6)] [.int x8] M8 0 0
    refine v_if_eq (tgt := 87) hz dX7_readClause_76 (by decide) (fun hc => ?_) (fun hc => ?_)
    · replace h := (if_pos hc).symm.trans h
      refine v_iconst hz (v := (0 : Int32)) (by decide) dX7_readClause_87 ?_
      obtain ⟨rfl, rfl⟩ := sp_inv h
      exact v_zret hz (Or.inl rfl) dX7_readClause_88 (by decide) (by decide)
    · replace h := (if_neg hc).symm.trans h
      refine v_aload_n hz rfl rfl dX7_readClause_79 ?_
      refine v_iconst hz (v := (0 : Int32)) (by decide) dX7_readClause_80 ?_
      obtain ⟨ck9, h⟩ := ck_inv h
      obtain ⟨ka9, kb9⟩ := isK_of ck9
      obtain ⟨x10, M10, e10, h⟩ := bd_inv h
      refine v_callV hz (As := [.int (0 : Int32)]) vl_X7_70 (tX7_readEither (r + 0) e10) rfl (by decide) ka9 kb9 rfl rfl rfl (Nat.le_of_ble_eq_true rfl) ⟨by decide, by decide⟩ dX7_readClause_81 ?_
      show V z 84 [some (.ref l0), some (.int l1), some (.int x6)] [.int x10] M10 0 0
      refine v_if_ne (tgt := 89) hz dX7_readClause_84 (by decide) (fun hc => ?_) (fun hc => ?_)
      · replace h := (if_neg hc).symm.trans h
        refine v_aload_n hz rfl rfl dX7_readClause_89 ?_
        refine v_iload_n hz rfl rfl dX7_readClause_90 ?_
        refine v_iload_n hz rfl rfl dX7_readClause_91 ?_
        obtain ⟨ck11, h⟩ := ck_inv h
        obtain ⟨ka11, kb11⟩ := isK_of ck11
        obtain ⟨x12, M12, e12, h⟩ := bd_inv h
        refine v_callV hz (As := [.int l1, .int x6]) vl_X7_74 (tX7_addStep (r + 29) e12) rfl (by decide) ka11 kb11 rfl rfl rfl (Nat.le_of_ble_eq_true rfl) ⟨by decide, by decide⟩ dX7_readClause_92 ?_
        show V z 95 [some (.ref l0), some (.int l1), some (.int x6)] [] M12 0 0
        refine v_iconst hz (v := (1 : Int32)) (by decide) dX7_readClause_95 ?_
        obtain ⟨rfl, rfl⟩ := sp_inv h
        exact v_zret hz (Or.inr rfl) dX7_readClause_96 (by decide) (by decide)
      · replace h := (if_pos hc).symm.trans h
        refine v_iconst hz (v := (0 : Int32)) (by decide) dX7_readClause_87 ?_
        obtain ⟨rfl, rfl⟩ := sp_inv h
        exact v_zret hz (Or.inl rfl) dX7_readClause_88 (by decide) (by decide)
set_option maxRecDepth 100000 in
set_option maxHeartbeats 4000000 in
theorem tX7_readClause (r : Nat) {fx : Fx} {al : Bool} {M N : Mem} {a0 : Nat} {xr : Int32}  (h : fX7_readClause M a0 = some (xr, N)) : Ct fx yX7_readClause cX7_readClause 3 (some .boolean) (r + 30) 0 0 al [.ref a0] M (some (.int xr)) N := by
  refine ct_of (lv := [some (.ref a0), none, none]) (by decide) (Nat.le_of_ble_eq_true rfl) rfl rfl (fun z hz => ?_)
  unfold fX7_readClause at h
  refine v_iconst hz (v := (4 : Int32)) (by decide) dX7_readClause_0 ?_
  refine v_istore_n hz (lw := [some (.ref a0), some (.int (4 : Int32)), none]) rfl (Nat.le_of_ble_eq_true rfl) rfl rfl dX7_readClause_1 ?_
  refine v_aload_n hz rfl rfl dX7_readClause_2 ?_
  obtain ⟨ck1, h⟩ := ck_inv h
  obtain ⟨ka1, kb1⟩ := isK_of ck1
  refine v_getI hz fl_X7_37 rfl dX7_readClause_3 ka1 kb1 ?_
  refine v_bipush hz (v := (100 : Int32)) (by decide) dX7_readClause_6 ?_
  refine v_icmp_ne (tgt := 22) hz dX7_readClause_8 (by decide) (fun hc => ?_) (fun hc => ?_)
  · replace h := (if_neg hc).symm.trans h
    refine v_aload_n hz rfl rfl dX7_readClause_22 ?_
    refine v_ldcS hz (tx := "ba") (j := 1) (by decide +kernel) dX7_readClause_23 ?_
    obtain ⟨x2, M2, e2, h⟩ := bd_inv h
    refine v_callV hz (As := [.retAddr 1]) vl_X7_54 (tX7_readWord (r + 24) e2) rfl (by decide) ka1 kb1 rfl rfl rfl (Nat.le_of_ble_eq_true rfl) ⟨by decide, by decide⟩ dX7_readClause_25 ?_
    show V z 28 [some (.ref a0), some (.int (4 : Int32)), none] [.int x2] M2 0 0
    refine v_if_ne (tgt := 33) hz dX7_readClause_28 (by decide) (fun hc => ?_) (fun hc => ?_)
    · replace h := (if_neg hc).symm.trans h
      refine v_iconst hz (v := (5 : Int32)) (by decide) dX7_readClause_33 ?_
      refine v_istore_n hz (lw := [some (.ref a0), some (.int (5 : Int32)), none]) rfl (Nat.le_of_ble_eq_true rfl) rfl rfl dX7_readClause_34 ?_
      refine v_aload_n hz rfl rfl dX7_readClause_35 ?_
      obtain ⟨ck3, h⟩ := ck_inv h
      obtain ⟨ka3, kb3⟩ := isK_of ck3
      refine v_getI hz fl_X7_37 rfl dX7_readClause_36 ka3 kb3 ?_
      refine v_bipush hz (v := (114 : Int32)) (by decide) dX7_readClause_39 ?_
      refine v_icmp_eq (tgt := 49) hz dX7_readClause_41 (by decide) (fun hc => ?_) (fun hc => ?_)
      · replace h := (if_pos hc).symm.trans h
        refine v_aload_n hz rfl rfl dX7_readClause_49 ?_
        refine v_ldcS hz (tx := "r ") (j := 3) (by decide +kernel) dX7_readClause_50 ?_
        obtain ⟨x4, M4, e4, h⟩ := bd_inv h
        refine v_callV hz (As := [.retAddr 3]) vl_X7_54 (tX7_readWord (r + 24) e4) rfl (by decide) ka3 kb3 rfl rfl rfl (Nat.le_of_ble_eq_true rfl) ⟨by decide, by decide⟩ dX7_readClause_52 ?_
        show V z 55 [some (.ref a0), some (.int (5 : Int32)), none] [.int x4] M4 0 0
        refine v_if_ne (tgt := 60) hz dX7_readClause_55 (by decide) (fun hc => ?_) (fun hc => ?_)
        · replace h := (if_neg hc).symm.trans h
          exact v_weak (lvle_s (lvle_s (lvle_n lvle_0))) (wX7_readClause_60 hz   h)
        · replace h := (if_pos hc).symm.trans h
          refine v_iconst hz (v := (0 : Int32)) (by decide) dX7_readClause_58 ?_
          obtain ⟨rfl, rfl⟩ := sp_inv h
          exact v_zret hz (Or.inl rfl) dX7_readClause_59 (by decide) (by decide)
      · replace h := (if_neg hc).symm.trans h
        refine v_aload_n hz rfl rfl dX7_readClause_44 ?_
        obtain ⟨x13, M13, e13, h⟩ := bd_inv h
        refine v_callV hz (As := []) vl_X7_60 (tX7_readBald (r + 23) e13) rfl (by decide) ka3 kb3 rfl rfl rfl (Nat.le_of_ble_eq_true rfl) ⟨by decide, by decide⟩ dX7_readClause_45 ?_
        show V z 48 [some (.ref a0), some (.int (5 : Int32)), none] [.int x13] M13 0 0
        obtain ⟨g14, h⟩ := ck_inv h
        obtain ⟨rfl, rfl⟩ := sp_inv h
        exact v_zret hz (b01_of g14) dX7_readClause_48 (by decide) (by decide)
    · replace h := (if_pos hc).symm.trans h
      refine v_iconst hz (v := (0 : Int32)) (by decide) dX7_readClause_31 ?_
      obtain ⟨rfl, rfl⟩ := sp_inv h
      exact v_zret hz (Or.inl rfl) dX7_readClause_32 (by decide) (by decide)
  · replace h := (if_pos hc).symm.trans h
    refine v_aload_n hz rfl rfl dX7_readClause_11 ?_
    refine v_ldcS hz (tx := "draw ") (j := 0) (by decide +kernel) dX7_readClause_12 ?_
    obtain ⟨x15, M15, e15, h⟩ := bd_inv h
    refine v_callV hz (As := [.retAddr 0]) vl_X7_54 (tX7_readWord (r + 24) e15) rfl (by decide) ka1 kb1 rfl rfl rfl (Nat.le_of_ble_eq_true rfl) ⟨by decide, by decide⟩ dX7_readClause_14 ?_
    show V z 17 [some (.ref a0), some (.int (4 : Int32)), none] [.int x15] M15 0 0
    refine v_if_ne (tgt := 60) hz dX7_readClause_17 (by decide) (fun hc => ?_) (fun hc => ?_)
    · replace h := (if_neg hc).symm.trans h
      exact v_weak (lvle_s (lvle_s (lvle_n lvle_0))) (wX7_readClause_60 hz   h)
    · replace h := (if_pos hc).symm.trans h
      refine v_iconst hz (v := (0 : Int32)) (by decide) dX7_readClause_20 ?_
      obtain ⟨rfl, rfl⟩ := sp_inv h
      exact v_zret hz (Or.inl rfl) dX7_readClause_21 (by decide) (by decide)
noncomputable def gX7_readFrom_28  : Nat → Mem → Nat → Int32 → Option (Int32 × Mem)
  | 0, _, _, _ => none
  | n + 1, M, l0, l3 => if (10 : Int32) < l3 then (some ((0 : Int32), M)) else (ck (isK M l0 7) <| bd (fX7_readClause M l0) fun x4 M4 => if x4 = 0 then (some ((0 : Int32), M4)) else (ck (isK M4 l0 7) <| if (mI M4 l0 6) = (-1 : Int32) then (some ((1 : Int32), M4)) else (if (mI M4 l0 6) = (59 : Int32) then (if l3 = (10 : Int32) then (some ((0 : Int32), M4)) else (bd (fX7_goTo M4 l0 ((mI M4 l0 5) + (1 : Int32))) fun x6 M6 => (gX7_readFrom_28 n) M6 l0 (l3 + (1 : Int32)))) else (some ((0 : Int32), M4)))))
noncomputable def fX7_readFrom (M : Mem) (a0 : Nat) (a1 : Nat) (a2 : Int32) : Option (Int32 × Mem) :=
  ck (isK M a0 7) <| bd (fX7_goTo (stI (stI (stI (stR M a0 3 (some a1)) a0 4 a2) a0 1 (0 : Int32)) a0 2 (95 : Int32)) a0 (0 : Int32)) fun x2 M2 => gX7_readFrom_28 FU M2 a0 (1 : Int32)
set_option maxRecDepth 100000 in
set_option maxHeartbeats 4000000 in
theorem gX7_readFrom_28_s  (n : Nat) (M : Mem) (l0 : Nat) (l3 : Int32) : gX7_readFrom_28  (n + 1) M l0 l3 = (if (10 : Int32) < l3 then (some ((0 : Int32), M)) else (ck (isK M l0 7) <| bd (fX7_readClause M l0) fun x4 M4 => if x4 = 0 then (some ((0 : Int32), M4)) else (ck (isK M4 l0 7) <| if (mI M4 l0 6) = (-1 : Int32) then (some ((1 : Int32), M4)) else (if (mI M4 l0 6) = (59 : Int32) then (if l3 = (10 : Int32) then (some ((0 : Int32), M4)) else (bd (fX7_goTo M4 l0 ((mI M4 l0 5) + (1 : Int32))) fun x6 M6 => (gX7_readFrom_28 n) M6 l0 (l3 + (1 : Int32)))) else (some ((0 : Int32), M4)))))) := rfl
set_option maxRecDepth 100000 in
set_option maxHeartbeats 4000000 in
theorem wX7_readFrom_28 {z : Zx} {fx : Fx} {al : Bool} {r : Nat} {N : Mem} {xr : Int32} (hz : Zok z fx al yX7_readFrom.cls yX7_readFrom.name cX7_readFrom (some .boolean) 4 (r + 31) 0 0 (some (.int xr)) N)    : ∀ {n : Nat} {M : Mem} {l0 : Nat} {l3 : Int32}, gX7_readFrom_28  n M l0 l3 = some (xr, N) → V z 28 [some (.ref l0), none, none, some (.int l3)] [] M 0 0 := by
  intro n
  induction n with
  | zero => intro M l0 l3 h; cases h
  | succ n ih =>
    intro M l0 l3 h
    replace h := (gX7_readFrom_28_s  n M l0 l3).symm.trans h
    refine v_iload_n hz rfl rfl dX7_readFrom_28 ?_
    refine v_bipush hz (v := (10 : Int32)) (by decide) dX7_readFrom_29 ?_
    refine v_icmp_gt (tgt := 86) hz dX7_readFrom_31 (by decide) (fun hc => ?_) (fun hc => ?_)
    · replace h := (if_pos hc).symm.trans h
      refine v_iconst hz (v := (0 : Int32)) (by decide) dX7_readFrom_86 ?_
      obtain ⟨rfl, rfl⟩ := sp_inv h
      exact v_zret hz (Or.inl rfl) dX7_readFrom_87 (by decide) (by decide)
    · replace h := (if_neg hc).symm.trans h
      refine v_aload_n hz rfl rfl dX7_readFrom_34 ?_
      obtain ⟨ck3, h⟩ := ck_inv h
      obtain ⟨ka3, kb3⟩ := isK_of ck3
      obtain ⟨x4, M4, e4, h⟩ := bd_inv h
      refine v_callV hz (As := []) vl_X7_33 (tX7_readClause (r + 0) e4) rfl (by decide) ka3 kb3 rfl rfl rfl (Nat.le_of_ble_eq_true rfl) ⟨by decide, by decide⟩ dX7_readFrom_35 ?_
      show V z 38 [some (.ref l0), none, none, some (.int l3)] [.int x4] M4 0 0
      refine v_if_ne (tgt := 43) hz dX7_readFrom_38 (by decide) (fun hc => ?_) (fun hc => ?_)
      · replace h := (if_neg hc).symm.trans h
        refine v_aload_n hz rfl rfl dX7_readFrom_43 ?_
        obtain ⟨ck5, h⟩ := ck_inv h
        obtain ⟨ka5, kb5⟩ := isK_of ck5
        refine v_getI hz fl_X7_37 rfl dX7_readFrom_44 ka5 kb5 ?_
        refine v_iconst hz (v := (-1 : Int32)) (by decide) dX7_readFrom_47 ?_
        refine v_icmp_ne (tgt := 53) hz dX7_readFrom_48 (by decide) (fun hc => ?_) (fun hc => ?_)
        · replace h := (if_neg hc).symm.trans h
          refine v_aload_n hz rfl rfl dX7_readFrom_53 ?_
          refine v_getI hz fl_X7_37 rfl dX7_readFrom_54 ka5 kb5 ?_
          refine v_bipush hz (v := (59 : Int32)) (by decide) dX7_readFrom_57 ?_
          refine v_icmp_ne (tgt := 68) hz dX7_readFrom_59 (by decide) (fun hc => ?_) (fun hc => ?_)
          · replace h := (if_neg hc).symm.trans h
            refine v_iconst hz (v := (0 : Int32)) (by decide) dX7_readFrom_68 ?_
            obtain ⟨rfl, rfl⟩ := sp_inv h
            exact v_zret hz (Or.inl rfl) dX7_readFrom_69 (by decide) (by decide)
          · replace h := (if_pos hc).symm.trans h
            refine v_iload_n hz rfl rfl dX7_readFrom_62 ?_
            refine v_bipush hz (v := (10 : Int32)) (by decide) dX7_readFrom_63 ?_
            refine v_icmp_ne (tgt := 70) hz dX7_readFrom_65 (by decide) (fun hc => ?_) (fun hc => ?_)
            · replace h := (if_neg hc).symm.trans h
              refine v_aload_n hz rfl rfl dX7_readFrom_70 ?_
              refine v_aload_n hz rfl rfl dX7_readFrom_71 ?_
              refine v_getI hz fl_X7_40 rfl dX7_readFrom_72 ka5 kb5 ?_
              refine v_iconst hz (v := (1 : Int32)) (by decide) dX7_readFrom_75 ?_
              refine v_iadd hz dX7_readFrom_76 ?_
              obtain ⟨x6, M6, e6, h⟩ := bd_inv h
              refine v_callV hz (As := [.int ((mI M4 l0 5) + (1 : Int32))]) vl_X7_29 (tX7_goTo (r + 30) e6) rfl (by decide) ka5 kb5 rfl rfl rfl (Nat.le_of_ble_eq_true rfl) ⟨by decide, by decide⟩ dX7_readFrom_77 ?_
              show V z 80 [some (.ref l0), none, none, some (.int l3)] [] M6 0 0
              refine v_iinc hz (v := (l3 + (1 : Int32))) (lw := [some (.ref l0), none, none, some (.int (l3 + (1 : Int32)))]) rfl (congrArg (fun q => l3 + q) (show Int32.ofInt (1) = (1 : Int32) by decide)) rfl rfl dX7_readFrom_80 ?_
              refine v_goto (tgt := 28) hz dX7_readFrom_83 (by decide) ?_
              exact v_weak (lvle_s (lvle_n (lvle_n (lvle_s lvle_0)))) (ih h)
            · replace h := (if_pos hc).symm.trans h
              refine v_iconst hz (v := (0 : Int32)) (by decide) dX7_readFrom_68 ?_
              obtain ⟨rfl, rfl⟩ := sp_inv h
              exact v_zret hz (Or.inl rfl) dX7_readFrom_69 (by decide) (by decide)
        · replace h := (if_pos hc).symm.trans h
          refine v_iconst hz (v := (1 : Int32)) (by decide) dX7_readFrom_51 ?_
          obtain ⟨rfl, rfl⟩ := sp_inv h
          exact v_zret hz (Or.inr rfl) dX7_readFrom_52 (by decide) (by decide)
      · replace h := (if_pos hc).symm.trans h
        refine v_iconst hz (v := (0 : Int32)) (by decide) dX7_readFrom_41 ?_
        obtain ⟨rfl, rfl⟩ := sp_inv h
        exact v_zret hz (Or.inl rfl) dX7_readFrom_42 (by decide) (by decide)
set_option maxRecDepth 100000 in
set_option maxHeartbeats 4000000 in
theorem tX7_readFrom (r : Nat) {fx : Fx} {al : Bool} {M N : Mem} {a0 : Nat} {a1 : Nat} {a2 : Int32} {xr : Int32}  (h : fX7_readFrom M a0 a1 a2 = some (xr, N)) : Ct fx yX7_readFrom cX7_readFrom 4 (some .boolean) (r + 31) 0 0 al [.ref a0, .ref a1, .int a2] M (some (.int xr)) N := by
  refine ct_of (lv := [some (.ref a0), some (.ref a1), some (.int a2), none]) (by decide) (Nat.le_of_ble_eq_true rfl) rfl rfl (fun z hz => ?_)
  unfold fX7_readFrom at h
  refine v_aload_n hz rfl rfl dX7_readFrom_0 ?_
  refine v_aload_n hz rfl rfl dX7_readFrom_1 ?_
  obtain ⟨ck1, h⟩ := ck_inv h
  obtain ⟨ka1, kb1⟩ := isK_of ck1
  refine v_putR hz fl_X7_19 ft_7_3 (by decide) rfl (fun _ => rfl) (fun _ => rfl) dX7_readFrom_2 ka1 kb1 ?_
  refine v_aload_n hz rfl rfl dX7_readFrom_5 ?_
  refine v_iload_n hz rfl rfl dX7_readFrom_6 ?_
  refine v_putI hz fl_X7_23 ft_7_4 (by decide) rfl rfl rfl dX7_readFrom_7 ka1 kb1 ?_
  refine v_aload_n hz rfl rfl dX7_readFrom_10 ?_
  refine v_iconst hz (v := (0 : Int32)) (by decide) dX7_readFrom_11 ?_
  refine v_putI hz fl_X7_26 ft_7_1 (by decide) rfl rfl rfl dX7_readFrom_12 ka1 kb1 ?_
  refine v_aload_n hz rfl rfl dX7_readFrom_15 ?_
  refine v_bipush hz (v := (95 : Int32)) (by decide) dX7_readFrom_16 ?_
  refine v_putI hz fl_X7_15 ft_7_2 (by decide) rfl rfl rfl dX7_readFrom_18 ka1 kb1 ?_
  refine v_aload_n hz rfl rfl dX7_readFrom_21 ?_
  refine v_iconst hz (v := (0 : Int32)) (by decide) dX7_readFrom_22 ?_
  obtain ⟨x2, M2, e2, h⟩ := bd_inv h
  refine v_callV hz (As := [.int (0 : Int32)]) vl_X7_29 (tX7_goTo (r + 30) e2) rfl (by decide) ka1 kb1 rfl rfl rfl (Nat.le_of_ble_eq_true rfl) ⟨by decide, by decide⟩ dX7_readFrom_23 ?_
  show V z 26 [some (.ref a0), some (.ref a1), some (.int a2), none] [] M2 0 0
  refine v_iconst hz (v := (1 : Int32)) (by decide) dX7_readFrom_26 ?_
  refine v_istore_n hz (lw := [some (.ref a0), some (.ref a1), some (.int a2), some (.int (1 : Int32))]) rfl (Nat.le_of_ble_eq_true rfl) rfl rfl dX7_readFrom_27 ?_
  exact v_weak (lvle_s (lvle_n (lvle_n (lvle_s lvle_0)))) (wX7_readFrom_28 hz   h)
noncomputable def fX8_init (M : Mem) (a0 : Nat) : Option (Unit × Mem) :=
  bd (fX4_init M a0) fun x1 M1 => some ((), M1)
set_option maxRecDepth 100000 in
set_option maxHeartbeats 4000000 in
theorem tX8_init (r : Nat) {fx : Fx} {al : Bool} {M N : Mem} {a0 : Nat}  (h : fX8_init M a0 = some ((), N)) : Ct fx yX8_init cX8_init 1 none (r + 3) 0 0 al [.ref a0] M none N := by
  refine ct_of (lv := [some (.ref a0)]) (by decide) (Nat.le_of_ble_eq_true rfl) rfl rfl (fun z hz => ?_)
  unfold fX8_init at h
  refine v_aload_n hz rfl rfl dX8_init_0 ?_
  obtain ⟨x1, M1, e1, h⟩ := bd_inv h
  refine v_callIN hz (As := []) nl_X8_3 rfl (tX4_init (r + 0) e1) rfl rfl rfl (Nat.le_of_ble_eq_true rfl) ⟨by decide, by decide⟩ dX8_init_1 ?_
  show V z 4 [some (.ref a0)] [] M1 0 0
  obtain ⟨-, rfl⟩ := sp_inv h
  exact v_vret hz dX8_init_4 (by decide) (by decide)
noncomputable def gX11_init_261  : Nat → Mem → Nat → Int32 → Option (Unit × Mem)
  | 0, _, _, _ => none
  | n + 1, M, l0, l3 => if (6 : Int32) ≤ l3 then (some ((), M)) else (ck (isK M l0 11) <| rb (mR M l0 15) fun b85 => ck (isK M b85 14) <| ck (inb l3 (mG M b85)) <| (gX11_init_261 n) (stI M b85 l3.toNatClampNeg (-1 : Int32)) l0 (l3 + (1 : Int32)))
noncomputable def fX11_init (M : Mem) (a0 : Nat) : Option (Unit × Mem) :=
  nm (alc M 5 0) fun M1 => bd (fX5_init M1 (mN M) (5 : Int32)) fun x2 M2 => ck (isK M2 a0 11) <| nm (alc (stR M2 a0 2 (some (mN M))) 5 0) fun M4 => bd (fX5_init M4 (mN (stR M2 a0 2 (some (mN M)))) (10 : Int32)) fun x5 M5 => ck (isK M5 a0 11) <| nm (alc (stR M5 a0 3 (some (mN (stR M2 a0 2 (some (mN M)))))) 5 0) fun M7 => bd (fX5_init M7 (mN (stR M5 a0 3 (some (mN (stR M2 a0 2 (some (mN M))))))) (8 : Int32)) fun x8 M8 => ck (isK M8 a0 11) <| nm (alc (stR M8 a0 4 (some (mN (stR M5 a0 3 (some (mN (stR M2 a0 2 (some (mN M))))))))) 5 0) fun M10 => bd (fX5_init M10 (mN (stR M8 a0 4 (some (mN (stR M5 a0 3 (some (mN (stR M2 a0 2 (some (mN M)))))))))) (5 : Int32)) fun x11 M11 => ck (isK M11 a0 11) <| nm (alc (stR M11 a0 7 (some (mN (stR M8 a0 4 (some (mN (stR M5 a0 3 (some (mN (stR M2 a0 2 (some (mN M)))))))))))) 5 0) fun M13 => bd (fX5_init M13 (mN (stR M11 a0 7 (some (mN (stR M8 a0 4 (some (mN (stR M5 a0 3 (some (mN (stR M2 a0 2 (some (mN M))))))))))))) (10 : Int32)) fun x14 M14 => ck (isK M14 a0 11) <| nm (alc (stR M14 a0 8 (some (mN (stR M11 a0 7 (some (mN (stR M8 a0 4 (some (mN (stR M5 a0 3 (some (mN (stR M2 a0 2 (some (mN M))))))))))))))) 5 0) fun M16 => bd (fX5_init M16 (mN (stR M14 a0 8 (some (mN (stR M11 a0 7 (some (mN (stR M8 a0 4 (some (mN (stR M5 a0 3 (some (mN (stR M2 a0 2 (some (mN M)))))))))))))))) (8 : Int32)) fun x17 M17 => ck (isK M17 a0 11) <| nm (stR M17 a0 9 (some (mN (stR M14 a0 8 (some (mN (stR M11 a0 7 (some (mN (stR M8 a0 4 (some (mN (stR M5 a0 3 (some (mN (stR M2 a0 2 (some (mN M)))))))))))))))))) fun M19 => nm (alc M19 13 100) fun M20 => ck (isK M20 a0 11) <| nm (alc (stR M20 a0 10 (some (mN M19))) 7 0) fun M22 => bd (fX7_init M22 (mN (stR M20 a0 10 (some (mN M19))))) fun x23 M23 => ck (isK M23 a0 11) <| nm (alc (stR M23 a0 12 (some (mN (stR M20 a0 10 (some (mN M19)))))) 1 0) fun M25 => bd (fX1_init M25 (mN (stR M23 a0 12 (some (mN (stR M20 a0 10 (some (mN M19)))))))) fun x26 M26 => ck (isK M26 a0 11) <| nm (alc (stR M26 a0 14 (some (mN (stR M23 a0 12 (some (mN (stR M20 a0 10 (some (mN M19))))))))) 14 6) fun M28 => ck (isK M28 a0 11) <| nm (alc (stR M28 a0 15 (some (mN (stR M26 a0 14 (some (mN (stR M23 a0 12 (some (mN (stR M20 a0 10 (some (mN M19)))))))))))) 14 6) fun M30 => ck (isK M30 a0 11) <| nm (alc (stR M30 a0 16 (some (mN (stR M28 a0 15 (some (mN (stR M26 a0 14 (some (mN (stR M23 a0 12 (some (mN (stR M20 a0 10 (some (mN M19))))))))))))))) 15 360) fun M32 => ck (isK M32 a0 11) <| nm (stR M32 a0 17 (some (mN (stR M30 a0 16 (some (mN (stR M28 a0 15 (some (mN (stR M26 a0 14 (some (mN (stR M23 a0 12 (some (mN (stR M20 a0 10 (some (mN M19)))))))))))))))))) fun M34 => nm (alc M34 17 7) fun M35 => nm (alc M35 10 0) fun M36 => bd (fX10_init M36 (mN M35)) fun x37 M37 => ck (isK M37 (mN M34) 17) <| ck (inb (0 : Int32) (mG M37 (mN M34))) <| ck (isK M37 (mN M35) 10) <| nm (alc (stR M37 (mN M34) (0 : Int32).toNatClampNeg (some (mN M35))) 9 0) fun M41 => bd (fX9_init M41 (mN (stR M37 (mN M34) (0 : Int32).toNatClampNeg (some (mN M35))))) fun x42 M42 => ck (isK M42 (mN M34) 17) <| ck (inb (1 : Int32) (mG M42 (mN M34))) <| ck (isK M42 (mN (stR M37 (mN M34) (0 : Int32).toNatClampNeg (some (mN M35)))) 9) <| nm (alc (stR M42 (mN M34) (1 : Int32).toNatClampNeg (some (mN (stR M37 (mN M34) (0 : Int32).toNatClampNeg (some (mN M35)))))) 6 0) fun M46 => bd (fX6_init M46 (mN (stR M42 (mN M34) (1 : Int32).toNatClampNeg (some (mN (stR M37 (mN M34) (0 : Int32).toNatClampNeg (some (mN M35)))))))) fun x47 M47 => ck (isK M47 (mN M34) 17) <| ck (inb (2 : Int32) (mG M47 (mN M34))) <| ck (isK M47 (mN (stR M42 (mN M34) (1 : Int32).toNatClampNeg (some (mN (stR M37 (mN M34) (0 : Int32).toNatClampNeg (some (mN M35))))))) 6) <| nm (stR M47 (mN M34) (2 : Int32).toNatClampNeg (some (mN (stR M42 (mN M34) (1 : Int32).toNatClampNeg (some (mN (stR M37 (mN M34) (0 : Int32).toNatClampNeg (some (mN M35))))))))) fun M51 => nm (alc M51 4 0) fun M52 => bd (fX4_init M52 (mN M51)) fun x53 M53 => ck (isK M53 (mN M34) 17) <| ck (inb (3 : Int32) (mG M53 (mN M34))) <| ck (isK M53 (mN M51) 4) <| nm (alc (stR M53 (mN M34) (3 : Int32).toNatClampNeg (some (mN M51))) 2 0) fun M57 => bd (fX2_init M57 (mN (stR M53 (mN M34) (3 : Int32).toNatClampNeg (some (mN M51))))) fun x58 M58 => ck (isK M58 (mN M34) 17) <| ck (inb (4 : Int32) (mG M58 (mN M34))) <| ck (isK M58 (mN (stR M53 (mN M34) (3 : Int32).toNatClampNeg (some (mN M51)))) 2) <| nm (alc (stR M58 (mN M34) (4 : Int32).toNatClampNeg (some (mN (stR M53 (mN M34) (3 : Int32).toNatClampNeg (some (mN M51)))))) 0 0) fun M62 => bd (fX0_init M62 (mN (stR M58 (mN M34) (4 : Int32).toNatClampNeg (some (mN (stR M53 (mN M34) (3 : Int32).toNatClampNeg (some (mN M51)))))))) fun x63 M63 => ck (isK M63 (mN M34) 17) <| ck (inb (5 : Int32) (mG M63 (mN M34))) <| ck (isK M63 (mN (stR M58 (mN M34) (4 : Int32).toNatClampNeg (some (mN (stR M53 (mN M34) (3 : Int32).toNatClampNeg (some (mN M51))))))) 0) <| nm (stR M63 (mN M34) (5 : Int32).toNatClampNeg (some (mN (stR M58 (mN M34) (4 : Int32).toNatClampNeg (some (mN (stR M53 (mN M34) (3 : Int32).toNatClampNeg (some (mN M51))))))))) fun M67 => nm (alc M67 8 0) fun M68 => bd (fX8_init M68 (mN M67)) fun x69 M69 => ck (isK M69 (mN M34) 17) <| ck (inb (6 : Int32) (mG M69 (mN M34))) <| ck (isK M69 (mN M67) 8) <| nm (alc (stR M69 (mN M34) (6 : Int32).toNatClampNeg (some (mN M67))) 7 0) fun M73 => bd (fX7_init M73 (mN (stR M69 (mN M34) (6 : Int32).toNatClampNeg (some (mN M67))))) fun x74 M74 => nm (alc M74 3 0) fun M75 => bd (fX3_init M75 (mN M74) (mN M34) (mN (stR M69 (mN M34) (6 : Int32).toNatClampNeg (some (mN M67))))) fun x76 M76 => ck (isK M76 a0 11) <| nm (alc (stR M76 a0 0 (some (mN M74))) 3 0) fun M78 => bd (fX3_init M78 (mN (stR M76 a0 0 (some (mN M74)))) (mN M34) (mN (stR M69 (mN M34) (6 : Int32).toNatClampNeg (some (mN M67))))) fun x79 M79 => ck (isK M79 a0 11) <| nm (alc (stR M79 a0 1 (some (mN (stR M76 a0 0 (some (mN M74)))))) 3 0) fun M81 => bd (fX3_init M81 (mN (stR M79 a0 1 (some (mN (stR M76 a0 0 (some (mN M74))))))) (mN M34) (mN (stR M69 (mN M34) (6 : Int32).toNatClampNeg (some (mN M67))))) fun x82 M82 => ck (isK M82 a0 11) <| gX11_init_261 FU (stR M82 a0 6 (some (mN (stR M79 a0 1 (some (mN (stR M76 a0 0 (some (mN M74))))))))) a0 (0 : Int32)
set_option maxRecDepth 100000 in
set_option maxHeartbeats 4000000 in
theorem gX11_init_261_s  (n : Nat) (M : Mem) (l0 : Nat) (l3 : Int32) : gX11_init_261  (n + 1) M l0 l3 = (if (6 : Int32) ≤ l3 then (some ((), M)) else (ck (isK M l0 11) <| rb (mR M l0 15) fun b85 => ck (isK M b85 14) <| ck (inb l3 (mG M b85)) <| (gX11_init_261 n) (stI M b85 l3.toNatClampNeg (-1 : Int32)) l0 (l3 + (1 : Int32)))) := rfl
set_option maxRecDepth 100000 in
set_option maxHeartbeats 4000000 in
theorem wX11_init_261 {z : Zx} {fx : Fx} {r : Nat} {N : Mem} (hz : Zok z fx true yX11_init.cls yX11_init.name cX11_init none 4 (r + 4) 54 1185 none N)    : ∀ {n : Nat} {M : Mem} {l0 : Nat} {l3 : Int32}, gX11_init_261  n M l0 l3 = some ((), N) → V z 261 [some (.ref l0), none, none, some (.int l3)] [] M 54 1185 := by
  intro n
  induction n with
  | zero => intro M l0 l3 h; cases h
  | succ n ih =>
    intro M l0 l3 h
    replace h := (gX11_init_261_s  n M l0 l3).symm.trans h
    refine v_iload_n hz rfl rfl dX11_init_261 ?_
    refine v_bipush hz (v := (6 : Int32)) (by decide) dX11_init_262 ?_
    refine v_icmp_ge (tgt := 280) hz dX11_init_264 (by decide) (fun hc => ?_) (fun hc => ?_)
    · replace h := (if_pos hc).symm.trans h
      obtain ⟨-, rfl⟩ := sp_inv h
      exact v_vret hz dX11_init_280 (by decide) (by decide)
    · replace h := (if_neg hc).symm.trans h
      refine v_aload_n hz rfl rfl dX11_init_267 ?_
      obtain ⟨ck84, h⟩ := ck_inv h
      obtain ⟨ka84, kb84⟩ := isK_of ck84
      obtain ⟨b85, r85, h⟩ := rb_inv h
      refine v_getR hz fl_X11_53 rfl dX11_init_268 ka84 kb84 r85 ?_
      refine v_iload_n hz rfl rfl dX11_init_271 ?_
      refine v_iconst hz (v := (-1 : Int32)) (by decide) dX11_init_272 ?_
      obtain ⟨ck86, h⟩ := ck_inv h
      obtain ⟨ka86, kb86⟩ := isK_of ck86
      obtain ⟨g87, h⟩ := ck_inv h
      refine v_iastore hz dX11_init_273 ka86 kb86 g87 ?_
      refine v_iinc hz (v := (l3 + (1 : Int32))) (lw := [some (.ref l0), none, none, some (.int (l3 + (1 : Int32)))]) rfl (congrArg (fun q => l3 + q) (show Int32.ofInt (1) = (1 : Int32) by decide)) rfl rfl dX11_init_274 ?_
      refine v_goto (tgt := 261) hz dX11_init_277 (by decide) ?_
      exact v_weak (lvle_s (lvle_n (lvle_n (lvle_s lvle_0)))) (ih h)
set_option maxRecDepth 100000 in
set_option maxHeartbeats 4000000 in
theorem tX11_init (r : Nat) {fx : Fx} {M N : Mem} {a0 : Nat}  (h : fX11_init M a0 = some ((), N)) : Ct fx yX11_init cX11_init 4 none (r + 4) 54 1185 true [.ref a0] M none N := by
  refine ct_of (lv := [some (.ref a0), none, none, none]) (by decide) (Nat.le_of_ble_eq_true rfl) rfl rfl (fun z hz => ?_)
  unfold fX11_init at h
  refine v_aload_n hz rfl rfl dX11_init_0 ?_
  refine v_objInit hz wq_76 wq_77 wq_78 rfl rfl dX11_init_1 ?_
  refine v_aload_n hz rfl rfl dX11_init_4 ?_
  refine v_new hz nw_X11_11 (by decide) (by decide) dX11_init_5 ?_
  obtain ⟨M1, eM1, h⟩ := nm_inv h
  refine v_mem eM1.symm ?_
  refine v_dup hz rfl dX11_init_8 ?_
  refine v_iconst hz (v := (5 : Int32)) (by decide) dX11_init_9 ?_
  obtain ⟨x2, M2, e2, h⟩ := bd_inv h
  refine v_callI hz (As := [.int (5 : Int32)]) il_X11_13 (tX5_init (r + 2) e2) rfl rfl rfl (Nat.le_of_ble_eq_true rfl) ⟨by decide, by decide⟩ dX11_init_10 ?_
  show V z 13 [some (.ref a0), none, none, none] [.ref (mN M), .ref a0] M2 2 33
  obtain ⟨ck3, h⟩ := ck_inv h
  obtain ⟨ka3, kb3⟩ := isK_of ck3
  refine v_putRF hz fl_X11_16 ft_11_2 rfl (by decide) rfl (fun _ => rfl) (fun _ => rfl) dX11_init_13 ka3 kb3 ?_
  refine v_aload_n hz rfl rfl dX11_init_16 ?_
  refine v_new hz nw_X11_11 (by decide) (by decide) dX11_init_17 ?_
  obtain ⟨M4, eM4, h⟩ := nm_inv h
  refine v_mem eM4.symm ?_
  refine v_dup hz rfl dX11_init_20 ?_
  refine v_bipush hz (v := (10 : Int32)) (by decide) dX11_init_21 ?_
  obtain ⟨x5, M5, e5, h⟩ := bd_inv h
  refine v_callI hz (As := [.int (10 : Int32)]) il_X11_13 (tX5_init (r + 2) e5) rfl rfl rfl (Nat.le_of_ble_eq_true rfl) ⟨by decide, by decide⟩ dX11_init_23 ?_
  show V z 26 [some (.ref a0), none, none, none] [.ref (mN (stR M2 a0 2 (some (mN M)))), .ref a0] M5 4 66
  obtain ⟨ck6, h⟩ := ck_inv h
  obtain ⟨ka6, kb6⟩ := isK_of ck6
  refine v_putRF hz fl_X11_20 ft_11_3 rfl (by decide) rfl (fun _ => rfl) (fun _ => rfl) dX11_init_26 ka6 kb6 ?_
  refine v_aload_n hz rfl rfl dX11_init_29 ?_
  refine v_new hz nw_X11_11 (by decide) (by decide) dX11_init_30 ?_
  obtain ⟨M7, eM7, h⟩ := nm_inv h
  refine v_mem eM7.symm ?_
  refine v_dup hz rfl dX11_init_33 ?_
  refine v_bipush hz (v := (8 : Int32)) (by decide) dX11_init_34 ?_
  obtain ⟨x8, M8, e8, h⟩ := bd_inv h
  refine v_callI hz (As := [.int (8 : Int32)]) il_X11_13 (tX5_init (r + 2) e8) rfl rfl rfl (Nat.le_of_ble_eq_true rfl) ⟨by decide, by decide⟩ dX11_init_36 ?_
  show V z 39 [some (.ref a0), none, none, none] [.ref (mN (stR M5 a0 3 (some (mN (stR M2 a0 2 (some (mN M))))))), .ref a0] M8 6 99
  obtain ⟨ck9, h⟩ := ck_inv h
  obtain ⟨ka9, kb9⟩ := isK_of ck9
  refine v_putRF hz fl_X11_23 ft_11_4 rfl (by decide) rfl (fun _ => rfl) (fun _ => rfl) dX11_init_39 ka9 kb9 ?_
  refine v_aload_n hz rfl rfl dX11_init_42 ?_
  refine v_new hz nw_X11_11 (by decide) (by decide) dX11_init_43 ?_
  obtain ⟨M10, eM10, h⟩ := nm_inv h
  refine v_mem eM10.symm ?_
  refine v_dup hz rfl dX11_init_46 ?_
  refine v_iconst hz (v := (5 : Int32)) (by decide) dX11_init_47 ?_
  obtain ⟨x11, M11, e11, h⟩ := bd_inv h
  refine v_callI hz (As := [.int (5 : Int32)]) il_X11_13 (tX5_init (r + 2) e11) rfl rfl rfl (Nat.le_of_ble_eq_true rfl) ⟨by decide, by decide⟩ dX11_init_48 ?_
  show V z 51 [some (.ref a0), none, none, none] [.ref (mN (stR M8 a0 4 (some (mN (stR M5 a0 3 (some (mN (stR M2 a0 2 (some (mN M)))))))))), .ref a0] M11 8 132
  obtain ⟨ck12, h⟩ := ck_inv h
  obtain ⟨ka12, kb12⟩ := isK_of ck12
  refine v_putRF hz fl_X11_26 ft_11_7 rfl (by decide) rfl (fun _ => rfl) (fun _ => rfl) dX11_init_51 ka12 kb12 ?_
  refine v_aload_n hz rfl rfl dX11_init_54 ?_
  refine v_new hz nw_X11_11 (by decide) (by decide) dX11_init_55 ?_
  obtain ⟨M13, eM13, h⟩ := nm_inv h
  refine v_mem eM13.symm ?_
  refine v_dup hz rfl dX11_init_58 ?_
  refine v_bipush hz (v := (10 : Int32)) (by decide) dX11_init_59 ?_
  obtain ⟨x14, M14, e14, h⟩ := bd_inv h
  refine v_callI hz (As := [.int (10 : Int32)]) il_X11_13 (tX5_init (r + 2) e14) rfl rfl rfl (Nat.le_of_ble_eq_true rfl) ⟨by decide, by decide⟩ dX11_init_61 ?_
  show V z 64 [some (.ref a0), none, none, none] [.ref (mN (stR M11 a0 7 (some (mN (stR M8 a0 4 (some (mN (stR M5 a0 3 (some (mN (stR M2 a0 2 (some (mN M))))))))))))), .ref a0] M14 10 165
  obtain ⟨ck15, h⟩ := ck_inv h
  obtain ⟨ka15, kb15⟩ := isK_of ck15
  refine v_putRF hz fl_X11_29 ft_11_8 rfl (by decide) rfl (fun _ => rfl) (fun _ => rfl) dX11_init_64 ka15 kb15 ?_
  refine v_aload_n hz rfl rfl dX11_init_67 ?_
  refine v_new hz nw_X11_11 (by decide) (by decide) dX11_init_68 ?_
  obtain ⟨M16, eM16, h⟩ := nm_inv h
  refine v_mem eM16.symm ?_
  refine v_dup hz rfl dX11_init_71 ?_
  refine v_bipush hz (v := (8 : Int32)) (by decide) dX11_init_72 ?_
  obtain ⟨x17, M17, e17, h⟩ := bd_inv h
  refine v_callI hz (As := [.int (8 : Int32)]) il_X11_13 (tX5_init (r + 2) e17) rfl rfl rfl (Nat.le_of_ble_eq_true rfl) ⟨by decide, by decide⟩ dX11_init_74 ?_
  show V z 77 [some (.ref a0), none, none, none] [.ref (mN (stR M14 a0 8 (some (mN (stR M11 a0 7 (some (mN (stR M8 a0 4 (some (mN (stR M5 a0 3 (some (mN (stR M2 a0 2 (some (mN M)))))))))))))))), .ref a0] M17 12 198
  obtain ⟨ck18, h⟩ := ck_inv h
  obtain ⟨ka18, kb18⟩ := isK_of ck18
  refine v_putRF hz fl_X11_32 ft_11_9 rfl (by decide) rfl (fun _ => rfl) (fun _ => rfl) dX11_init_77 ka18 kb18 ?_
  obtain ⟨M19, eM19, h⟩ := nm_inv h
  refine v_mem eM19.symm ?_
  refine v_aload_n hz rfl rfl dX11_init_80 ?_
  refine v_bipush hz (v := (100 : Int32)) (by decide) dX11_init_81 ?_
  refine v_newI hz (t0 := 0) (c := 13) (N' := 100) wq_128 (by decide) (by decide) (by decide) (by decide) (by decide) (by decide) dX11_init_83 ?_
  obtain ⟨M20, eM20, h⟩ := nm_inv h
  refine v_mem eM20.symm ?_
  obtain ⟨ck21, h⟩ := ck_inv h
  obtain ⟨ka21, kb21⟩ := isK_of ck21
  refine v_putRF hz fl_X11_35 ft_11_10 rfl (by decide) rfl (fun _ => rfl) (fun _ => rfl) dX11_init_85 ka21 kb21 ?_
  refine v_aload_n hz rfl rfl dX11_init_88 ?_
  refine v_new hz nw_X11_39 (by decide) (by decide) dX11_init_89 ?_
  obtain ⟨M22, eM22, h⟩ := nm_inv h
  refine v_mem eM22.symm ?_
  refine v_dup hz rfl dX11_init_92 ?_
  obtain ⟨x23, M23, e23, h⟩ := bd_inv h
  refine v_callIN hz (As := []) nl_X11_41 rfl (tX7_init (r + 2) e23) rfl rfl rfl (Nat.le_of_ble_eq_true rfl) ⟨by decide, by decide⟩ dX11_init_93 ?_
  show V z 96 [some (.ref a0), none, none, none] [.ref (mN (stR M20 a0 10 (some (mN M19)))), .ref a0] M23 15 405
  obtain ⟨ck24, h⟩ := ck_inv h
  obtain ⟨ka24, kb24⟩ := isK_of ck24
  refine v_putR hz fl_X11_42 ft_11_12 (by decide) rfl (fun _ => rfl) (fun _ => rfl) dX11_init_96 ka24 kb24 ?_
  refine v_aload_n hz rfl rfl dX11_init_99 ?_
  refine v_new hz nw_X11_46 (by decide) (by decide) dX11_init_100 ?_
  obtain ⟨M25, eM25, h⟩ := nm_inv h
  refine v_mem eM25.symm ?_
  refine v_dup hz rfl dX11_init_103 ?_
  obtain ⟨x26, M26, e26, h⟩ := bd_inv h
  refine v_callIN hz (As := []) nl_X11_48 rfl (tX1_init (r + 2) e26) rfl rfl rfl (Nat.le_of_ble_eq_true rfl) ⟨by decide, by decide⟩ dX11_init_104 ?_
  show V z 107 [some (.ref a0), none, none, none] [.ref (mN (stR M23 a0 12 (some (mN (stR M20 a0 10 (some (mN M19))))))), .ref a0] M26 17 429
  obtain ⟨ck27, h⟩ := ck_inv h
  obtain ⟨ka27, kb27⟩ := isK_of ck27
  refine v_putRF hz fl_X11_49 ft_11_14 rfl (by decide) rfl (fun _ => rfl) (fun _ => rfl) dX11_init_107 ka27 kb27 ?_
  refine v_aload_n hz rfl rfl dX11_init_110 ?_
  refine v_bipush hz (v := (6 : Int32)) (by decide) dX11_init_111 ?_
  refine v_newI hz (t0 := 0) (c := 14) (N' := 6) wq_96 (by decide) (by decide) (by decide) (by decide) (by decide) (by decide) dX11_init_113 ?_
  obtain ⟨M28, eM28, h⟩ := nm_inv h
  refine v_mem eM28.symm ?_
  obtain ⟨ck29, h⟩ := ck_inv h
  obtain ⟨ka29, kb29⟩ := isK_of ck29
  refine v_putRF hz fl_X11_53 ft_11_15 rfl (by decide) rfl (fun _ => rfl) (fun _ => rfl) dX11_init_115 ka29 kb29 ?_
  refine v_aload_n hz rfl rfl dX11_init_118 ?_
  refine v_bipush hz (v := (6 : Int32)) (by decide) dX11_init_119 ?_
  refine v_newI hz (t0 := 0) (c := 14) (N' := 6) wq_96 (by decide) (by decide) (by decide) (by decide) (by decide) (by decide) dX11_init_121 ?_
  obtain ⟨M30, eM30, h⟩ := nm_inv h
  refine v_mem eM30.symm ?_
  obtain ⟨ck31, h⟩ := ck_inv h
  obtain ⟨ka31, kb31⟩ := isK_of ck31
  refine v_putRF hz fl_X11_57 ft_11_16 rfl (by decide) rfl (fun _ => rfl) (fun _ => rfl) dX11_init_123 ka31 kb31 ?_
  refine v_aload_n hz rfl rfl dX11_init_126 ?_
  refine v_sipush hz (v := (360 : Int32)) (by decide) dX11_init_127 ?_
  refine v_newL hz (N' := 360) wq_162 (by decide) (by decide) (by decide) (by decide) (by decide) dX11_init_130 ?_
  obtain ⟨M32, eM32, h⟩ := nm_inv h
  refine v_mem eM32.symm ?_
  obtain ⟨ck33, h⟩ := ck_inv h
  obtain ⟨ka33, kb33⟩ := isK_of ck33
  refine v_putRF hz fl_X11_60 ft_11_17 rfl (by decide) rfl (fun _ => rfl) (fun _ => rfl) dX11_init_132 ka33 kb33 ?_
  obtain ⟨M34, eM34, h⟩ := nm_inv h
  refine v_mem eM34.symm ?_
  refine v_bipush hz (v := (7 : Int32)) (by decide) dX11_init_135 ?_
  refine v_anew hz (N' := 7) wq_154 (by decide) (by decide) (by decide) (by decide) (by decide) dX11_init_137 ?_
  obtain ⟨M35, eM35, h⟩ := nm_inv h
  refine v_mem eM35.symm ?_
  refine v_dup hz rfl dX11_init_140 ?_
  refine v_iconst hz (v := (0 : Int32)) (by decide) dX11_init_141 ?_
  refine v_new hz nw_X11_64 (by decide) (by decide) dX11_init_142 ?_
  obtain ⟨M36, eM36, h⟩ := nm_inv h
  refine v_mem eM36.symm ?_
  refine v_dup hz rfl dX11_init_145 ?_
  obtain ⟨x37, M37, e37, h⟩ := bd_inv h
  refine v_callIN hz (As := []) nl_X11_66 rfl (tX10_init (r + 2) e37) rfl rfl rfl (Nat.le_of_ble_eq_true rfl) ⟨by decide, by decide⟩ dX11_init_146 ?_
  show V z 149 [some (.ref a0), none, none, none] [.ref (mN M35), .int (0 : Int32), .ref (mN M34), .ref (mN M34)] M37 22 808
  obtain ⟨ck38, h⟩ := ck_inv h
  obtain ⟨ka38, kb38⟩ := isK_of ck38
  obtain ⟨g39, h⟩ := ck_inv h
  obtain ⟨ck40, h⟩ := ck_inv h
  obtain ⟨ka40, kb40⟩ := isK_of ck40
  refine v_aastore hz dX11_init_149 ka38 kb38 g39 ka40 kb40 (by decide) rfl (Or.inl rfl) ?_
  refine v_dup hz rfl dX11_init_150 ?_
  refine v_iconst hz (v := (1 : Int32)) (by decide) dX11_init_151 ?_
  refine v_new hz nw_X11_67 (by decide) (by decide) dX11_init_152 ?_
  obtain ⟨M41, eM41, h⟩ := nm_inv h
  refine v_mem eM41.symm ?_
  refine v_dup hz rfl dX11_init_155 ?_
  obtain ⟨x42, M42, e42, h⟩ := bd_inv h
  refine v_callIN hz (As := []) nl_X11_69 rfl (tX9_init (r + 1) e42) rfl rfl rfl (Nat.le_of_ble_eq_true rfl) ⟨by decide, by decide⟩ dX11_init_156 ?_
  show V z 159 [some (.ref a0), none, none, none] [.ref (mN (stR M37 (mN M34) (0 : Int32).toNatClampNeg (some (mN M35)))), .int (1 : Int32), .ref (mN M34), .ref (mN M34)] M42 23 808
  obtain ⟨ck43, h⟩ := ck_inv h
  obtain ⟨ka43, kb43⟩ := isK_of ck43
  obtain ⟨g44, h⟩ := ck_inv h
  obtain ⟨ck45, h⟩ := ck_inv h
  obtain ⟨ka45, kb45⟩ := isK_of ck45
  refine v_aastore hz dX11_init_159 ka43 kb43 g44 ka45 kb45 (by decide) rfl (Or.inr (by decide +kernel)) ?_
  refine v_dup hz rfl dX11_init_160 ?_
  refine v_iconst hz (v := (2 : Int32)) (by decide) dX11_init_161 ?_
  refine v_new hz nw_X11_70 (by decide) (by decide) dX11_init_162 ?_
  obtain ⟨M46, eM46, h⟩ := nm_inv h
  refine v_mem eM46.symm ?_
  refine v_dup hz rfl dX11_init_165 ?_
  obtain ⟨x47, M47, e47, h⟩ := bd_inv h
  refine v_callIN hz (As := []) nl_X11_72 rfl (tX6_init (r + 1) e47) rfl rfl rfl (Nat.le_of_ble_eq_true rfl) ⟨by decide, by decide⟩ dX11_init_166 ?_
  show V z 169 [some (.ref a0), none, none, none] [.ref (mN (stR M42 (mN M34) (1 : Int32).toNatClampNeg (some (mN (stR M37 (mN M34) (0 : Int32).toNatClampNeg (some (mN M35))))))), .int (2 : Int32), .ref (mN M34), .ref (mN M34)] M47 24 808
  obtain ⟨ck48, h⟩ := ck_inv h
  obtain ⟨ka48, kb48⟩ := isK_of ck48
  obtain ⟨g49, h⟩ := ck_inv h
  obtain ⟨ck50, h⟩ := ck_inv h
  obtain ⟨ka50, kb50⟩ := isK_of ck50
  refine v_aastore hz dX11_init_169 ka48 kb48 g49 ka50 kb50 (by decide) rfl (Or.inr (by decide +kernel)) ?_
  obtain ⟨M51, eM51, h⟩ := nm_inv h
  refine v_mem eM51.symm ?_
  refine v_dup hz rfl dX11_init_170 ?_
  refine v_iconst hz (v := (3 : Int32)) (by decide) dX11_init_171 ?_
  refine v_new hz nw_X11_73 (by decide) (by decide) dX11_init_172 ?_
  obtain ⟨M52, eM52, h⟩ := nm_inv h
  refine v_mem eM52.symm ?_
  refine v_dup hz rfl dX11_init_175 ?_
  obtain ⟨x53, M53, e53, h⟩ := bd_inv h
  refine v_callIN hz (As := []) nl_X11_75 rfl (tX4_init (r + 1) e53) rfl rfl rfl (Nat.le_of_ble_eq_true rfl) ⟨by decide, by decide⟩ dX11_init_176 ?_
  show V z 179 [some (.ref a0), none, none, none] [.ref (mN M51), .int (3 : Int32), .ref (mN M34), .ref (mN M34)] M53 25 808
  obtain ⟨ck54, h⟩ := ck_inv h
  obtain ⟨ka54, kb54⟩ := isK_of ck54
  obtain ⟨g55, h⟩ := ck_inv h
  obtain ⟨ck56, h⟩ := ck_inv h
  obtain ⟨ka56, kb56⟩ := isK_of ck56
  refine v_aastore hz dX11_init_179 ka54 kb54 g55 ka56 kb56 (by decide) rfl (Or.inr (by decide +kernel)) ?_
  refine v_dup hz rfl dX11_init_180 ?_
  refine v_iconst hz (v := (4 : Int32)) (by decide) dX11_init_181 ?_
  refine v_new hz nw_X11_76 (by decide) (by decide) dX11_init_182 ?_
  obtain ⟨M57, eM57, h⟩ := nm_inv h
  refine v_mem eM57.symm ?_
  refine v_dup hz rfl dX11_init_185 ?_
  obtain ⟨x58, M58, e58, h⟩ := bd_inv h
  refine v_callIN hz (As := []) nl_X11_78 rfl (tX2_init (r + 0) e58) rfl rfl rfl (Nat.le_of_ble_eq_true rfl) ⟨by decide, by decide⟩ dX11_init_186 ?_
  show V z 189 [some (.ref a0), none, none, none] [.ref (mN (stR M53 (mN M34) (3 : Int32).toNatClampNeg (some (mN M51)))), .int (4 : Int32), .ref (mN M34), .ref (mN M34)] M58 26 808
  obtain ⟨ck59, h⟩ := ck_inv h
  obtain ⟨ka59, kb59⟩ := isK_of ck59
  obtain ⟨g60, h⟩ := ck_inv h
  obtain ⟨ck61, h⟩ := ck_inv h
  obtain ⟨ka61, kb61⟩ := isK_of ck61
  refine v_aastore hz dX11_init_189 ka59 kb59 g60 ka61 kb61 (by decide) rfl (Or.inr (by decide +kernel)) ?_
  refine v_dup hz rfl dX11_init_190 ?_
  refine v_iconst hz (v := (5 : Int32)) (by decide) dX11_init_191 ?_
  refine v_new hz nw_X11_79 (by decide) (by decide) dX11_init_192 ?_
  obtain ⟨M62, eM62, h⟩ := nm_inv h
  refine v_mem eM62.symm ?_
  refine v_dup hz rfl dX11_init_195 ?_
  obtain ⟨x63, M63, e63, h⟩ := bd_inv h
  refine v_callIN hz (As := []) nl_X11_81 rfl (tX0_init (r + 0) e63) rfl rfl rfl (Nat.le_of_ble_eq_true rfl) ⟨by decide, by decide⟩ dX11_init_196 ?_
  show V z 199 [some (.ref a0), none, none, none] [.ref (mN (stR M58 (mN M34) (4 : Int32).toNatClampNeg (some (mN (stR M53 (mN M34) (3 : Int32).toNatClampNeg (some (mN M51))))))), .int (5 : Int32), .ref (mN M34), .ref (mN M34)] M63 27 808
  obtain ⟨ck64, h⟩ := ck_inv h
  obtain ⟨ka64, kb64⟩ := isK_of ck64
  obtain ⟨g65, h⟩ := ck_inv h
  obtain ⟨ck66, h⟩ := ck_inv h
  obtain ⟨ka66, kb66⟩ := isK_of ck66
  refine v_aastore hz dX11_init_199 ka64 kb64 g65 ka66 kb66 (by decide) rfl (Or.inr (by decide +kernel)) ?_
  obtain ⟨M67, eM67, h⟩ := nm_inv h
  refine v_mem eM67.symm ?_
  refine v_dup hz rfl dX11_init_200 ?_
  refine v_bipush hz (v := (6 : Int32)) (by decide) dX11_init_201 ?_
  refine v_new hz nw_X11_82 (by decide) (by decide) dX11_init_203 ?_
  obtain ⟨M68, eM68, h⟩ := nm_inv h
  refine v_mem eM68.symm ?_
  refine v_dup hz rfl dX11_init_206 ?_
  obtain ⟨x69, M69, e69, h⟩ := bd_inv h
  refine v_callIN hz (As := []) nl_X11_84 rfl (tX8_init (r + 0) e69) rfl rfl rfl (Nat.le_of_ble_eq_true rfl) ⟨by decide, by decide⟩ dX11_init_207 ?_
  show V z 210 [some (.ref a0), none, none, none] [.ref (mN M67), .int (6 : Int32), .ref (mN M34), .ref (mN M34)] M69 28 808
  obtain ⟨ck70, h⟩ := ck_inv h
  obtain ⟨ka70, kb70⟩ := isK_of ck70
  obtain ⟨g71, h⟩ := ck_inv h
  obtain ⟨ck72, h⟩ := ck_inv h
  obtain ⟨ka72, kb72⟩ := isK_of ck72
  refine v_aastore hz dX11_init_210 ka70 kb70 g71 ka72 kb72 (by decide) rfl (Or.inr (by decide +kernel)) ?_
  refine v_astore_n hz (lw := [some (.ref a0), some (.ref (mN M34)), none, none]) rfl (Nat.le_of_ble_eq_true rfl) rfl rfl dX11_init_211 ?_
  refine v_new hz nw_X11_39 (by decide) (by decide) dX11_init_212 ?_
  obtain ⟨M73, eM73, h⟩ := nm_inv h
  refine v_mem eM73.symm ?_
  refine v_dup hz rfl dX11_init_215 ?_
  obtain ⟨x74, M74, e74, h⟩ := bd_inv h
  refine v_callIN hz (As := []) nl_X11_41 rfl (tX7_init (r + 2) e74) rfl rfl rfl (Nat.le_of_ble_eq_true rfl) ⟨by decide, by decide⟩ dX11_init_216 ?_
  show V z 219 [some (.ref a0), some (.ref (mN M34)), none, none] [.ref (mN (stR M69 (mN M34) (6 : Int32).toNatClampNeg (some (mN M67))))] M74 30 915
  refine v_astore_n hz (lw := [some (.ref a0), some (.ref (mN M34)), some (.ref (mN (stR M69 (mN M34) (6 : Int32).toNatClampNeg (some (mN M67))))), none]) rfl (Nat.le_of_ble_eq_true rfl) rfl rfl dX11_init_219 ?_
  refine v_aload_n hz rfl rfl dX11_init_220 ?_
  refine v_new hz nw_X11_85 (by decide) (by decide) dX11_init_221 ?_
  obtain ⟨M75, eM75, h⟩ := nm_inv h
  refine v_mem eM75.symm ?_
  refine v_dup hz rfl dX11_init_224 ?_
  refine v_aload_n hz rfl rfl dX11_init_225 ?_
  refine v_aload_n hz rfl rfl dX11_init_226 ?_
  obtain ⟨x76, M76, e76, h⟩ := bd_inv h
  refine v_callI hz (As := [.ref (mN M34), .ref (mN (stR M69 (mN M34) (6 : Int32).toNatClampNeg (some (mN M67))))]) il_X11_87 (tX3_init (r + 2) e76) rfl rfl rfl (Nat.le_of_ble_eq_true rfl) ⟨by decide, by decide⟩ dX11_init_227 ?_
  show V z 230 [some (.ref a0), some (.ref (mN M34)), some (.ref (mN (stR M69 (mN M34) (6 : Int32).toNatClampNeg (some (mN M67))))), none] [.ref (mN M74), .ref a0] M76 38 1005
  obtain ⟨ck77, h⟩ := ck_inv h
  obtain ⟨ka77, kb77⟩ := isK_of ck77
  refine v_putRF hz fl_X11_90 ft_11_0 rfl (by decide) rfl (fun _ => rfl) (fun _ => rfl) dX11_init_230 ka77 kb77 ?_
  refine v_aload_n hz rfl rfl dX11_init_233 ?_
  refine v_new hz nw_X11_85 (by decide) (by decide) dX11_init_234 ?_
  obtain ⟨M78, eM78, h⟩ := nm_inv h
  refine v_mem eM78.symm ?_
  refine v_dup hz rfl dX11_init_237 ?_
  refine v_aload_n hz rfl rfl dX11_init_238 ?_
  refine v_aload_n hz rfl rfl dX11_init_239 ?_
  obtain ⟨x79, M79, e79, h⟩ := bd_inv h
  refine v_callI hz (As := [.ref (mN M34), .ref (mN (stR M69 (mN M34) (6 : Int32).toNatClampNeg (some (mN M67))))]) il_X11_87 (tX3_init (r + 2) e79) rfl rfl rfl (Nat.le_of_ble_eq_true rfl) ⟨by decide, by decide⟩ dX11_init_240 ?_
  show V z 243 [some (.ref a0), some (.ref (mN M34)), some (.ref (mN (stR M69 (mN M34) (6 : Int32).toNatClampNeg (some (mN M67))))), none] [.ref (mN (stR M76 a0 0 (some (mN M74)))), .ref a0] M79 46 1095
  obtain ⟨ck80, h⟩ := ck_inv h
  obtain ⟨ka80, kb80⟩ := isK_of ck80
  refine v_putRF hz fl_X11_94 ft_11_1 rfl (by decide) rfl (fun _ => rfl) (fun _ => rfl) dX11_init_243 ka80 kb80 ?_
  refine v_aload_n hz rfl rfl dX11_init_246 ?_
  refine v_new hz nw_X11_85 (by decide) (by decide) dX11_init_247 ?_
  obtain ⟨M81, eM81, h⟩ := nm_inv h
  refine v_mem eM81.symm ?_
  refine v_dup hz rfl dX11_init_250 ?_
  refine v_aload_n hz rfl rfl dX11_init_251 ?_
  refine v_aload_n hz rfl rfl dX11_init_252 ?_
  obtain ⟨x82, M82, e82, h⟩ := bd_inv h
  refine v_callI hz (As := [.ref (mN M34), .ref (mN (stR M69 (mN M34) (6 : Int32).toNatClampNeg (some (mN M67))))]) il_X11_87 (tX3_init (r + 2) e82) rfl rfl rfl (Nat.le_of_ble_eq_true rfl) ⟨by decide, by decide⟩ dX11_init_253 ?_
  show V z 256 [some (.ref a0), some (.ref (mN M34)), some (.ref (mN (stR M69 (mN M34) (6 : Int32).toNatClampNeg (some (mN M67))))), none] [.ref (mN (stR M79 a0 1 (some (mN (stR M76 a0 0 (some (mN M74))))))), .ref a0] M82 54 1185
  obtain ⟨ck83, h⟩ := ck_inv h
  obtain ⟨ka83, kb83⟩ := isK_of ck83
  refine v_putRF hz fl_X11_97 ft_11_6 rfl (by decide) rfl (fun _ => rfl) (fun _ => rfl) dX11_init_256 ka83 kb83 ?_
  refine v_iconst hz (v := (0 : Int32)) (by decide) dX11_init_259 ?_
  refine v_istore_n hz (lw := [some (.ref a0), some (.ref (mN M34)), some (.ref (mN (stR M69 (mN M34) (6 : Int32).toNatClampNeg (some (mN M67))))), some (.int (0 : Int32))]) rfl (Nat.le_of_ble_eq_true rfl) rfl rfl dX11_init_260 ?_
  exact v_weak (lvle_s (lvle_n (lvle_n (lvle_s lvle_0)))) (wX11_init_261 hz   h)
noncomputable def fX11_isCell (M : Mem) (a0 : Int32) : Option (Int32 × Mem) :=
  if a0 < 0 then (some ((0 : Int32), M)) else (if (25 : Int32) ≤ a0 then (some ((0 : Int32), M)) else (some ((1 : Int32), M)))
set_option maxRecDepth 100000 in
set_option maxHeartbeats 4000000 in
theorem tX11_isCell (r : Nat) {fx : Fx} {al : Bool} {M N : Mem} {a0 : Int32} {xr : Int32}  (h : fX11_isCell M a0 = some (xr, N)) : Ct fx yX11_isCell cX11_isCell 1 (some .boolean) (r + 0) 0 0 al [.int a0] M (some (.int xr)) N := by
  refine ct_of (lv := [some (.int a0)]) (by decide) (Nat.le_of_ble_eq_true rfl) rfl rfl (fun z hz => ?_)
  unfold fX11_isCell at h
  refine v_iload_n hz rfl rfl dX11_isCell_0 ?_
  refine v_if_lt (tgt := 14) hz dX11_isCell_1 (by decide) (fun hc => ?_) (fun hc => ?_)
  · replace h := (if_pos hc).symm.trans h
    refine v_iconst hz (v := (0 : Int32)) (by decide) dX11_isCell_14 ?_
    obtain ⟨rfl, rfl⟩ := sp_inv h
    exact v_zret hz (Or.inl rfl) dX11_isCell_15 (by decide) (by decide)
  · replace h := (if_neg hc).symm.trans h
    refine v_iload_n hz rfl rfl dX11_isCell_4 ?_
    refine v_bipush hz (v := (25 : Int32)) (by decide) dX11_isCell_5 ?_
    refine v_icmp_ge (tgt := 14) hz dX11_isCell_7 (by decide) (fun hc => ?_) (fun hc => ?_)
    · replace h := (if_pos hc).symm.trans h
      refine v_iconst hz (v := (0 : Int32)) (by decide) dX11_isCell_14 ?_
      obtain ⟨rfl, rfl⟩ := sp_inv h
      exact v_zret hz (Or.inl rfl) dX11_isCell_15 (by decide) (by decide)
    · replace h := (if_neg hc).symm.trans h
      refine v_iconst hz (v := (1 : Int32)) (by decide) dX11_isCell_10 ?_
      refine v_goto (tgt := 15) hz dX11_isCell_11 (by decide) ?_
      obtain ⟨rfl, rfl⟩ := sp_inv h
      exact v_zret hz (Or.inr rfl) dX11_isCell_15 (by decide) (by decide)
noncomputable def fX11_isDigit (M : Mem) (a0 : Int32) : Option (Int32 × Mem) :=
  if a0 < 0 then (some ((0 : Int32), M)) else (if (9 : Int32) < a0 then (some ((0 : Int32), M)) else (some ((1 : Int32), M)))
set_option maxRecDepth 100000 in
set_option maxHeartbeats 4000000 in
theorem tX11_isDigit (r : Nat) {fx : Fx} {al : Bool} {M N : Mem} {a0 : Int32} {xr : Int32}  (h : fX11_isDigit M a0 = some (xr, N)) : Ct fx yX11_isDigit cX11_isDigit 1 (some .boolean) (r + 0) 0 0 al [.int a0] M (some (.int xr)) N := by
  refine ct_of (lv := [some (.int a0)]) (by decide) (Nat.le_of_ble_eq_true rfl) rfl rfl (fun z hz => ?_)
  unfold fX11_isDigit at h
  refine v_iload_n hz rfl rfl dX11_isDigit_0 ?_
  refine v_if_lt (tgt := 14) hz dX11_isDigit_1 (by decide) (fun hc => ?_) (fun hc => ?_)
  · replace h := (if_pos hc).symm.trans h
    refine v_iconst hz (v := (0 : Int32)) (by decide) dX11_isDigit_14 ?_
    obtain ⟨rfl, rfl⟩ := sp_inv h
    exact v_zret hz (Or.inl rfl) dX11_isDigit_15 (by decide) (by decide)
  · replace h := (if_neg hc).symm.trans h
    refine v_iload_n hz rfl rfl dX11_isDigit_4 ?_
    refine v_bipush hz (v := (9 : Int32)) (by decide) dX11_isDigit_5 ?_
    refine v_icmp_gt (tgt := 14) hz dX11_isDigit_7 (by decide) (fun hc => ?_) (fun hc => ?_)
    · replace h := (if_pos hc).symm.trans h
      refine v_iconst hz (v := (0 : Int32)) (by decide) dX11_isDigit_14 ?_
      obtain ⟨rfl, rfl⟩ := sp_inv h
      exact v_zret hz (Or.inl rfl) dX11_isDigit_15 (by decide) (by decide)
    · replace h := (if_neg hc).symm.trans h
      refine v_iconst hz (v := (1 : Int32)) (by decide) dX11_isDigit_10 ?_
      refine v_goto (tgt := 15) hz dX11_isDigit_11 (by decide) ?_
      obtain ⟨rfl, rfl⟩ := sp_inv h
      exact v_zret hz (Or.inr rfl) dX11_isDigit_15 (by decide) (by decide)
noncomputable def fX11_one (M : Mem) (a0 : Nat) (a1 : Int32) (a2 : Int32) (a3 : Int32) : Option (Int32 × Mem) :=
  if a1 < 0 then (some ((-1 : Int32), M)) else (if (7 : Int32) ≤ a1 then (some ((-1 : Int32), M)) else (bd (fX11_isCell M a3) fun x1 M1 => if x1 = 0 then (some ((-1 : Int32), M1)) else (bd (fX11_isDigit M1 a2) fun x2 M2 => if x2 = 0 then (some ((-2 : Int32), M2)) else (ck (isK M2 a0 11) <| rb (mR M2 a0 0) fun b4 => ck (isK M2 b4 3) <| bd (fX3_welcome M2 b4 a1 a2 a3) fun x6 M6 => some (x6, M6)))))
set_option maxRecDepth 100000 in
set_option maxHeartbeats 4000000 in
theorem tX11_one (r : Nat) {fx : Fx} {al : Bool} {M N : Mem} {a0 : Nat} {a1 : Int32} {a2 : Int32} {a3 : Int32} {xr : Int32}  (h : fX11_one M a0 a1 a2 a3 = some (xr, N)) : Ct fx yX11_one cX11_one 4 (some .int) (r + 1) 0 0 al [.ref a0, .int a1, .int a2, .int a3] M (some (.int xr)) N := by
  refine ct_of (lv := [some (.ref a0), some (.int a1), some (.int a2), some (.int a3)]) (by decide) (Nat.le_of_ble_eq_true rfl) rfl rfl (fun z hz => ?_)
  unfold fX11_one at h
  refine v_iload_n hz rfl rfl dX11_one_0 ?_
  refine v_if_lt (tgt := 17) hz dX11_one_1 (by decide) (fun hc => ?_) (fun hc => ?_)
  · replace h := (if_pos hc).symm.trans h
    refine v_iconst hz (v := (-1 : Int32)) (by decide) dX11_one_17 ?_
    obtain ⟨rfl, rfl⟩ := sp_inv h
    exact v_iret hz dX11_one_18 (by decide) (by decide)
  · replace h := (if_neg hc).symm.trans h
    refine v_iload_n hz rfl rfl dX11_one_4 ?_
    refine v_bipush hz (v := (7 : Int32)) (by decide) dX11_one_5 ?_
    refine v_icmp_ge (tgt := 17) hz dX11_one_7 (by decide) (fun hc => ?_) (fun hc => ?_)
    · replace h := (if_pos hc).symm.trans h
      refine v_iconst hz (v := (-1 : Int32)) (by decide) dX11_one_17 ?_
      obtain ⟨rfl, rfl⟩ := sp_inv h
      exact v_iret hz dX11_one_18 (by decide) (by decide)
    · replace h := (if_neg hc).symm.trans h
      refine v_iload_n hz rfl rfl dX11_one_10 ?_
      obtain ⟨x1, M1, e1, h⟩ := bd_inv h
      refine v_callS hz (As := [.int a3]) sl_X11_100 (tX11_isCell (r + 0) e1) rfl rfl rfl (Nat.le_of_ble_eq_true rfl) ⟨by decide, by decide⟩ dX11_one_11 ?_
      show V z 14 [some (.ref a0), some (.int a1), some (.int a2), some (.int a3)] [.int x1] M1 0 0
      refine v_if_ne (tgt := 19) hz dX11_one_14 (by decide) (fun hc => ?_) (fun hc => ?_)
      · replace h := (if_neg hc).symm.trans h
        refine v_iload_n hz rfl rfl dX11_one_19 ?_
        obtain ⟨x2, M2, e2, h⟩ := bd_inv h
        refine v_callS hz (As := [.int a2]) sl_X11_104 (tX11_isDigit (r + 0) e2) rfl rfl rfl (Nat.le_of_ble_eq_true rfl) ⟨by decide, by decide⟩ dX11_one_20 ?_
        show V z 23 [some (.ref a0), some (.int a1), some (.int a2), some (.int a3)] [.int x2] M2 0 0
        refine v_if_ne (tgt := 29) hz dX11_one_23 (by decide) (fun hc => ?_) (fun hc => ?_)
        · replace h := (if_neg hc).symm.trans h
          refine v_aload_n hz rfl rfl dX11_one_29 ?_
          obtain ⟨ck3, h⟩ := ck_inv h
          obtain ⟨ka3, kb3⟩ := isK_of ck3
          obtain ⟨b4, r4, h⟩ := rb_inv h
          refine v_getR hz fl_X11_90 rfl dX11_one_30 ka3 kb3 r4 ?_
          refine v_iload_n hz rfl rfl dX11_one_33 ?_
          refine v_iload_n hz rfl rfl dX11_one_34 ?_
          refine v_iload_n hz rfl rfl dX11_one_35 ?_
          obtain ⟨ck5, h⟩ := ck_inv h
          obtain ⟨ka5, kb5⟩ := isK_of ck5
          obtain ⟨x6, M6, e6, h⟩ := bd_inv h
          refine v_callV hz (As := [.int a1, .int a2, .int a3]) vl_X11_107 (tX3_welcome (r + 0) e6) rfl (by decide) ka5 kb5 rfl rfl rfl (Nat.le_of_ble_eq_true rfl) ⟨by decide, by decide⟩ dX11_one_36 ?_
          show V z 39 [some (.ref a0), some (.int a1), some (.int a2), some (.int a3)] [.int x6] M6 0 0
          obtain ⟨rfl, rfl⟩ := sp_inv h
          exact v_iret hz dX11_one_39 (by decide) (by decide)
        · replace h := (if_pos hc).symm.trans h
          refine v_bipush hz (v := (-2 : Int32)) (by decide) dX11_one_26 ?_
          obtain ⟨rfl, rfl⟩ := sp_inv h
          exact v_iret hz dX11_one_28 (by decide) (by decide)
      · replace h := (if_pos hc).symm.trans h
        refine v_iconst hz (v := (-1 : Int32)) (by decide) dX11_one_17 ?_
        obtain ⟨rfl, rfl⟩ := sp_inv h
        exact v_iret hz dX11_one_18 (by decide) (by decide)
noncomputable def fX11_isPerson (M : Mem) (a0 : Nat) (a1 : Int32) : Option (Int32 × Mem) :=
  if a1 < 0 then (some ((0 : Int32), M)) else (ck (isK M a0 11) <| rb (mR M a0 0) fun b2 => ck (isK M b2 3) <| if (mI M b2 4) ≤ a1 then (some ((0 : Int32), M)) else (some ((1 : Int32), M)))
set_option maxRecDepth 100000 in
set_option maxHeartbeats 4000000 in
theorem tX11_isPerson (r : Nat) {fx : Fx} {al : Bool} {M N : Mem} {a0 : Nat} {a1 : Int32} {xr : Int32}  (h : fX11_isPerson M a0 a1 = some (xr, N)) : Ct fx yX11_isPerson cX11_isPerson 2 (some .boolean) (r + 0) 0 0 al [.ref a0, .int a1] M (some (.int xr)) N := by
  refine ct_of (lv := [some (.ref a0), some (.int a1)]) (by decide) (Nat.le_of_ble_eq_true rfl) rfl rfl (fun z hz => ?_)
  unfold fX11_isPerson at h
  refine v_iload_n hz rfl rfl dX11_isPerson_0 ?_
  refine v_if_lt (tgt := 19) hz dX11_isPerson_1 (by decide) (fun hc => ?_) (fun hc => ?_)
  · replace h := (if_pos hc).symm.trans h
    refine v_iconst hz (v := (0 : Int32)) (by decide) dX11_isPerson_19 ?_
    obtain ⟨rfl, rfl⟩ := sp_inv h
    exact v_zret hz (Or.inl rfl) dX11_isPerson_20 (by decide) (by decide)
  · replace h := (if_neg hc).symm.trans h
    refine v_iload_n hz rfl rfl dX11_isPerson_4 ?_
    refine v_aload_n hz rfl rfl dX11_isPerson_5 ?_
    obtain ⟨ck1, h⟩ := ck_inv h
    obtain ⟨ka1, kb1⟩ := isK_of ck1
    obtain ⟨b2, r2, h⟩ := rb_inv h
    refine v_getR hz fl_X11_90 rfl dX11_isPerson_6 ka1 kb1 r2 ?_
    obtain ⟨ck3, h⟩ := ck_inv h
    obtain ⟨ka3, kb3⟩ := isK_of ck3
    refine v_getI hz fl_X11_245 rfl dX11_isPerson_9 ka3 kb3 ?_
    refine v_icmp_ge (tgt := 19) hz dX11_isPerson_12 (by decide) (fun hc => ?_) (fun hc => ?_)
    · replace h := (if_pos hc).symm.trans h
      refine v_iconst hz (v := (0 : Int32)) (by decide) dX11_isPerson_19 ?_
      obtain ⟨rfl, rfl⟩ := sp_inv h
      exact v_zret hz (Or.inl rfl) dX11_isPerson_20 (by decide) (by decide)
    · replace h := (if_neg hc).symm.trans h
      refine v_iconst hz (v := (1 : Int32)) (by decide) dX11_isPerson_15 ?_
      refine v_goto (tgt := 20) hz dX11_isPerson_16 (by decide) ?_
      obtain ⟨rfl, rfl⟩ := sp_inv h
      exact v_zret hz (Or.inr rfl) dX11_isPerson_20 (by decide) (by decide)
