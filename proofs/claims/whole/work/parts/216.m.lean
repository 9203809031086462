noncomputable def gX12_isF_72 (F0 : Mem → Nat → Option (Int32 × Mem)) (F1 : Mem → Nat → Option (Int32 × Mem)) (F2 : Mem → Nat → Option (Int32 × Mem)) (M : Mem) (l0 : Nat) (l1 : Int32) : Option (Int32 × Mem) :=
  ck (isK M l0 12) <| ck (b01 l1) <| some (l1, (stI M l0 13 ((mI M l0 13) - (1 : Int32))))
noncomputable def gX12_isF_63 (F0 : Mem → Nat → Option (Int32 × Mem)) (F1 : Mem → Nat → Option (Int32 × Mem)) (F2 : Mem → Nat → Option (Int32 × Mem)) (M : Mem) (l0 : Nat) (s0 : Int32) : Option (Int32 × Mem) :=
  gX12_isF_72 F0 F1 F2 M l0 s0
noncomputable def gX12_isF_62 (F0 : Mem → Nat → Option (Int32 × Mem)) (F1 : Mem → Nat → Option (Int32 × Mem)) (F2 : Mem → Nat → Option (Int32 × Mem)) (M : Mem) (l0 : Nat) : Option (Int32 × Mem) :=
  gX12_isF_63 F0 F1 F2 M l0 (0 : Int32)
noncomputable def gX12_isF_29 (F0 : Mem → Nat → Option (Int32 × Mem)) (F1 : Mem → Nat → Option (Int32 × Mem)) (F2 : Mem → Nat → Option (Int32 × Mem)) (M : Mem) (l0 : Nat) (s0 : Int32) : Option (Int32 × Mem) :=
  gX12_isF_72 F0 F1 F2 M l0 s0
noncomputable def gX12_isF_28 (F0 : Mem → Nat → Option (Int32 × Mem)) (F1 : Mem → Nat → Option (Int32 × Mem)) (F2 : Mem → Nat → Option (Int32 × Mem)) (M : Mem) (l0 : Nat) : Option (Int32 × Mem) :=
  gX12_isF_29 F0 F1 F2 M l0 (0 : Int32)
noncomputable def bX12_isF (F0 : Mem → Nat → Option (Int32 × Mem)) (F1 : Mem → Nat → Option (Int32 × Mem)) (F2 : Mem → Nat → Option (Int32 × Mem)) (M : Mem) (a0 : Nat) : Option (Int32 × Mem) :=
  ck (isK M a0 12) <| bd (fX12_isOpened M a0 (33 : Int32)) fun x2 M2 => if x2 = 0 then (ck (isK M2 a0 12) <| bd (fX12_isOpened M2 a0 (40 : Int32)) fun x4 M4 => if x4 = 0 then (ck (isK M4 a0 12) <| bd (fX12_isTest M4 a0) fun x6 M6 => ck (b01 x6) <| some (x6, M6)) else (ck (isK M4 a0 12) <| bd (F2 M4 a0) fun x9 M9 => if x9 = 0 then (gX12_isF_62 F0 F1 F2 M9 a0) else (ck (isK M9 a0 12) <| bd (fX12_is M9 a0 (41 : Int32)) fun x13 M13 => if x13 = 0 then (gX12_isF_62 F0 F1 F2 M13 a0) else (gX12_isF_63 F0 F1 F2 M13 a0 (1 : Int32))))) else (ck (isK M2 a0 12) <| bd (F0 M2 a0) fun x15 M15 => if x15 = 0 then (gX12_isF_28 F0 F1 F2 M15 a0) else (ck (isK M15 a0 12) <| bd (fX12_codes M15 a0 (0 : Int32)) fun x17 M17 => if x17 = 0 then (gX12_isF_28 F0 F1 F2 M17 a0) else (gX12_isF_29 F0 F1 F2 M17 a0 (1 : Int32))))
set_option maxRecDepth 100000 in
set_option maxHeartbeats 4000000 in
theorem wX12_isF_72 {z : Zx} {fx : Fx} {al : Bool} {r : Nat} {N : Mem} {xr : Int32} {F0 : Mem → Nat → Option (Int32 × Mem)}  {F1 : Mem → Nat → Option (Int32 × Mem)}  {F2 : Mem → Nat → Option (Int32 × Mem)} (hz : Zok z fx al yX12_isF.cls yX12_isF.name cX12_isF (some .boolean) 2 (r + 5) 0 0 (some (.int xr)) N) (hF0 : ∀ {M N : Mem} {a0 : Nat} {xr : Int32}, F0 M a0 = some (xr, N) → Ct fx yX12_isF cX12_isF 2 (some .boolean) (r + 4) 0 0 al [.ref a0] M (some (.int xr)) N) (hF1 : ∀ {M N : Mem} {a0 : Nat} {xr : Int32}, F1 M a0 = some (xr, N) → Ct fx yX12_isT cX12_isT 1 (some .boolean) (r + 4) 0 0 al [.ref a0] M (some (.int xr)) N) (hF2 : ∀ {M N : Mem} {a0 : Nat} {xr : Int32}, F2 M a0 = some (xr, N) → Ct fx yX12_isE cX12_isE 1 (some .boolean) (r + 4) 0 0 al [.ref a0] M (some (.int xr)) N)   {M : Mem} {l0 : Nat} {l1 : Int32} (h : gX12_isF_72 F0 F1 F2 M l0 l1 = some (xr, N)) : V z 72 [some (.ref l0), some (.int l1)] [] M 0 0 := by
  unfold gX12_isF_72 at h
  refine v_aload_n hz rfl rfl dX12_isF_72 ?_
  refine v_dup hz rfl dX12_isF_73 ?_
  obtain ⟨ck10, h⟩ := ck_inv h
  obtain ⟨ka10, kb10⟩ := isK_of ck10
  refine v_getI hz fl_X12_174 rfl dX12_isF_74 ka10 kb10 ?_
  refine v_iconst hz (v := (1 : Int32)) (by decide) dX12_isF_77 ?_
  refine v_isub hz dX12_isF_78 ?_
  refine v_putI hz fl_X12_174 ft_12_13 (by decide) rfl rfl rfl dX12_isF_79 ka10 kb10 ?_
  refine v_iload_n hz rfl rfl dX12_isF_82 ?_
  obtain ⟨g11, h⟩ := ck_inv h
  obtain ⟨rfl, rfl⟩ := sp_inv h
  exact v_zret hz (b01_of g11) dX12_isF_83 (by decide) (by decide)
set_option maxRecDepth 100000 in
set_option maxHeartbeats 4000000 in
theorem wX12_isF_63 {z : Zx} {fx : Fx} {al : Bool} {r : Nat} {N : Mem} {xr : Int32} {F0 : Mem → Nat → Option (Int32 × Mem)}  {F1 : Mem → Nat → Option (Int32 × Mem)}  {F2 : Mem → Nat → Option (Int32 × Mem)} (hz : Zok z fx al yX12_isF.cls yX12_isF.name cX12_isF (some .boolean) 2 (r + 5) 0 0 (some (.int xr)) N) (hF0 : ∀ {M N : Mem} {a0 : Nat} {xr : Int32}, F0 M a0 = some (xr, N) → Ct fx yX12_isF cX12_isF 2 (some .boolean) (r + 4) 0 0 al [.ref a0] M (some (.int xr)) N) (hF1 : ∀ {M N : Mem} {a0 : Nat} {xr : Int32}, F1 M a0 = some (xr, N) → Ct fx yX12_isT cX12_isT 1 (some .boolean) (r + 4) 0 0 al [.ref a0] M (some (.int xr)) N) (hF2 : ∀ {M N : Mem} {a0 : Nat} {xr : Int32}, F2 M a0 = some (xr, N) → Ct fx yX12_isE cX12_isE 1 (some .boolean) (r + 4) 0 0 al [.ref a0] M (some (.int xr)) N)   {M : Mem} {l0 : Nat} {s0 : Int32} (h : gX12_isF_63 F0 F1 F2 M l0 s0 = some (xr, N)) : V z 63 [some (.ref l0), none] [.int s0] M 0 0 := by
  unfold gX12_isF_63 at h
  refine v_istore_n hz (lw := [some (.ref l0), some (.int s0)]) rfl (Nat.le_of_ble_eq_true rfl) rfl rfl dX12_isF_63 ?_
  refine v_goto (tgt := 72) hz dX12_isF_64 (by decide) ?_
  exact v_weak (lvle_s (lvle_s lvle_0)) (wX12_isF_72 hz hF0 hF1 hF2  h)
set_option maxRecDepth 100000 in
set_option maxHeartbeats 4000000 in
theorem wX12_isF_62 {z : Zx} {fx : Fx} {al : Bool} {r : Nat} {N : Mem} {xr : Int32} {F0 : Mem → Nat → Option (Int32 × Mem)}  {F1 : Mem → Nat → Option (Int32 × Mem)}  {F2 : Mem → Nat → Option (Int32 × Mem)} (hz : Zok z fx al yX12_isF.cls yX12_isF.name cX12_isF (some .boolean) 2 (r + 5) 0 0 (some (.int xr)) N) (hF0 : ∀ {M N : Mem} {a0 : Nat} {xr : Int32}, F0 M a0 = some (xr, N) → Ct fx yX12_isF cX12_isF 2 (some .boolean) (r + 4) 0 0 al [.ref a0] M (some (.int xr)) N) (hF1 : ∀ {M N : Mem} {a0 : Nat} {xr : Int32}, F1 M a0 = some (xr, N) → Ct fx yX12_isT cX12_isT 1 (some .boolean) (r + 4) 0 0 al [.ref a0] M (some (.int xr)) N) (hF2 : ∀ {M N : Mem} {a0 : Nat} {xr : Int32}, F2 M a0 = some (xr, N) → Ct fx yX12_isE cX12_isE 1 (some .boolean) (r + 4) 0 0 al [.ref a0] M (some (.int xr)) N)   {M : Mem} {l0 : Nat} (h : gX12_isF_62 F0 F1 F2 M l0 = some (xr, N)) : V z 62 [some (.ref l0), none] [] M 0 0 := by
  unfold gX12_isF_62 at h
  refine v_iconst hz (v := (0 : Int32)) (by decide) dX12_isF_62 ?_
  exact v_weak (lvle_s (lvle_n lvle_0)) (wX12_isF_63 hz hF0 hF1 hF2  h)
set_option maxRecDepth 100000 in
set_option maxHeartbeats 4000000 in
theorem wX12_isF_29 {z : Zx} {fx : Fx} {al : Bool} {r : Nat} {N : Mem} {xr : Int32} {F0 : Mem → Nat → Option (Int32 × Mem)}  {F1 : Mem → Nat → Option (Int32 × Mem)}  {F2 : Mem → Nat → Option (Int32 × Mem)} (hz : Zok z fx al yX12_isF.cls yX12_isF.name cX12_isF (some .boolean) 2 (r + 5) 0 0 (some (.int xr)) N) (hF0 : ∀ {M N : Mem} {a0 : Nat} {xr : Int32}, F0 M a0 = some (xr, N) → Ct fx yX12_isF cX12_isF 2 (some .boolean) (r + 4) 0 0 al [.ref a0] M (some (.int xr)) N) (hF1 : ∀ {M N : Mem} {a0 : Nat} {xr : Int32}, F1 M a0 = some (xr, N) → Ct fx yX12_isT cX12_isT 1 (some .boolean) (r + 4) 0 0 al [.ref a0] M (some (.int xr)) N) (hF2 : ∀ {M N : Mem} {a0 : Nat} {xr : Int32}, F2 M a0 = some (xr, N) → Ct fx yX12_isE cX12_isE 1 (some .boolean) (r + 4) 0 0 al [.ref a0] M (some (.int xr)) N)   {M : Mem} {l0 : Nat} {s0 : Int32} (h : gX12_isF_29 F0 F1 F2 M l0 s0 = some (xr, N)) : V z 29 [some (.ref l0), none] [.int s0] M 0 0 := by
  unfold gX12_isF_29 at h
  refine v_istore_n hz (lw := [some (.ref l0), some (.int s0)]) rfl (Nat.le_of_ble_eq_true rfl) rfl rfl dX12_isF_29 ?_
  refine v_goto (tgt := 72) hz dX12_isF_30 (by decide) ?_
  exact v_weak (lvle_s (lvle_s lvle_0)) (wX12_isF_72 hz hF0 hF1 hF2  h)
set_option maxRecDepth 100000 in
set_option maxHeartbeats 4000000 in
theorem wX12_isF_28 {z : Zx} {fx : Fx} {al : Bool} {r : Nat} {N : Mem} {xr : Int32} {F0 : Mem → Nat → Option (Int32 × Mem)}  {F1 : Mem → Nat → Option (Int32 × Mem)}  {F2 : Mem → Nat → Option (Int32 × Mem)} (hz : Zok z fx al yX12_isF.cls yX12_isF.name cX12_isF (some .boolean) 2 (r + 5) 0 0 (some (.int xr)) N) (hF0 : ∀ {M N : Mem} {a0 : Nat} {xr : Int32}, F0 M a0 = some (xr, N) → Ct fx yX12_isF cX12_isF 2 (some .boolean) (r + 4) 0 0 al [.ref a0] M (some (.int xr)) N) (hF1 : ∀ {M N : Mem} {a0 : Nat} {xr : Int32}, F1 M a0 = some (xr, N) → Ct fx yX12_isT cX12_isT 1 (some .boolean) (r + 4) 0 0 al [.ref a0] M (some (.int xr)) N) (hF2 : ∀ {M N : Mem} {a0 : Nat} {xr : Int32}, F2 M a0 = some (xr, N) → Ct fx yX12_isE cX12_isE 1 (some .boolean) (r + 4) 0 0 al [.ref a0] M (some (.int xr)) N)   {M : Mem} {l0 : Nat} (h : gX12_isF_28 F0 F1 F2 M l0 = some (xr, N)) : V z 28 [some (.ref l0), none] [] M 0 0 := by
  unfold gX12_isF_28 at h
  refine v_iconst hz (v := (0 : Int32)) (by decide) dX12_isF_28 ?_
  exact v_weak (lvle_s (lvle_n lvle_0)) (wX12_isF_29 hz hF0 hF1 hF2  h)
set_option maxRecDepth 100000 in
set_option maxHeartbeats 4000000 in
theorem tX12_isF_b (r : Nat) {fx : Fx} {al : Bool} {M N : Mem} {a0 : Nat} {xr : Int32} {F0 : Mem → Nat → Option (Int32 × Mem)}  {F1 : Mem → Nat → Option (Int32 × Mem)}  {F2 : Mem → Nat → Option (Int32 × Mem)} (hF0 : ∀ {M N : Mem} {a0 : Nat} {xr : Int32}, F0 M a0 = some (xr, N) → Ct fx yX12_isF cX12_isF 2 (some .boolean) (r + 4) 0 0 al [.ref a0] M (some (.int xr)) N) (hF1 : ∀ {M N : Mem} {a0 : Nat} {xr : Int32}, F1 M a0 = some (xr, N) → Ct fx yX12_isT cX12_isT 1 (some .boolean) (r + 4) 0 0 al [.ref a0] M (some (.int xr)) N) (hF2 : ∀ {M N : Mem} {a0 : Nat} {xr : Int32}, F2 M a0 = some (xr, N) → Ct fx yX12_isE cX12_isE 1 (some .boolean) (r + 4) 0 0 al [.ref a0] M (some (.int xr)) N) (h : bX12_isF F0 F1 F2 M a0 = some (xr, N)) : Ct fx yX12_isF cX12_isF 2 (some .boolean) (r + 5) 0 0 al [.ref a0] M (some (.int xr)) N := by
  refine ct_of (lv := [some (.ref a0), none]) (by decide) (Nat.le_of_ble_eq_true rfl) rfl rfl (fun z hz => ?_)
  unfold bX12_isF at h
  refine v_aload_n hz rfl rfl dX12_isF_0 ?_
  refine v_bipush hz (v := (33 : Int32)) (by decide) dX12_isF_1 ?_
  obtain ⟨ck1, h⟩ := ck_inv h
  obtain ⟨ka1, kb1⟩ := isK_of ck1
  obtain ⟨x2, M2, e2, h⟩ := bd_inv h
  refine v_callV hz (As := [.int (33 : Int32)]) vl_X12_177 (tX12_isOpened (r + 3) e2) rfl (by decide) ka1 kb1 rfl rfl rfl (Nat.le_of_ble_eq_true rfl) ⟨by decide, by decide⟩ dX12_isF_3 ?_
  show V z 6 [some (.ref a0), none] [.int x2] M2 0 0
  refine v_if_eq (tgt := 33) hz dX12_isF_6 (by decide) (fun hc => ?_) (fun hc => ?_)
  · replace h := (if_pos hc).symm.trans h
    refine v_aload_n hz rfl rfl dX12_isF_33 ?_
    refine v_bipush hz (v := (40 : Int32)) (by decide) dX12_isF_34 ?_
    obtain ⟨ck3, h⟩ := ck_inv h
    obtain ⟨ka3, kb3⟩ := isK_of ck3
    obtain ⟨x4, M4, e4, h⟩ := bd_inv h
    refine v_callV hz (As := [.int (40 : Int32)]) vl_X12_177 (tX12_isOpened (r + 3) e4) rfl (by decide) ka3 kb3 rfl rfl rfl (Nat.le_of_ble_eq_true rfl) ⟨by decide, by decide⟩ dX12_isF_36 ?_
    show V z 39 [some (.ref a0), none] [.int x4] M4 0 0
    refine v_if_eq (tgt := 67) hz dX12_isF_39 (by decide) (fun hc => ?_) (fun hc => ?_)
    · replace h := (if_pos hc).symm.trans h
      refine v_aload_n hz rfl rfl dX12_isF_67 ?_
      obtain ⟨ck5, h⟩ := ck_inv h
      obtain ⟨ka5, kb5⟩ := isK_of ck5
      obtain ⟨x6, M6, e6, h⟩ := bd_inv h
      refine v_callV hz (As := []) vl_X12_186 (tX12_isTest (r + 0) e6) rfl (by decide) ka5 kb5 rfl rfl rfl (Nat.le_of_ble_eq_true rfl) ⟨by decide, by decide⟩ dX12_isF_68 ?_
      show V z 71 [some (.ref a0), none] [.int x6] M6 0 0
      obtain ⟨g7, h⟩ := ck_inv h
      obtain ⟨rfl, rfl⟩ := sp_inv h
      exact v_zret hz (b01_of g7) dX12_isF_71 (by decide) (by decide)
    · replace h := (if_neg hc).symm.trans h
      refine v_aload_n hz rfl rfl dX12_isF_42 ?_
      obtain ⟨ck8, h⟩ := ck_inv h
      obtain ⟨ka8, kb8⟩ := isK_of ck8
      obtain ⟨x9, M9, e9, h⟩ := bd_inv h
      refine v_callV hz (As := []) vl_X12_183 (hF2 e9) rfl (by decide) ka8 kb8 rfl rfl rfl (Nat.le_of_ble_eq_true rfl) ⟨by decide, by decide⟩ dX12_isF_43 ?_
      show V z 46 [some (.ref a0), none] [.int x9] M9 0 0
      refine v_if_eq (tgt := 62) hz dX12_isF_46 (by decide) (fun hc => ?_) (fun hc => ?_)
      · replace h := (if_pos hc).symm.trans h
        exact v_weak (lvle_s (lvle_n lvle_0)) (wX12_isF_62 hz hF0 hF1 hF2  h)
      · replace h := (if_neg hc).symm.trans h
        refine v_aload_n hz rfl rfl dX12_isF_49 ?_
        refine v_bipush hz (v := (41 : Int32)) (by decide) dX12_isF_50 ?_
        obtain ⟨ck12, h⟩ := ck_inv h
        obtain ⟨ka12, kb12⟩ := isK_of ck12
        obtain ⟨x13, M13, e13, h⟩ := bd_inv h
        refine v_callV hz (As := [.int (41 : Int32)]) vl_X12_155 (tX12_is (r + 4) e13) rfl (by decide) ka12 kb12 rfl rfl rfl (Nat.le_of_ble_eq_true rfl) ⟨by decide, by decide⟩ dX12_isF_52 ?_
        show V z 55 [some (.ref a0), none] [.int x13] M13 0 0
        refine v_if_eq (tgt := 62) hz dX12_isF_55 (by decide) (fun hc => ?_) (fun hc => ?_)
        · replace h := (if_pos hc).symm.trans h
          exact v_weak (lvle_s (lvle_n lvle_0)) (wX12_isF_62 hz hF0 hF1 hF2  h)
        · replace h := (if_neg hc).symm.trans h
          refine v_iconst hz (v := (1 : Int32)) (by decide) dX12_isF_58 ?_
          refine v_goto (tgt := 63) hz dX12_isF_59 (by decide) ?_
          exact v_weak (lvle_s (lvle_n lvle_0)) (wX12_isF_63 hz hF0 hF1 hF2  h)
  · replace h := (if_neg hc).symm.trans h
    refine v_aload_n hz rfl rfl dX12_isF_9 ?_
    obtain ⟨ck14, h⟩ := ck_inv h
    obtain ⟨ka14, kb14⟩ := isK_of ck14
    obtain ⟨x15, M15, e15, h⟩ := bd_inv h
    refine v_callV hz (As := []) vl_X12_180 (hF0 e15) rfl (by decide) ka14 kb14 rfl rfl rfl (Nat.le_of_ble_eq_true rfl) ⟨by decide, by decide⟩ dX12_isF_10 ?_
    show V z 13 [some (.ref a0), none] [.int x15] M15 0 0
    refine v_if_eq (tgt := 28) hz dX12_isF_13 (by decide) (fun hc => ?_) (fun hc => ?_)
    · replace h := (if_pos hc).symm.trans h
      exact v_weak (lvle_s (lvle_n lvle_0)) (wX12_isF_28 hz hF0 hF1 hF2  h)
    · replace h := (if_neg hc).symm.trans h
      refine v_aload_n hz rfl rfl dX12_isF_16 ?_
      refine v_iconst hz (v := (0 : Int32)) (by decide) dX12_isF_17 ?_
      obtain ⟨ck16, h⟩ := ck_inv h
      obtain ⟨ka16, kb16⟩ := isK_of ck16
      obtain ⟨x17, M17, e17, h⟩ := bd_inv h
      refine v_callV hz (As := [.int (0 : Int32)]) vl_X12_171 (tX12_codes (r + 4) e17) rfl (by decide) ka16 kb16 rfl rfl rfl (Nat.le_of_ble_eq_true rfl) ⟨by decide, by decide⟩ dX12_isF_18 ?_
      show V z 21 [some (.ref a0), none] [.int x17] M17 0 0
      refine v_if_eq (tgt := 28) hz dX12_isF_21 (by decide) (fun hc => ?_) (fun hc => ?_)
      · replace h := (if_pos hc).symm.trans h
        exact v_weak (lvle_s (lvle_n lvle_0)) (wX12_isF_28 hz hF0 hF1 hF2  h)
      · replace h := (if_neg hc).symm.trans h
        refine v_iconst hz (v := (1 : Int32)) (by decide) dX12_isF_24 ?_
        refine v_goto (tgt := 29) hz dX12_isF_25 (by decide) ?_
        exact v_weak (lvle_s (lvle_n lvle_0)) (wX12_isF_29 hz hF0 hF1 hF2  h)
noncomputable def gX12_isT_9 (F0 : Mem → Nat → Option (Int32 × Mem)) (F1 : Mem → Nat → Option (Int32 × Mem)) (F2 : Mem → Nat → Option (Int32 × Mem)) : Nat → Mem → Nat → Option (Int32 × Mem)
  | 0, _, _ => none
  | n + 1, M, l0 => ck (isK M l0 12) <| bd (fX12_is M l0 (38 : Int32)) fun x4 M4 => if x4 = 0 then (some ((1 : Int32), M4)) else (ck (isK M4 l0 12) <| bd (F0 M4 l0) fun x6 M6 => if x6 = 0 then (some ((0 : Int32), M6)) else (ck (isK M6 l0 12) <| bd (fX12_codes M6 l0 (1 : Int32)) fun x8 M8 => if x8 = 0 then (some ((0 : Int32), M8)) else ((gX12_isT_9 F0 F1 F2 n) M8 l0)))
noncomputable def bX12_isT (F0 : Mem → Nat → Option (Int32 × Mem)) (F1 : Mem → Nat → Option (Int32 × Mem)) (F2 : Mem → Nat → Option (Int32 × Mem)) (M : Mem) (a0 : Nat) : Option (Int32 × Mem) :=
  ck (isK M a0 12) <| bd (F0 M a0) fun x2 M2 => if x2 = 0 then (some ((0 : Int32), M2)) else (gX12_isT_9 F0 F1 F2 FU M2 a0)
set_option maxRecDepth 100000 in
set_option maxHeartbeats 4000000 in
theorem gX12_isT_9_s (F0 : Mem → Nat → Option (Int32 × Mem)) (F1 : Mem → Nat → Option (Int32 × Mem)) (F2 : Mem → Nat → Option (Int32 × Mem)) (n : Nat) (M : Mem) (l0 : Nat) : gX12_isT_9 F0 F1 F2 (n + 1) M l0 = (ck (isK M l0 12) <| bd (fX12_is M l0 (38 : Int32)) fun x4 M4 => if x4 = 0 then (some ((1 : Int32), M4)) else (ck (isK M4 l0 12) <| bd (F0 M4 l0) fun x6 M6 => if x6 = 0 then (some ((0 : Int32), M6)) else (ck (isK M6 l0 12) <| bd (fX12_codes M6 l0 (1 : Int32)) fun x8 M8 => if x8 = 0 then (some ((0 : Int32), M8)) else ((gX12_isT_9 F0 F1 F2 n) M8 l0)))) := rfl
set_option maxRecDepth 100000 in
set_option maxHeartbeats 4000000 in
theorem wX12_isT_9 {z : Zx} {fx : Fx} {al : Bool} {r : Nat} {N : Mem} {xr : Int32} {F0 : Mem → Nat → Option (Int32 × Mem)}  {F1 : Mem → Nat → Option (Int32 × Mem)}  {F2 : Mem → Nat → Option (Int32 × Mem)} (hz : Zok z fx al yX12_isT.cls yX12_isT.name cX12_isT (some .boolean) 1 (r + 5) 0 0 (some (.int xr)) N) (hF0 : ∀ {M N : Mem} {a0 : Nat} {xr : Int32}, F0 M a0 = some (xr, N) → Ct fx yX12_isF cX12_isF 2 (some .boolean) (r + 4) 0 0 al [.ref a0] M (some (.int xr)) N) (hF1 : ∀ {M N : Mem} {a0 : Nat} {xr : Int32}, F1 M a0 = some (xr, N) → Ct fx yX12_isT cX12_isT 1 (some .boolean) (r + 4) 0 0 al [.ref a0] M (some (.int xr)) N) (hF2 : ∀ {M N : Mem} {a0 : Nat} {xr : Int32}, F2 M a0 = some (xr, N) → Ct fx yX12_isE cX12_isE 1 (some .boolean) (r + 4) 0 0 al [.ref a0] M (some (.int xr)) N)   : ∀ {n : Nat} {M : Mem} {l0 : Nat}, gX12_isT_9 F0 F1 F2 n M l0 = some (xr, N) → V z 9 [some (.ref l0)] [] M 0 0 := by
  intro n
  induction n with
  | zero => intro M l0 h; cases h
  | succ n ih =>
    intro M l0 h
    replace h := (gX12_isT_9_s F0 F1 F2 n M l0).symm.trans h
    refine v_aload_n hz rfl rfl dX12_isT_9 ?_
    refine v_bipush hz (v := (38 : Int32)) (by decide) dX12_isT_10 ?_
    obtain ⟨ck3, h⟩ := ck_inv h
    obtain ⟨ka3, kb3⟩ := isK_of ck3
    obtain ⟨x4, M4, e4, h⟩ := bd_inv h
    refine v_callV hz (As := [.int (38 : Int32)]) vl_X12_155 (tX12_is (r + 4) e4) rfl (by decide) ka3 kb3 rfl rfl rfl (Nat.le_of_ble_eq_true rfl) ⟨by decide, by decide⟩ dX12_isT_12 ?_
    show V z 15 [some (.ref l0)] [.int x4] M4 0 0
    refine v_if_eq (tgt := 35) hz dX12_isT_15 (by decide) (fun hc => ?_) (fun hc => ?_)
    · replace h := (if_pos hc).symm.trans h
      refine v_iconst hz (v := (1 : Int32)) (by decide) dX12_isT_35 ?_
      obtain ⟨rfl, rfl⟩ := sp_inv h
      exact v_zret hz (Or.inr rfl) dX12_isT_36 (by decide) (by decide)
    · replace h := (if_neg hc).symm.trans h
      refine v_aload_n hz rfl rfl dX12_isT_18 ?_
      obtain ⟨ck5, h⟩ := ck_inv h
      obtain ⟨ka5, kb5⟩ := isK_of ck5
      obtain ⟨x6, M6, e6, h⟩ := bd_inv h
      refine v_callV hz (As := []) vl_X12_180 (hF0 e6) rfl (by decide) ka5 kb5 rfl rfl rfl (Nat.le_of_ble_eq_true rfl) ⟨by decide, by decide⟩ dX12_isT_19 ?_
      show V z 22 [some (.ref l0)] [.int x6] M6 0 0
      refine v_if_eq (tgt := 33) hz dX12_isT_22 (by decide) (fun hc => ?_) (fun hc => ?_)
      · replace h := (if_pos hc).symm.trans h
        refine v_iconst hz (v := (0 : Int32)) (by decide) dX12_isT_33 ?_
        obtain ⟨rfl, rfl⟩ := sp_inv h
        exact v_zret hz (Or.inl rfl) dX12_isT_34 (by decide) (by decide)
      · replace h := (if_neg hc).symm.trans h
        refine v_aload_n hz rfl rfl dX12_isT_25 ?_
        refine v_iconst hz (v := (1 : Int32)) (by decide) dX12_isT_26 ?_
        obtain ⟨ck7, h⟩ := ck_inv h
        obtain ⟨ka7, kb7⟩ := isK_of ck7
        obtain ⟨x8, M8, e8, h⟩ := bd_inv h
        refine v_callV hz (As := [.int (1 : Int32)]) vl_X12_171 (tX12_codes (r + 4) e8) rfl (by decide) ka7 kb7 rfl rfl rfl (Nat.le_of_ble_eq_true rfl) ⟨by decide, by decide⟩ dX12_isT_27 ?_
        show V z 30 [some (.ref l0)] [.int x8] M8 0 0
        refine v_if_ne (tgt := 9) hz dX12_isT_30 (by decide) (fun hc => ?_) (fun hc => ?_)
        · replace h := (if_neg hc).symm.trans h
          exact v_weak (lvle_s lvle_0) (ih h)
        · replace h := (if_pos hc).symm.trans h
          refine v_iconst hz (v := (0 : Int32)) (by decide) dX12_isT_33 ?_
          obtain ⟨rfl, rfl⟩ := sp_inv h
          exact v_zret hz (Or.inl rfl) dX12_isT_34 (by decide) (by decide)
set_option maxRecDepth 100000 in
set_option maxHeartbeats 4000000 in
theorem tX12_isT_b (r : Nat) {fx : Fx} {al : Bool} {M N : Mem} {a0 : Nat} {xr : Int32} {F0 : Mem → Nat → Option (Int32 × Mem)}  {F1 : Mem → Nat → Option (Int32 × Mem)}  {F2 : Mem → Nat → Option (Int32 × Mem)} (hF0 : ∀ {M N : Mem} {a0 : Nat} {xr : Int32}, F0 M a0 = some (xr, N) → Ct fx yX12_isF cX12_isF 2 (some .boolean) (r + 4) 0 0 al [.ref a0] M (some (.int xr)) N) (hF1 : ∀ {M N : Mem} {a0 : Nat} {xr : Int32}, F1 M a0 = some (xr, N) → Ct fx yX12_isT cX12_isT 1 (some .boolean) (r + 4) 0 0 al [.ref a0] M (some (.int xr)) N) (hF2 : ∀ {M N : Mem} {a0 : Nat} {xr : Int32}, F2 M a0 = some (xr, N) → Ct fx yX12_isE cX12_isE 1 (some .boolean) (r + 4) 0 0 al [.ref a0] M (some (.int xr)) N) (h : bX12_isT F0 F1 F2 M a0 = some (xr, N)) : Ct fx yX12_isT cX12_isT 1 (some .boolean) (r + 5) 0 0 al [.ref a0] M (some (.int xr)) N := by
  refine ct_of (lv := [some (.ref a0)]) (by decide) (Nat.le_of_ble_eq_true rfl) rfl rfl (fun z hz => ?_)
  unfold bX12_isT at h
  refine v_aload_n hz rfl rfl dX12_isT_0 ?_
  obtain ⟨ck1, h⟩ := ck_inv h
  obtain ⟨ka1, kb1⟩ := isK_of ck1
  obtain ⟨x2, M2, e2, h⟩ := bd_inv h
  refine v_callV hz (As := []) vl_X12_180 (hF0 e2) rfl (by decide) ka1 kb1 rfl rfl rfl (Nat.le_of_ble_eq_true rfl) ⟨by decide, by decide⟩ dX12_isT_1 ?_
  show V z 4 [some (.ref a0)] [.int x2] M2 0 0
  refine v_if_ne (tgt := 9) hz dX12_isT_4 (by decide) (fun hc => ?_) (fun hc => ?_)
  · replace h := (if_neg hc).symm.trans h
    exact v_weak (lvle_s lvle_0) (wX12_isT_9 hz hF0 hF1 hF2  h)
  · replace h := (if_pos hc).symm.trans h
    refine v_iconst hz (v := (0 : Int32)) (by decide) dX12_isT_7 ?_
    obtain ⟨rfl, rfl⟩ := sp_inv h
    exact v_zret hz (Or.inl rfl) dX12_isT_8 (by decide) (by decide)
noncomputable def gX12_isE_9 (F0 : Mem → Nat → Option (Int32 × Mem)) (F1 : Mem → Nat → Option (Int32 × Mem)) (F2 : Mem → Nat → Option (Int32 × Mem)) : Nat → Mem → Nat → Option (Int32 × Mem)
  | 0, _, _ => none
  | n + 1, M, l0 => ck (isK M l0 12) <| bd (fX12_is M l0 (124 : Int32)) fun x4 M4 => if x4 = 0 then (some ((1 : Int32), M4)) else (ck (isK M4 l0 12) <| bd (F1 M4 l0) fun x6 M6 => if x6 = 0 then (some ((0 : Int32), M6)) else (ck (isK M6 l0 12) <| bd (fX12_codes M6 l0 (2 : Int32)) fun x8 M8 => if x8 = 0 then (some ((0 : Int32), M8)) else ((gX12_isE_9 F0 F1 F2 n) M8 l0)))
noncomputable def bX12_isE (F0 : Mem → Nat → Option (Int32 × Mem)) (F1 : Mem → Nat → Option (Int32 × Mem)) (F2 : Mem → Nat → Option (Int32 × Mem)) (M : Mem) (a0 : Nat) : Option (Int32 × Mem) :=
  ck (isK M a0 12) <| bd (F1 M a0) fun x2 M2 => if x2 = 0 then (some ((0 : Int32), M2)) else (gX12_isE_9 F0 F1 F2 FU M2 a0)
set_option maxRecDepth 100000 in
set_option maxHeartbeats 4000000 in
theorem gX12_isE_9_s (F0 : Mem → Nat → Option (Int32 × Mem)) (F1 : Mem → Nat → Option (Int32 × Mem)) (F2 : Mem → Nat → Option (Int32 × Mem)) (n : Nat) (M : Mem) (l0 : Nat) : gX12_isE_9 F0 F1 F2 (n + 1) M l0 = (ck (isK M l0 12) <| bd (fX12_is M l0 (124 : Int32)) fun x4 M4 => if x4 = 0 then (some ((1 : Int32), M4)) else (ck (isK M4 l0 12) <| bd (F1 M4 l0) fun x6 M6 => if x6 = 0 then (some ((0 : Int32), M6)) else (ck (isK M6 l0 12) <| bd (fX12_codes M6 l0 (2 : Int32)) fun x8 M8 => if x8 = 0 then (some ((0 : Int32), M8)) else ((gX12_isE_9 F0 F1 F2 n) M8 l0)))) := rfl
set_option maxRecDepth 100000 in
set_option maxHeartbeats 4000000 in
theorem wX12_isE_9 {z : Zx} {fx : Fx} {al : Bool} {r : Nat} {N : Mem} {xr : Int32} {F0 : Mem → Nat → Option (Int32 × Mem)}  {F1 : Mem → Nat → Option (Int32 × Mem)}  {F2 : Mem → Nat → Option (Int32 × Mem)} (hz : Zok z fx al yX12_isE.cls yX12_isE.name cX12_isE (some .boolean) 1 (r + 5) 0 0 (some (.int xr)) N) (hF0 : ∀ {M N : Mem} {a0 : Nat} {xr : Int32}, F0 M a0 = some (xr, N) → Ct fx yX12_isF cX12_isF 2 (some .boolean) (r + 4) 0 0 al [.ref a0] M (some (.int xr)) N) (hF1 : ∀ {M N : Mem} {a0 : Nat} {xr : Int32}, F1 M a0 = some (xr, N) → Ct fx yX12_isT cX12_isT 1 (some .boolean) (r + 4) 0 0 al [.ref a0] M (some (.int xr)) N) (hF2 : ∀ {M N : Mem} {a0 : Nat} {xr : Int32}, F2 M a0 = some (xr, N) → Ct fx yX12_isE cX12_isE 1 (some .boolean) (r + 4) 0 0 al [.ref a0] M (some (.int xr)) N)   : ∀ {n : Nat} {M : Mem} {l0 : Nat}, gX12_isE_9 F0 F1 F2 n M l0 = some (xr, N) → V z 9 [some (.ref l0)] [] M 0 0 := by
  intro n
  induction n with
  | zero => intro M l0 h; cases h
  | succ n ih =>
    intro M l0 h
    replace h := (gX12_isE_9_s F0 F1 F2 n M l0).symm.trans h
    refine v_aload_n hz rfl rfl dX12_isE_9 ?_
    refine v_bipush hz (v := (124 : Int32)) (by decide) dX12_isE_10 ?_
    obtain ⟨ck3, h⟩ := ck_inv h
    obtain ⟨ka3, kb3⟩ := isK_of ck3
    obtain ⟨x4, M4, e4, h⟩ := bd_inv h
    refine v_callV hz (As := [.int (124 : Int32)]) vl_X12_155 (tX12_is (r + 4) e4) rfl (by decide) ka3 kb3 rfl rfl rfl (Nat.le_of_ble_eq_true rfl) ⟨by decide, by decide⟩ dX12_isE_12 ?_
    show V z 15 [some (.ref l0)] [.int x4] M4 0 0
    refine v_if_eq (tgt := 35) hz dX12_isE_15 (by decide) (fun hc => ?_) (fun hc => ?_)
    · replace h := (if_pos hc).symm.trans h
      refine v_iconst hz (v := (1 : Int32)) (by decide) dX12_isE_35 ?_
      obtain ⟨rfl, rfl⟩ := sp_inv h
      exact v_zret hz (Or.inr rfl) dX12_isE_36 (by decide) (by decide)
    · replace h := (if_neg hc).symm.trans h
      refine v_aload_n hz rfl rfl dX12_isE_18 ?_
      obtain ⟨ck5, h⟩ := ck_inv h
      obtain ⟨ka5, kb5⟩ := isK_of ck5
      obtain ⟨x6, M6, e6, h⟩ := bd_inv h
      refine v_callV hz (As := []) vl_X12_189 (hF1 e6) rfl (by decide) ka5 kb5 rfl rfl rfl (Nat.le_of_ble_eq_true rfl) ⟨by decide, by decide⟩ dX12_isE_19 ?_
      show V z 22 [some (.ref l0)] [.int x6] M6 0 0
      refine v_if_eq (tgt := 33) hz dX12_isE_22 (by decide) (fun hc => ?_) (fun hc => ?_)
      · replace h := (if_pos hc).symm.trans h
        refine v_iconst hz (v := (0 : Int32)) (by decide) dX12_isE_33 ?_
        obtain ⟨rfl, rfl⟩ := sp_inv h
        exact v_zret hz (Or.inl rfl) dX12_isE_34 (by decide) (by decide)
      · replace h := (if_neg hc).symm.trans h
        refine v_aload_n hz rfl rfl dX12_isE_25 ?_
        refine v_iconst hz (v := (2 : Int32)) (by decide) dX12_isE_26 ?_
        obtain ⟨ck7, h⟩ := ck_inv h
        obtain ⟨ka7, kb7⟩ := isK_of ck7
        obtain ⟨x8, M8, e8, h⟩ := bd_inv h
        refine v_callV hz (As := [.int (2 : Int32)]) vl_X12_171 (tX12_codes (r + 4) e8) rfl (by decide) ka7 kb7 rfl rfl rfl (Nat.le_of_ble_eq_true rfl) ⟨by decide, by decide⟩ dX12_isE_27 ?_
        show V z 30 [some (.ref l0)] [.int x8] M8 0 0
        refine v_if_ne (tgt := 9) hz dX12_isE_30 (by decide) (fun hc => ?_) (fun hc => ?_)
        · replace h := (if_neg hc).symm.trans h
          exact v_weak (lvle_s lvle_0) (ih h)
        · replace h := (if_pos hc).symm.trans h
          refine v_iconst hz (v := (0 : Int32)) (by decide) dX12_isE_33 ?_
          obtain ⟨rfl, rfl⟩ := sp_inv h
          exact v_zret hz (Or.inl rfl) dX12_isE_34 (by decide) (by decide)
set_option maxRecDepth 100000 in
set_option maxHeartbeats 4000000 in
theorem tX12_isE_b (r : Nat) {fx : Fx} {al : Bool} {M N : Mem} {a0 : Nat} {xr : Int32} {F0 : Mem → Nat → Option (Int32 × Mem)}  {F1 : Mem → Nat → Option (Int32 × Mem)}  {F2 : Mem → Nat → Option (Int32 × Mem)} (hF0 : ∀ {M N : Mem} {a0 : Nat} {xr : Int32}, F0 M a0 = some (xr, N) → Ct fx yX12_isF cX12_isF 2 (some .boolean) (r + 4) 0 0 al [.ref a0] M (some (.int xr)) N) (hF1 : ∀ {M N : Mem} {a0 : Nat} {xr : Int32}, F1 M a0 = some (xr, N) → Ct fx yX12_isT cX12_isT 1 (some .boolean) (r + 4) 0 0 al [.ref a0] M (some (.int xr)) N) (hF2 : ∀ {M N : Mem} {a0 : Nat} {xr : Int32}, F2 M a0 = some (xr, N) → Ct fx yX12_isE cX12_isE 1 (some .boolean) (r + 4) 0 0 al [.ref a0] M (some (.int xr)) N) (h : bX12_isE F0 F1 F2 M a0 = some (xr, N)) : Ct fx yX12_isE cX12_isE 1 (some .boolean) (r + 5) 0 0 al [.ref a0] M (some (.int xr)) N := by
  refine ct_of (lv := [some (.ref a0)]) (by decide) (Nat.le_of_ble_eq_true rfl) rfl rfl (fun z hz => ?_)
  unfold bX12_isE at h
  refine v_aload_n hz rfl rfl dX12_isE_0 ?_
  obtain ⟨ck1, h⟩ := ck_inv h
  obtain ⟨ka1, kb1⟩ := isK_of ck1
  obtain ⟨x2, M2, e2, h⟩ := bd_inv h
  refine v_callV hz (As := []) vl_X12_189 (hF1 e2) rfl (by decide) ka1 kb1 rfl rfl rfl (Nat.le_of_ble_eq_true rfl) ⟨by decide, by decide⟩ dX12_isE_1 ?_
  show V z 4 [some (.ref a0)] [.int x2] M2 0 0
  refine v_if_ne (tgt := 9) hz dX12_isE_4 (by decide) (fun hc => ?_) (fun hc => ?_)
  · replace h := (if_neg hc).symm.trans h
    exact v_weak (lvle_s lvle_0) (wX12_isE_9 hz hF0 hF1 hF2  h)
  · replace h := (if_pos hc).symm.trans h
    refine v_iconst hz (v := (0 : Int32)) (by decide) dX12_isE_7 ?_
    obtain ⟨rfl, rfl⟩ := sp_inv h
    exact v_zret hz (Or.inl rfl) dX12_isE_8 (by decide) (by decide)
noncomputable def rgB : Nat → Nat → Mem → Nat → Option (Int32 × Mem)
  | 0, _, _, _ => none
  | n + 1, 0, M, a0 => bX12_isF (rgB n 0) (rgB n 1) (rgB n 2) M a0
  | n + 1, 1, M, a0 => bX12_isT (rgB n 0) (rgB n 1) (rgB n 2) M a0
  | n + 1, _, M, a0 => bX12_isE (rgB n 0) (rgB n 1) (rgB n 2) M a0
set_option maxRecDepth 100000 in
theorem rgB_c {fx : Fx} {al : Bool} (r : Nat) : ∀ n : Nat, (∀ {M N : Mem} {a0 : Nat} {xr : Int32}, rgB n 0 M a0 = some (xr, N) → Ct fx yX12_isF cX12_isF 2 (some .boolean) (r + n + 4) 0 0 al [.ref a0] M (some (.int xr)) N) ∧ (∀ {M N : Mem} {a0 : Nat} {xr : Int32}, rgB n 1 M a0 = some (xr, N) → Ct fx yX12_isT cX12_isT 1 (some .boolean) (r + n + 4) 0 0 al [.ref a0] M (some (.int xr)) N) ∧ (∀ {M N : Mem} {a0 : Nat} {xr : Int32}, rgB n 2 M a0 = some (xr, N) → Ct fx yX12_isE cX12_isE 1 (some .boolean) (r + n + 4) 0 0 al [.ref a0] M (some (.int xr)) N) := by
  intro n
  induction n with
  | zero => exact ⟨(fun h => by cases (show (none : Option (Int32 × Mem)) = some _ from h)), (fun h => by cases (show (none : Option (Int32 × Mem)) = some _ from h)), (fun h => by cases (show (none : Option (Int32 × Mem)) = some _ from h))⟩
  | succ n ih => exact ⟨fun h => tX12_isF_b (r + n) ih.1 ih.2.1 ih.2.2 h, fun h => tX12_isT_b (r + n) ih.1 ih.2.1 ih.2.2 h, fun h => tX12_isE_b (r + n) ih.1 ih.2.1 ih.2.2 h⟩
noncomputable def fX12_isF (M : Mem) (a0 : Nat) : Option (Int32 × Mem) := rgB 24 0 M a0
theorem tX12_isF (r : Nat) {fx : Fx} {al : Bool} {M N : Mem} {a0 : Nat} {xr : Int32} (h : fX12_isF M a0 = some (xr, N)) : Ct fx yX12_isF cX12_isF 2 (some .boolean) (r + 28) 0 0 al [.ref a0] M (some (.int xr)) N := (rgB_c (fx := fx) (al := al) r 24).1 h
noncomputable def fX12_isT (M : Mem) (a0 : Nat) : Option (Int32 × Mem) := rgB 24 1 M a0
theorem tX12_isT (r : Nat) {fx : Fx} {al : Bool} {M N : Mem} {a0 : Nat} {xr : Int32} (h : fX12_isT M a0 = some (xr, N)) : Ct fx yX12_isT cX12_isT 1 (some .boolean) (r + 28) 0 0 al [.ref a0] M (some (.int xr)) N := (rgB_c (fx := fx) (al := al) r 24).2.1 h
noncomputable def fX12_isE (M : Mem) (a0 : Nat) : Option (Int32 × Mem) := rgB 24 2 M a0
theorem tX12_isE (r : Nat) {fx : Fx} {al : Bool} {M N : Mem} {a0 : Nat} {xr : Int32} (h : fX12_isE M a0 = some (xr, N)) : Ct fx yX12_isE cX12_isE 1 (some .boolean) (r + 28) 0 0 al [.ref a0] M (some (.int xr)) N := (rgB_c (fx := fx) (al := al) r 24).2.2 h
noncomputable def gX12_isClause_202  (M : Mem) (l0 : Nat) (l1 : Int32) : Option (Int32 × Mem) :=
  ck (isK M l0 12) <| rb (mR M l0 20) fun b17 => rb (mR M l0 19) fun b18 => ck (isK M b18 14) <| ck (inb l1 (mG M b18)) <| ck (isK M b17 14) <| ck (inb l1 (mG M b17)) <| some ((1 : Int32), (stI M b17 l1.toNatClampNeg ((mI M l0 22) - (mI M b18 l1.toNatClampNeg))))
noncomputable def gX12_isClause_133  (M : Mem) (l0 : Nat) (l1 : Int32) (l2 : Int32) (s0 : Int32) : Option (Int32 × Mem) :=
  if s0 = 0 then (some ((0 : Int32), M)) else (ck (isK M l0 12) <| bd (fX12_isNumber M l0) fun x3 M3 => if x3 = 0 then (some ((0 : Int32), M3)) else (ck (isK M3 l0 12) <| rb (mR M3 l0 17) fun b5 => ck (isK M3 b5 14) <| ck (inb l1 (mG M3 b5)) <| rb (mR (stI M3 b5 l1.toNatClampNeg l2) l0 18) fun b8 => ck (isK M3 b8 14) <| ck (inb l1 (mG M3 b8)) <| rb (mR (stI (stI M3 b5 l1.toNatClampNeg l2) b8 l1.toNatClampNeg (mI (stI M3 b5 l1.toNatClampNeg l2) l0 11)) l0 19) fun b11 => ck (isK M3 b11 14) <| ck (inb l1 (mG M3 b11)) <| nm (stI (stI (stI M3 b5 l1.toNatClampNeg l2) b8 l1.toNatClampNeg (mI (stI M3 b5 l1.toNatClampNeg l2) l0 11)) b11 l1.toNatClampNeg (mI (stI (stI M3 b5 l1.toNatClampNeg l2) b8 l1.toNatClampNeg (mI (stI M3 b5 l1.toNatClampNeg l2) l0 11)) l0 22)) fun M14 => ck (isK M14 l0 12) <| if (2 : Int32) ≤ l2 then (gX12_isClause_202 (stI M14 l0 13 (0 : Int32)) l0 l1) else (bd (fX12_is (stI M14 l0 13 (0 : Int32)) l0 (32 : Int32)) fun x23 M23 => if x23 = 0 then (some ((0 : Int32), M23)) else (ck (isK M23 l0 12) <| bd (fX12_isE M23 l0) fun x25 M25 => if x25 = 0 then (some ((0 : Int32), M25)) else (gX12_isClause_202 M25 l0 l1)))))
noncomputable def gX12_isClause_132  (M : Mem) (l0 : Nat) (l1 : Int32) (l2 : Int32) : Option (Int32 × Mem) :=
  gX12_isClause_133 M l0 l1 l2 (0 : Int32)
noncomputable def gX12_isClause_87  (M : Mem) (l0 : Nat) (l1 : Int32) (l2 : Int32) : Option (Int32 × Mem) :=
  if l2 = 0 then (ck (isK M l0 12) <| bd (fX12_isAll M l0 0) fun x31 M31 => gX12_isClause_133 M31 l0 l1 l2 x31) else (if l2 = (1 : Int32) then (ck (isK M l0 12) <| bd (fX12_isAll M l0 8) fun x29 M29 => gX12_isClause_133 M29 l0 l1 l2 x29) else (if l2 = (2 : Int32) then (ck (isK M l0 12) <| bd (fX12_isAll M l0 9) fun x27 M27 => if x27 = 0 then (gX12_isClause_132 M27 l0 l1 l2) else (gX12_isClause_133 M27 l0 l1 l2 (1 : Int32))) else (gX12_isClause_132 M l0 l1 l2)))
noncomputable def gX12_isClause_51  (M : Mem) (l0 : Nat) (l1 : Int32) (l2 : Int32) : Option (Int32 × Mem) :=
  if l2 = (1 : Int32) then (ck (isK M l0 12) <| if (mI M l0 8) ≤ ((mI M l0 10) + (2 : Int32)) then (gX12_isClause_87 M l0 l1 l2) else (rb (mR M l0 9) fun b33 => ck (isK M b33 14) <| ck (inb ((mI M l0 10) + (2 : Int32)) (mG M b33)) <| if (mI M b33 ((mI M l0 10) + (2 : Int32)).toNatClampNeg) = (108 : Int32) then (gX12_isClause_87 M l0 l1 (2 : Int32)) else (gX12_isClause_87 M l0 l1 l2))) else (gX12_isClause_87 M l0 l1 l2)
noncomputable def gX12_isClause_50  (M : Mem) (l0 : Nat) (l1 : Int32) (s0 : Int32) : Option (Int32 × Mem) :=
  gX12_isClause_51 M l0 l1 s0
noncomputable def fX12_isClause (M : Mem) (a0 : Nat) (a1 : Int32) : Option (Int32 × Mem) :=
  ck (isK M a0 12) <| if (mI M a0 8) ≤ (mI M a0 10) then (gX12_isClause_51 M a0 a1 (-1 : Int32)) else (rb (mR M a0 9) fun b36 => ck (isK M b36 14) <| ck (inb (mI M a0 10) (mG M b36)) <| if (mI M b36 (mI M a0 10).toNatClampNeg) = (100 : Int32) then (gX12_isClause_50 M a0 a1 (0 : Int32)) else (ck (inb (mI M a0 10) (mG M b36)) <| if (mI M b36 (mI M a0 10).toNatClampNeg) = (98 : Int32) then (gX12_isClause_50 M a0 a1 (1 : Int32)) else (gX12_isClause_50 M a0 a1 (-1 : Int32))))
set_option maxRecDepth 100000 in
set_option maxHeartbeats 4000000 in
theorem wX12_isClause_202 {z : Zx} {fx : Fx} {al : Bool} {r : Nat} {N : Mem} {xr : Int32} (hz : Zok z fx al yX12_isClause.cls yX12_isClause.name cX12_isClause (some .boolean) 4 (r + 29) 0 0 (some (.int xr)) N)    {M : Mem} {l0 : Nat} {l1 : Int32} (h : gX12_isClause_202  M l0 l1 = some (xr, N)) : V z 202 [some (.ref l0), some (.int l1), none, none] [] M 0 0 := by
  unfold gX12_isClause_202 at h
  refine v_aload_n hz rfl rfl dX12_isClause_202 ?_
  obtain ⟨ck16, h⟩ := ck_inv h
  obtain ⟨ka16, kb16⟩ := isK_of ck16
  obtain ⟨b17, r17, h⟩ := rb_inv h
  refine v_getR hz fl_X12_45 rfl dX12_isClause_203 ka16 kb16 r17 ?_
  refine v_iload_n hz rfl rfl dX12_isClause_206 ?_
  refine v_aload_n hz rfl rfl dX12_isClause_207 ?_
  refine v_getI hz fl_X12_158 rfl dX12_isClause_208 ka16 kb16 ?_
  refine v_aload_n hz rfl rfl dX12_isClause_211 ?_
  obtain ⟨b18, r18, h⟩ := rb_inv h
  refine v_getR hz fl_X12_42 rfl dX12_isClause_212 ka16 kb16 r18 ?_
  refine v_iload_n hz rfl rfl dX12_isClause_215 ?_
  obtain ⟨ck19, h⟩ := ck_inv h
  obtain ⟨ka19, kb19⟩ := isK_of ck19
  obtain ⟨g20, h⟩ := ck_inv h
  refine v_iaload hz dX12_isClause_216 ka19 kb19 g20 ?_
  refine v_isub hz dX12_isClause_217 ?_
  obtain ⟨ck21, h⟩ := ck_inv h
  obtain ⟨ka21, kb21⟩ := isK_of ck21
  obtain ⟨g22, h⟩ := ck_inv h
  refine v_iastore hz dX12_isClause_218 ka21 kb21 g22 ?_
  refine v_iconst hz (v := (1 : Int32)) (by decide) dX12_isClause_219 ?_
  obtain ⟨rfl, rfl⟩ := sp_inv h
  exact v_zret hz (Or.inr rfl) dX12_isClause_220 (by decide) (by decide)
set_option maxRecDepth 100000 in
set_option maxHeartbeats 4000000 in
theorem wX12_isClause_133 {z : Zx} {fx : Fx} {al : Bool} {r : Nat} {N : Mem} {xr : Int32} (hz : Zok z fx al yX12_isClause.cls yX12_isClause.name cX12_isClause (some .boolean) 4 (r + 29) 0 0 (some (.int xr)) N)    {M : Mem} {l0 : Nat} {l1 : Int32} {l2 : Int32} {s0 : Int32} (h : gX12_isClause_133  M l0 l1 l2 s0 = some (xr, N)) : V z 133 [some (.ref l0), some (.int l1), some (.int l2), none] [.int s0] M 0 0 := by
  unfold gX12_isClause_133 at h
  refine v_istore_n hz (lw := [some (.ref l0), some (.int l1), some (.int l2), some (.int s0)]) rfl (Nat.le_of_ble_eq_true rfl) rfl rfl dX12_isClause_133 ?_
  refine v_iload_n hz rfl rfl dX12_isClause_134 ?_
  refine v_if_eq (tgt := 145) hz dX12_isClause_135 (by decide) (fun hc => ?_) (fun hc => ?_)
  · replace h := (if_pos hc).symm.trans h
    refine v_iconst hz (v := (0 : Int32)) (by decide) dX12_isClause_145 ?_
    obtain ⟨rfl, rfl⟩ := sp_inv h
    exact v_zret hz (Or.inl rfl) dX12_isClause_146 (by decide) (by decide)
  · replace h := (if_neg hc).symm.trans h
    refine v_aload_n hz rfl rfl dX12_isClause_138 ?_
    obtain ⟨ck2, h⟩ := ck_inv h
    obtain ⟨ka2, kb2⟩ := isK_of ck2
    obtain ⟨x3, M3, e3, h⟩ := bd_inv h
    refine v_callV hz (As := []) vl_X12_168 (tX12_isNumber (r + 27) e3) rfl (by decide) ka2 kb2 rfl rfl rfl (Nat.le_of_ble_eq_true rfl) ⟨by decide, by decide⟩ dX12_isClause_139 ?_
    show V z 142 [some (.ref l0), some (.int l1), some (.int l2), some (.int s0)] [.int x3] M3 0 0
    refine v_if_ne (tgt := 147) hz dX12_isClause_142 (by decide) (fun hc => ?_) (fun hc => ?_)
    · replace h := (if_neg hc).symm.trans h
      refine v_aload_n hz rfl rfl dX12_isClause_147 ?_
      obtain ⟨ck4, h⟩ := ck_inv h
      obtain ⟨ka4, kb4⟩ := isK_of ck4
      obtain ⟨b5, r5, h⟩ := rb_inv h
      refine v_getR hz fl_X12_36 rfl dX12_isClause_148 ka4 kb4 r5 ?_
      refine v_iload_n hz rfl rfl dX12_isClause_151 ?_
      refine v_iload_n hz rfl rfl dX12_isClause_152 ?_
      obtain ⟨ck6, h⟩ := ck_inv h
      obtain ⟨ka6, kb6⟩ := isK_of ck6
      obtain ⟨g7, h⟩ := ck_inv h
      refine v_iastore hz dX12_isClause_153 ka6 kb6 g7 ?_
      refine v_aload_n hz rfl rfl dX12_isClause_154 ?_
      obtain ⟨b8, r8, h⟩ := rb_inv h
      refine v_getR hz fl_X12_39 rfl dX12_isClause_155 ka4 kb4 r8 ?_
      refine v_iload_n hz rfl rfl dX12_isClause_158 ?_
      refine v_aload_n hz rfl rfl dX12_isClause_159 ?_
      refine v_getI hz fl_X12_136 rfl dX12_isClause_160 ka4 kb4 ?_
      obtain ⟨ck9, h⟩ := ck_inv h
      obtain ⟨ka9, kb9⟩ := isK_of ck9
      obtain ⟨g10, h⟩ := ck_inv h
      refine v_iastore hz dX12_isClause_163 ka9 kb9 g10 ?_
      refine v_aload_n hz rfl rfl dX12_isClause_164 ?_
      obtain ⟨b11, r11, h⟩ := rb_inv h
      refine v_getR hz fl_X12_42 rfl dX12_isClause_165 ka4 kb4 r11 ?_
      refine v_iload_n hz rfl rfl dX12_isClause_168 ?_
      refine v_aload_n hz rfl rfl dX12_isClause_169 ?_
      refine v_getI hz fl_X12_158 rfl dX12_isClause_170 ka4 kb4 ?_
      obtain ⟨ck12, h⟩ := ck_inv h
      obtain ⟨ka12, kb12⟩ := isK_of ck12
      obtain ⟨g13, h⟩ := ck_inv h
      refine v_iastore hz dX12_isClause_173 ka12 kb12 g13 ?_
      obtain ⟨M14, eM14, h⟩ := nm_inv h
      refine v_mem eM14.symm ?_
      refine v_aload_n hz rfl rfl dX12_isClause_174 ?_
      refine v_iconst hz (v := (0 : Int32)) (by decide) dX12_isClause_175 ?_
      obtain ⟨ck15, h⟩ := ck_inv h
      obtain ⟨ka15, kb15⟩ := isK_of ck15
      refine v_putI hz fl_X12_174 ft_12_13 (by decide) rfl rfl rfl dX12_isClause_176 ka15 kb15 ?_
      refine v_iload_n hz rfl rfl dX12_isClause_179 ?_
      refine v_iconst hz (v := (2 : Int32)) (by decide) dX12_isClause_180 ?_
      refine v_icmp_ge (tgt := 202) hz dX12_isClause_181 (by decide) (fun hc => ?_) (fun hc => ?_)
      · replace h := (if_pos hc).symm.trans h
        exact v_weak (lvle_s (lvle_s (lvle_n (lvle_n lvle_0)))) (wX12_isClause_202 hz   h)
      · replace h := (if_neg hc).symm.trans h
        refine v_aload_n hz rfl rfl dX12_isClause_184 ?_
        refine v_bipush hz (v := (32 : Int32)) (by decide) dX12_isClause_185 ?_
        obtain ⟨x23, M23, e23, h⟩ := bd_inv h
        refine v_callV hz (As := [.int (32 : Int32)]) vl_X12_155 (tX12_is (r + 28) e23) rfl (by decide) ka15 kb15 rfl rfl rfl (Nat.le_of_ble_eq_true rfl) ⟨by decide, by decide⟩ dX12_isClause_187 ?_
        show V z 190 [some (.ref l0), some (.int l1), some (.int l2), some (.int s0)] [.int x23] M23 0 0
        refine v_if_eq (tgt := 200) hz dX12_isClause_190 (by decide) (fun hc => ?_) (fun hc => ?_)
        · replace h := (if_pos hc).symm.trans h
          refine v_iconst hz (v := (0 : Int32)) (by decide) dX12_isClause_200 ?_
          obtain ⟨rfl, rfl⟩ := sp_inv h
          exact v_zret hz (Or.inl rfl) dX12_isClause_201 (by decide) (by decide)
        · replace h := (if_neg hc).symm.trans h
          refine v_aload_n hz rfl rfl dX12_isClause_193 ?_
          obtain ⟨ck24, h⟩ := ck_inv h
          obtain ⟨ka24, kb24⟩ := isK_of ck24
          obtain ⟨x25, M25, e25, h⟩ := bd_inv h
          refine v_callV hz (As := []) vl_X12_183 (tX12_isE (r + 0) e25) rfl (by decide) ka24 kb24 rfl rfl rfl (Nat.le_of_ble_eq_true rfl) ⟨by decide, by decide⟩ dX12_isClause_194 ?_
          show V z 197 [some (.ref l0), some (.int l1), some (.int l2), some (.int s0)] [.int x25] M25 0 0
          refine v_if_ne (tgt := 202) hz dX12_isClause_197 (by decide) (fun hc => ?_) (fun hc => ?_)
          · replace h := (if_neg hc).symm.trans h
            exact v_weak (lvle_s (lvle_s (lvle_n (lvle_n lvle_0)))) (wX12_isClause_202 hz   h)
          · replace h := (if_pos hc).symm.trans h
            refine v_iconst hz (v := (0 : Int32)) (by decide) dX12_isClause_200 ?_
            obtain ⟨rfl, rfl⟩ := sp_inv h
            exact v_zret hz (Or.inl rfl) dX12_isClause_201 (by decide) (by decide)
    · replace h := (if_pos hc).symm.trans h
      refine v_iconst hz (v := (0 : Int32)) (by decide) dX12_isClause_145 ?_
      obtain ⟨rfl, rfl⟩ := sp_inv h
      exact v_zret hz (Or.inl rfl) dX12_isClause_146 (by decide) (by decide)
set_option maxRecDepth 100000 in
set_option maxHeartbeats 4000000 in
theorem wX12_isClause_132 {z : Zx} {fx : Fx} {al : Bool} {r : Nat} {N : Mem} {xr : Int32} (hz : Zok z fx al yX12_isClause.cls yX12_isClause.name cX12_isClause (some .boolean) 4 (r + 29) 0 0 (some (.int xr)) N)    {M : Mem} {l0 : Nat} {l1 : Int32} {l2 : Int32} (h : gX12_isClause_132  M l0 l1 l2 = some (xr, N)) : V z 132 [some (.ref l0), some (.int l1), some (.int l2), none] [] M 0 0 := by
  unfold gX12_isClause_132 at h
  refine v_iconst hz (v := (0 : Int32)) (by decide) dX12_isClause_132 ?_
  exact v_weak (lvle_s (lvle_s (lvle_s (lvle_n lvle_0)))) (wX12_isClause_133 hz   h)
set_option maxRecDepth 100000 in
set_option maxHeartbeats 4000000 in
theorem wX12_isClause_87 {z : Zx} {fx : Fx} {al : Bool} {r : Nat} {N : Mem} {xr : Int32} (hz : Zok z fx al yX12_isClause.cls yX12_isClause.name cX12_isClause (some .boolean) 4 (r + 29) 0 0 (some (.int xr)) N)    {M : Mem} {l0 : Nat} {l1 : Int32} {l2 : Int32} (h : gX12_isClause_87  M l0 l1 l2 = some (xr, N)) : V z 87 [some (.ref l0), some (.int l1), some (.int l2), none] [] M 0 0 := by
  unfold gX12_isClause_87 at h
  refine v_iload_n hz rfl rfl dX12_isClause_87 ?_
  refine v_if_ne (tgt := 100) hz dX12_isClause_88 (by decide) (fun hc => ?_) (fun hc => ?_)
  · replace h := (if_neg hc).symm.trans h
    refine v_iload_n hz rfl rfl dX12_isClause_100 ?_
    refine v_iconst hz (v := (1 : Int32)) (by decide) dX12_isClause_101 ?_
    refine v_icmp_ne (tgt := 114) hz dX12_isClause_102 (by decide) (fun hc => ?_) (fun hc => ?_)
    · replace h := (if_neg hc).symm.trans h
      refine v_iload_n hz rfl rfl dX12_isClause_114 ?_
      refine v_iconst hz (v := (2 : Int32)) (by decide) dX12_isClause_115 ?_
      refine v_icmp_ne (tgt := 132) hz dX12_isClause_116 (by decide) (fun hc => ?_) (fun hc => ?_)
      · replace h := (if_neg hc).symm.trans h
        exact v_weak (lvle_s (lvle_s (lvle_s (lvle_n lvle_0)))) (wX12_isClause_132 hz   h)
      · replace h := (if_pos hc).symm.trans h
        refine v_aload_n hz rfl rfl dX12_isClause_119 ?_
        refine v_ldcS hz (tx := "bald ") (j := 9) (by decide +kernel) dX12_isClause_120 ?_
        obtain ⟨ck26, h⟩ := ck_inv h
        obtain ⟨ka26, kb26⟩ := isK_of ck26
        obtain ⟨x27, M27, e27, h⟩ := bd_inv h
        refine v_callV hz (As := [.retAddr 9]) vl_X12_194 (tX12_isAll (r + 23) e27) rfl (by decide) ka26 kb26 rfl rfl rfl (Nat.le_of_ble_eq_true rfl) ⟨by decide, by decide⟩ dX12_isClause_122 ?_
        show V z 125 [some (.ref l0), some (.int l1), some (.int l2), none] [.int x27] M27 0 0
        refine v_if_eq (tgt := 132) hz dX12_isClause_125 (by decide) (fun hc => ?_) (fun hc => ?_)
        · replace h := (if_pos hc).symm.trans h
          exact v_weak (lvle_s (lvle_s (lvle_s (lvle_n lvle_0)))) (wX12_isClause_132 hz   h)
        · replace h := (if_neg hc).symm.trans h
          refine v_iconst hz (v := (1 : Int32)) (by decide) dX12_isClause_128 ?_
          refine v_goto (tgt := 133) hz dX12_isClause_129 (by decide) ?_
          exact v_weak (lvle_s (lvle_s (lvle_s (lvle_n lvle_0)))) (wX12_isClause_133 hz   h)
    · replace h := (if_pos hc).symm.trans h
      refine v_aload_n hz rfl rfl dX12_isClause_105 ?_
      refine v_ldcS hz (tx := "bar ") (j := 8) (by decide +kernel) dX12_isClause_106 ?_
      obtain ⟨ck28, h⟩ := ck_inv h
      obtain ⟨ka28, kb28⟩ := isK_of ck28
      obtain ⟨x29, M29, e29, h⟩ := bd_inv h
      refine v_callV hz (As := [.retAddr 8]) vl_X12_194 (tX12_isAll (r + 23) e29) rfl (by decide) ka28 kb28 rfl rfl rfl (Nat.le_of_ble_eq_true rfl) ⟨by decide, by decide⟩ dX12_isClause_108 ?_
      show V z 111 [some (.ref l0), some (.int l1), some (.int l2), none] [.int x29] M29 0 0
      refine v_goto (tgt := 133) hz dX12_isClause_111 (by decide) ?_
      exact v_weak (lvle_s (lvle_s (lvle_s (lvle_n lvle_0)))) (wX12_isClause_133 hz   h)
  · replace h := (if_pos hc).symm.trans h
    refine v_aload_n hz rfl rfl dX12_isClause_91 ?_
    refine v_ldcS hz (tx := "draw ") (j := 0) (by decide +kernel) dX12_isClause_92 ?_
    obtain ⟨ck30, h⟩ := ck_inv h
    obtain ⟨ka30, kb30⟩ := isK_of ck30
    obtain ⟨x31, M31, e31, h⟩ := bd_inv h
    refine v_callV hz (As := [.retAddr 0]) vl_X12_194 (tX12_isAll (r + 23) e31) rfl (by decide) ka30 kb30 rfl rfl rfl (Nat.le_of_ble_eq_true rfl) ⟨by decide, by decide⟩ dX12_isClause_94 ?_
    show V z 97 [some (.ref l0), some (.int l1), some (.int l2), none] [.int x31] M31 0 0
    refine v_goto (tgt := 133) hz dX12_isClause_97 (by decide) ?_
    exact v_weak (lvle_s (lvle_s (lvle_s (lvle_n lvle_0)))) (wX12_isClause_133 hz   h)
set_option maxRecDepth 100000 in
set_option maxHeartbeats 4000000 in
theorem wX12_isClause_51 {z : Zx} {fx : Fx} {al : Bool} {r : Nat} {N : Mem} {xr : Int32} (hz : Zok z fx al yX12_isClause.cls yX12_isClause.name cX12_isClause (some .boolean) 4 (r + 29) 0 0 (some (.int xr)) N)    {M : Mem} {l0 : Nat} {l1 : Int32} {l2 : Int32} (h : gX12_isClause_51  M l0 l1 l2 = some (xr, N)) : V z 51 [some (.ref l0), some (.int l1), some (.int l2), none] [] M 0 0 := by
  unfold gX12_isClause_51 at h
  refine v_iload_n hz rfl rfl dX12_isClause_51 ?_
  refine v_iconst hz (v := (1 : Int32)) (by decide) dX12_isClause_52 ?_
  refine v_icmp_ne (tgt := 87) hz dX12_isClause_53 (by decide) (fun hc => ?_) (fun hc => ?_)
  · replace h := (if_neg hc).symm.trans h
    exact v_weak (lvle_s (lvle_s (lvle_s (lvle_n lvle_0)))) (wX12_isClause_87 hz   h)
  · replace h := (if_pos hc).symm.trans h
    refine v_aload_n hz rfl rfl dX12_isClause_56 ?_
    obtain ⟨ck32, h⟩ := ck_inv h
    obtain ⟨ka32, kb32⟩ := isK_of ck32
    refine v_getI hz fl_X12_133 rfl dX12_isClause_57 ka32 kb32 ?_
    refine v_iconst hz (v := (2 : Int32)) (by decide) dX12_isClause_60 ?_
    refine v_iadd hz dX12_isClause_61 ?_
    refine v_aload_n hz rfl rfl dX12_isClause_62 ?_
    refine v_getI hz fl_X12_130 rfl dX12_isClause_63 ka32 kb32 ?_
    refine v_icmp_ge (tgt := 87) hz dX12_isClause_66 (by decide) (fun hc => ?_) (fun hc => ?_)
    · replace h := (if_pos hc).symm.trans h
      exact v_weak (lvle_s (lvle_s (lvle_s (lvle_n lvle_0)))) (wX12_isClause_87 hz   h)
    · replace h := (if_neg hc).symm.trans h
      refine v_aload_n hz rfl rfl dX12_isClause_69 ?_
      obtain ⟨b33, r33, h⟩ := rb_inv h
      refine v_getR hz fl_X12_30 rfl dX12_isClause_70 ka32 kb32 r33 ?_
      refine v_aload_n hz rfl rfl dX12_isClause_73 ?_
      refine v_getI hz fl_X12_133 rfl dX12_isClause_74 ka32 kb32 ?_
      refine v_iconst hz (v := (2 : Int32)) (by decide) dX12_isClause_77 ?_
      refine v_iadd hz dX12_isClause_78 ?_
      obtain ⟨ck34, h⟩ := ck_inv h
      obtain ⟨ka34, kb34⟩ := isK_of ck34
      obtain ⟨g35, h⟩ := ck_inv h
      refine v_iaload hz dX12_isClause_79 ka34 kb34 g35 ?_
      refine v_bipush hz (v := (108 : Int32)) (by decide) dX12_isClause_80 ?_
      refine v_icmp_ne (tgt := 87) hz dX12_isClause_82 (by decide) (fun hc => ?_) (fun hc => ?_)
      · replace h := (if_neg hc).symm.trans h
        exact v_weak (lvle_s (lvle_s (lvle_s (lvle_n lvle_0)))) (wX12_isClause_87 hz   h)
      · replace h := (if_pos hc).symm.trans h
        refine v_iconst hz (v := (2 : Int32)) (by decide) dX12_isClause_85 ?_
        refine v_istore_n hz (lw := [some (.ref l0), some (.int l1), some (.int (2 : Int32)), none]) rfl (Nat.le_of_ble_eq_true rfl) rfl rfl dX12_isClause_86 ?_
        exact v_weak (lvle_s (lvle_s (lvle_s (lvle_n lvle_0)))) (wX12_isClause_87 hz   h)
set_option maxRecDepth 100000 in
set_option maxHeartbeats 4000000 in
theorem wX12_isClause_50 {z : Zx} {fx : Fx} {al : Bool} {r : Nat} {N : Mem} {xr : Int32} (hz : Zok z fx al yX12_isClause.cls yX12_isClause.name cX12_isClause (some .boolean) 4 (r + 29) 0 0 (some (.int xr)) N)    {M : Mem} {l0 : Nat} {l1 : Int32} {s0 : Int32} (h : gX12_isClause_50  M l0 l1 s0 = some (xr, N)) : V z 50 [some (.ref l0), some (.int l1), none, none] [.int s0] M 0 0 := by
  unfold gX12_isClause_50 at h
  refine v_istore_n hz (lw := [some (.ref l0), some (.int l1), some (.int s0), none]) rfl (Nat.le_of_ble_eq_true rfl) rfl rfl dX12_isClause_50 ?_
  exact v_weak (lvle_s (lvle_s (lvle_s (lvle_n lvle_0)))) (wX12_isClause_51 hz   h)
set_option maxRecDepth 100000 in
set_option maxHeartbeats 4000000 in
theorem tX12_isClause (r : Nat) {fx : Fx} {al : Bool} {M N : Mem} {a0 : Nat} {a1 : Int32} {xr : Int32}  (h : fX12_isClause M a0 a1 = some (xr, N)) : Ct fx yX12_isClause cX12_isClause 4 (some .boolean) (r + 29) 0 0 al [.ref a0, .int a1] M (some (.int xr)) N := by
  refine ct_of (lv := [some (.ref a0), some (.int a1), none, none]) (by decide) (Nat.le_of_ble_eq_true rfl) rfl rfl (fun z hz => ?_)
  unfold fX12_isClause at h
  refine v_iconst hz (v := (-1 : Int32)) (by decide) dX12_isClause_0 ?_
  refine v_istore_n hz (lw := [some (.ref a0), some (.int a1), some (.int (-1 : Int32)), none]) rfl (Nat.le_of_ble_eq_true rfl) rfl rfl dX12_isClause_1 ?_
  refine v_aload_n hz rfl rfl dX12_isClause_2 ?_
  obtain ⟨ck1, h⟩ := ck_inv h
  obtain ⟨ka1, kb1⟩ := isK_of ck1
  refine v_getI hz fl_X12_133 rfl dX12_isClause_3 ka1 kb1 ?_
  refine v_aload_n hz rfl rfl dX12_isClause_6 ?_
  refine v_getI hz fl_X12_130 rfl dX12_isClause_7 ka1 kb1 ?_
  refine v_icmp_ge (tgt := 51) hz dX12_isClause_10 (by decide) (fun hc => ?_) (fun hc => ?_)
  · replace h := (if_pos hc).symm.trans h
    exact v_weak (lvle_s (lvle_s (lvle_s (lvle_n lvle_0)))) (wX12_isClause_51 hz   h)
  · replace h := (if_neg hc).symm.trans h
    refine v_aload_n hz rfl rfl dX12_isClause_13 ?_
    obtain ⟨b36, r36, h⟩ := rb_inv h
    refine v_getR hz fl_X12_30 rfl dX12_isClause_14 ka1 kb1 r36 ?_
    refine v_aload_n hz rfl rfl dX12_isClause_17 ?_
    refine v_getI hz fl_X12_133 rfl dX12_isClause_18 ka1 kb1 ?_
    obtain ⟨ck37, h⟩ := ck_inv h
    obtain ⟨ka37, kb37⟩ := isK_of ck37
    obtain ⟨g38, h⟩ := ck_inv h
    refine v_iaload hz dX12_isClause_21 ka37 kb37 g38 ?_
    refine v_bipush hz (v := (100 : Int32)) (by decide) dX12_isClause_22 ?_
    refine v_icmp_ne (tgt := 31) hz dX12_isClause_24 (by decide) (fun hc => ?_) (fun hc => ?_)
    · replace h := (if_neg hc).symm.trans h
      refine v_aload_n hz rfl rfl dX12_isClause_31 ?_
      refine v_getR hz fl_X12_30 rfl dX12_isClause_32 ka1 kb1 r36 ?_
      refine v_aload_n hz rfl rfl dX12_isClause_35 ?_
      refine v_getI hz fl_X12_133 rfl dX12_isClause_36 ka1 kb1 ?_
      obtain ⟨g39, h⟩ := ck_inv h
      refine v_iaload hz dX12_isClause_39 ka37 kb37 g39 ?_
      refine v_bipush hz (v := (98 : Int32)) (by decide) dX12_isClause_40 ?_
      refine v_icmp_ne (tgt := 49) hz dX12_isClause_42 (by decide) (fun hc => ?_) (fun hc => ?_)
      · replace h := (if_neg hc).symm.trans h
        refine v_iconst hz (v := (-1 : Int32)) (by decide) dX12_isClause_49 ?_
        exact v_weak (lvle_s (lvle_s (lvle_n (lvle_n lvle_0)))) (wX12_isClause_50 hz   h)
      · replace h := (if_pos hc).symm.trans h
        refine v_iconst hz (v := (1 : Int32)) (by decide) dX12_isClause_45 ?_
        refine v_goto (tgt := 50) hz dX12_isClause_46 (by decide) ?_
        exact v_weak (lvle_s (lvle_s (lvle_n (lvle_n lvle_0)))) (wX12_isClause_50 hz   h)
    · replace h := (if_pos hc).symm.trans h
      refine v_iconst hz (v := (0 : Int32)) (by decide) dX12_isClause_27 ?_
      refine v_goto (tgt := 50) hz dX12_isClause_28 (by decide) ?_
      exact v_weak (lvle_s (lvle_s (lvle_n (lvle_n lvle_0)))) (wX12_isClause_50 hz   h)
