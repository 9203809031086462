noncomputable def gX12_statute_123  (M : Mem) (l0 : Nat) (l1 : Int32) (l2 : Int32) (l4 : Int32) : Option (Int32 × Mem) :=
  ck (isK M l0 12) <| if l4 = 0 then (some (((-10 : Int32) - (mI (stI (stI M l0 8 (0 : Int32)) l0 22 l1) l0 10)), (stI (stI M l0 8 (0 : Int32)) l0 22 l1))) else (rb (mR (stI M l0 8 (0 : Int32)) l0 16) fun b3 => ck (isK (stI M l0 8 (0 : Int32)) b3 14) <| ck (inb (mI (stI M l0 8 (0 : Int32)) l0 14) (mG (stI M l0 8 (0 : Int32)) b3)) <| nm (stI (stI (stI M l0 8 (0 : Int32)) b3 (mI (stI M l0 8 (0 : Int32)) l0 14).toNatClampNeg l2) l0 15 (mI (stI (stI M l0 8 (0 : Int32)) b3 (mI (stI M l0 8 (0 : Int32)) l0 14).toNatClampNeg l2) l0 14)) fun M6 => ck (isK M6 l0 12) <| some ((mI M6 l0 14), (stI M6 l0 14 ((mI M6 l0 14) + (1 : Int32)))))
noncomputable def gX12_statute_119 (K29 : Mem → Nat → Int32 → Int32 → Int32 → Int32 → Option (Int32 × Mem)) (M : Mem) (l0 : Nat) (l1 : Int32) (l2 : Int32) (l4 : Int32) (s0 : Int32) : Option (Int32 × Mem) :=
  K29 M l0 l1 l2 s0 l4
noncomputable def gX12_statute_114 (K29 : Mem → Nat → Int32 → Int32 → Int32 → Int32 → Option (Int32 × Mem)) (M : Mem) (l0 : Nat) (l1 : Int32) (l2 : Int32) (l4 : Int32) : Option (Int32 × Mem) :=
  gX12_statute_119 K29 M l0 l1 l2 l4 (1 : Int32)
noncomputable def gX12_statute_118 (K29 : Mem → Nat → Int32 → Int32 → Int32 → Int32 → Option (Int32 × Mem)) (M : Mem) (l0 : Nat) (l1 : Int32) (l2 : Int32) (l4 : Int32) : Option (Int32 × Mem) :=
  gX12_statute_119 K29 M l0 l1 l2 l4 (0 : Int32)
noncomputable def gX12_statute_92 (K29 : Mem → Nat → Int32 → Int32 → Int32 → Int32 → Option (Int32 × Mem)) (M : Mem) (l0 : Nat) (l1 : Int32) (l2 : Int32) (s0 : Int32) : Option (Int32 × Mem) :=
  if s0 = 0 then (if (10 : Int32) ≤ l2 then (gX12_statute_118 K29 M l0 l1 l2 s0) else (ck (isK M l0 12) <| bd (fX12_is M l0 (59 : Int32)) fun x10 M10 => if x10 = 0 then (gX12_statute_118 K29 M10 l0 l1 l2 s0) else (gX12_statute_114 K29 M10 l0 l1 l2 s0))) else (gX12_statute_114 K29 M l0 l1 l2 s0)
noncomputable def gX12_statute_65 (K29 : Mem → Nat → Int32 → Int32 → Int32 → Int32 → Option (Int32 × Mem)) (M : Mem) (l0 : Nat) (l1 : Int32) (l2 : Int32) (l4 : Int32) (s0 : Int32) : Option (Int32 × Mem) :=
  if s0 = 0 then (K29 M l0 l1 l2 s0 l4) else (ck (isK M l0 12) <| if (mI M l0 10) = (mI M l0 8) then (gX12_statute_92 K29 M l0 l1 (l2 + (1 : Int32)) (1 : Int32)) else (gX12_statute_92 K29 M l0 l1 (l2 + (1 : Int32)) (0 : Int32)))
noncomputable def gX12_statute_64 (K29 : Mem → Nat → Int32 → Int32 → Int32 → Int32 → Option (Int32 × Mem)) (M : Mem) (l0 : Nat) (l1 : Int32) (l2 : Int32) (l4 : Int32) : Option (Int32 × Mem) :=
  gX12_statute_65 K29 M l0 l1 l2 l4 (0 : Int32)
noncomputable def gX12_statute_29  : Nat → Mem → Nat → Int32 → Int32 → Int32 → Int32 → Option (Int32 × Mem)
  | 0, _, _, _, _, _, _ => none
  | n + 1, M, l0, l1, l2, l3, l4 => if l3 = 0 then (gX12_statute_123 M l0 l1 l2 l4) else (if l4 = 0 then (if (10 : Int32) ≤ l2 then (gX12_statute_64 (gX12_statute_29 n) M l0 l1 l2 l4) else (ck (isK M l0 12) <| bd (fX12_isClause M l0 (((10 : Int32) * (mI M l0 14)) + l2)) fun x12 M12 => if x12 = 0 then (gX12_statute_64 (gX12_statute_29 n) M12 l0 l1 l2 l4) else (gX12_statute_65 (gX12_statute_29 n) M12 l0 l1 l2 l4 (1 : Int32)))) else (gX12_statute_123 M l0 l1 l2 l4))
noncomputable def fX12_statute (M : Mem) (a0 : Nat) : Option (Int32 × Mem) :=
  ck (isK M a0 12) <| if (mI M a0 14) = (6 : Int32) then (some ((-4 : Int32), M)) else (gX12_statute_29 FU (stI M a0 10 (0 : Int32)) a0 (mI M a0 22) (0 : Int32) (1 : Int32) (0 : Int32))
set_option maxRecDepth 100000 in
set_option maxHeartbeats 4000000 in
theorem wX12_statute_123 {z : Zx} {fx : Fx} {al : Bool} {r : Nat} {N : Mem} {xr : Int32} (hz : Zok z fx al yX12_statute.cls yX12_statute.name cX12_statute (some .int) 5 (r + 30) 0 0 (some (.int xr)) N)    {M : Mem} {l0 : Nat} {l1 : Int32} {l2 : Int32} {l4 : Int32} (h : gX12_statute_123  M l0 l1 l2 l4 = some (xr, N)) : V z 123 [some (.ref l0), some (.int l1), some (.int l2), none, some (.int l4)] [] M 0 0 := by
  unfold gX12_statute_123 at h
  refine v_aload_n hz rfl rfl dX12_statute_123 ?_
  refine v_iconst hz (v := (0 : Int32)) (by decide) dX12_statute_124 ?_
  obtain ⟨ck2, h⟩ := ck_inv h
  obtain ⟨ka2, kb2⟩ := isK_of ck2
  refine v_putI hz fl_X12_130 ft_12_8 (by decide) rfl rfl rfl dX12_statute_125 ka2 kb2 ?_
  refine v_iload hz rfl dX12_statute_128 ?_
  refine v_if_ne (tgt := 146) hz dX12_statute_130 (by decide) (fun hc => ?_) (fun hc => ?_)
  · replace h := (if_neg hc).symm.trans h
    refine v_aload_n hz rfl rfl dX12_statute_146 ?_
    obtain ⟨b3, r3, h⟩ := rb_inv h
    refine v_getR hz fl_X12_33 rfl dX12_statute_147 ka2 kb2 r3 ?_
    refine v_aload_n hz rfl rfl dX12_statute_150 ?_
    refine v_getI hz fl_X12_202 rfl dX12_statute_151 ka2 kb2 ?_
    refine v_iload_n hz rfl rfl dX12_statute_154 ?_
    obtain ⟨ck4, h⟩ := ck_inv h
    obtain ⟨ka4, kb4⟩ := isK_of ck4
    obtain ⟨g5, h⟩ := ck_inv h
    refine v_iastore hz dX12_statute_155 ka4 kb4 g5 ?_
    refine v_aload_n hz rfl rfl dX12_statute_156 ?_
    refine v_aload_n hz rfl rfl dX12_statute_157 ?_
    refine v_getI hz fl_X12_202 rfl dX12_statute_158 ka2 kb2 ?_
    refine v_putI hz fl_X12_101 ft_12_15 (by decide) rfl rfl rfl dX12_statute_161 ka2 kb2 ?_
    obtain ⟨M6, eM6, h⟩ := nm_inv h
    refine v_mem eM6.symm ?_
    refine v_aload_n hz rfl rfl dX12_statute_164 ?_
    refine v_dup hz rfl dX12_statute_165 ?_
    obtain ⟨ck7, h⟩ := ck_inv h
    obtain ⟨ka7, kb7⟩ := isK_of ck7
    refine v_getI hz fl_X12_202 rfl dX12_statute_166 ka7 kb7 ?_
    refine v_dup_x1 hz rfl rfl dX12_statute_169 ?_
    refine v_iconst hz (v := (1 : Int32)) (by decide) dX12_statute_170 ?_
    refine v_iadd hz dX12_statute_171 ?_
    refine v_putI hz fl_X12_202 ft_12_14 (by decide) rfl rfl rfl dX12_statute_172 ka7 kb7 ?_
    obtain ⟨rfl, rfl⟩ := sp_inv h
    exact v_iret hz dX12_statute_175 (by decide) (by decide)
  · replace h := (if_pos hc).symm.trans h
    refine v_aload_n hz rfl rfl dX12_statute_133 ?_
    refine v_iload_n hz rfl rfl dX12_statute_134 ?_
    refine v_putI hz fl_X12_158 ft_12_22 (by decide) rfl rfl rfl dX12_statute_135 ka2 kb2 ?_
    refine v_bipush hz (v := (-10 : Int32)) (by decide) dX12_statute_138 ?_
    refine v_aload_n hz rfl rfl dX12_statute_140 ?_
    refine v_getI hz fl_X12_133 rfl dX12_statute_141 ka2 kb2 ?_
    refine v_isub hz dX12_statute_144 ?_
    obtain ⟨rfl, rfl⟩ := sp_inv h
    exact v_iret hz dX12_statute_145 (by decide) (by decide)
set_option maxRecDepth 100000 in
set_option maxHeartbeats 4000000 in
theorem wX12_statute_119 {z : Zx} {fx : Fx} {al : Bool} {r : Nat} {N : Mem} {xr : Int32} (hz : Zok z fx al yX12_statute.cls yX12_statute.name cX12_statute (some .int) 5 (r + 30) 0 0 (some (.int xr)) N)  {K29 : Mem → Nat → Int32 → Int32 → Int32 → Int32 → Option (Int32 × Mem)} (hK29 : ∀ {M : Mem} {l0 : Nat} {l1 : Int32} {l2 : Int32} {l3 : Int32} {l4 : Int32}, K29 M l0 l1 l2 l3 l4 = some (xr, N) → V z 29 [some (.ref l0), some (.int l1), some (.int l2), some (.int l3), some (.int l4)] [] M 0 0) {M : Mem} {l0 : Nat} {l1 : Int32} {l2 : Int32} {l4 : Int32} {s0 : Int32} (h : gX12_statute_119 K29 M l0 l1 l2 l4 s0 = some (xr, N)) : V z 119 [some (.ref l0), some (.int l1), some (.int l2), none, some (.int l4)] [.int s0] M 0 0 := by
  unfold gX12_statute_119 at h
  refine v_istore_n hz (lw := [some (.ref l0), some (.int l1), some (.int l2), some (.int s0), some (.int l4)]) rfl (Nat.le_of_ble_eq_true rfl) rfl rfl dX12_statute_119 ?_
  refine v_goto (tgt := 29) hz dX12_statute_120 (by decide) ?_
  exact v_weak (lvle_s (lvle_s (lvle_s (lvle_s (lvle_s lvle_0))))) (hK29 h)
set_option maxRecDepth 100000 in
set_option maxHeartbeats 4000000 in
theorem wX12_statute_114 {z : Zx} {fx : Fx} {al : Bool} {r : Nat} {N : Mem} {xr : Int32} (hz : Zok z fx al yX12_statute.cls yX12_statute.name cX12_statute (some .int) 5 (r + 30) 0 0 (some (.int xr)) N)  {K29 : Mem → Nat → Int32 → Int32 → Int32 → Int32 → Option (Int32 × Mem)} (hK29 : ∀ {M : Mem} {l0 : Nat} {l1 : Int32} {l2 : Int32} {l3 : Int32} {l4 : Int32}, K29 M l0 l1 l2 l3 l4 = some (xr, N) → V z 29 [some (.ref l0), some (.int l1), some (.int l2), some (.int l3), some (.int l4)] [] M 0 0) {M : Mem} {l0 : Nat} {l1 : Int32} {l2 : Int32} {l4 : Int32} (h : gX12_statute_114 K29 M l0 l1 l2 l4 = some (xr, N)) : V z 114 [some (.ref l0), some (.int l1), some (.int l2), none, some (.int l4)] [] M 0 0 := by
  unfold gX12_statute_114 at h
  refine v_iconst hz (v := (1 : Int32)) (by decide) dX12_statute_114 ?_
  refine v_goto (tgt := 119) hz dX12_statute_115 (by decide) ?_
  exact v_weak (lvle_s (lvle_s (lvle_s (lvle_n (lvle_s lvle_0))))) (wX12_statute_119 hz  (fun h => hK29 h) h)
set_option maxRecDepth 100000 in
set_option maxHeartbeats 4000000 in
theorem wX12_statute_118 {z : Zx} {fx : Fx} {al : Bool} {r : Nat} {N : Mem} {xr : Int32} (hz : Zok z fx al yX12_statute.cls yX12_statute.name cX12_statute (some .int) 5 (r + 30) 0 0 (some (.int xr)) N)  {K29 : Mem → Nat → Int32 → Int32 → Int32 → Int32 → Option (Int32 × Mem)} (hK29 : ∀ {M : Mem} {l0 : Nat} {l1 : Int32} {l2 : Int32} {l3 : Int32} {l4 : Int32}, K29 M l0 l1 l2 l3 l4 = some (xr, N) → V z 29 [some (.ref l0), some (.int l1), some (.int l2), some (.int l3), some (.int l4)] [] M 0 0) {M : Mem} {l0 : Nat} {l1 : Int32} {l2 : Int32} {l4 : Int32} (h : gX12_statute_118 K29 M l0 l1 l2 l4 = some (xr, N)) : V z 118 [some (.ref l0), some (.int l1), some (.int l2), none, some (.int l4)] [] M 0 0 := by
  unfold gX12_statute_118 at h
  refine v_iconst hz (v := (0 : Int32)) (by decide) dX12_statute_118 ?_
  exact v_weak (lvle_s (lvle_s (lvle_s (lvle_n (lvle_s lvle_0))))) (wX12_statute_119 hz  (fun h => hK29 h) h)
set_option maxRecDepth 100000 in
set_option maxHeartbeats 4000000 in
theorem wX12_statute_92 {z : Zx} {fx : Fx} {al : Bool} {r : Nat} {N : Mem} {xr : Int32} (hz : Zok z fx al yX12_statute.cls yX12_statute.name cX12_statute (some .int) 5 (r + 30) 0 0 (some (.int xr)) N)  {K29 : Mem → Nat → Int32 → Int32 → Int32 → Int32 → Option (Int32 × Mem)} (hK29 : ∀ {M : Mem} {l0 : Nat} {l1 : Int32} {l2 : Int32} {l3 : Int32} {l4 : Int32}, K29 M l0 l1 l2 l3 l4 = some (xr, N) → V z 29 [some (.ref l0), some (.int l1), some (.int l2), some (.int l3), some (.int l4)] [] M 0 0) {M : Mem} {l0 : Nat} {l1 : Int32} {l2 : Int32} {s0 : Int32} (h : gX12_statute_92 K29 M l0 l1 l2 s0 = some (xr, N)) : V z 92 [some (.ref l0), some (.int l1), some (.int l2), none, none] [.int s0] M 0 0 := by
  unfold gX12_statute_92 at h
  refine v_istore hz (lw := [some (.ref l0), some (.int l1), some (.int l2), none, some (.int s0)]) (Nat.le_of_ble_eq_true rfl) rfl rfl dX12_statute_92 ?_
  refine v_iload hz rfl dX12_statute_94 ?_
  refine v_if_ne (tgt := 114) hz dX12_statute_96 (by decide) (fun hc => ?_) (fun hc => ?_)
  · replace h := (if_neg hc).symm.trans h
    exact v_weak (lvle_s (lvle_s (lvle_s (lvle_n (lvle_s lvle_0))))) (wX12_statute_114 hz  (fun h => hK29 h) h)
  · replace h := (if_pos hc).symm.trans h
    refine v_iload_n hz rfl rfl dX12_statute_99 ?_
    refine v_bipush hz (v := (10 : Int32)) (by decide) dX12_statute_100 ?_
    refine v_icmp_ge (tgt := 118) hz dX12_statute_102 (by decide) (fun hc => ?_) (fun hc => ?_)
    · replace h := (if_pos hc).symm.trans h
      exact v_weak (lvle_s (lvle_s (lvle_s (lvle_n (lvle_s lvle_0))))) (wX12_statute_118 hz  (fun h => hK29 h) h)
    · replace h := (if_neg hc).symm.trans h
      refine v_aload_n hz rfl rfl dX12_statute_105 ?_
      refine v_bipush hz (v := (59 : Int32)) (by decide) dX12_statute_106 ?_
      obtain ⟨ck9, h⟩ := ck_inv h
      obtain ⟨ka9, kb9⟩ := isK_of ck9
      obtain ⟨x10, M10, e10, h⟩ := bd_inv h
      refine v_callV hz (As := [.int (59 : Int32)]) vl_X12_155 (tX12_is (r + 29) e10) rfl (by decide) ka9 kb9 rfl rfl rfl (Nat.le_of_ble_eq_true rfl) ⟨by decide, by decide⟩ dX12_statute_108 ?_
      show V z 111 [some (.ref l0), some (.int l1), some (.int l2), none, some (.int s0)] [.int x10] M10 0 0
      refine v_if_eq (tgt := 118) hz dX12_statute_111 (by decide) (fun hc => ?_) (fun hc => ?_)
      · replace h := (if_pos hc).symm.trans h
        exact v_weak (lvle_s (lvle_s (lvle_s (lvle_n (lvle_s lvle_0))))) (wX12_statute_118 hz  (fun h => hK29 h) h)
      · replace h := (if_neg hc).symm.trans h
        exact v_weak (lvle_s (lvle_s (lvle_s (lvle_n (lvle_s lvle_0))))) (wX12_statute_114 hz  (fun h => hK29 h) h)
set_option maxRecDepth 100000 in
set_option maxHeartbeats 4000000 in
theorem wX12_statute_65 {z : Zx} {fx : Fx} {al : Bool} {r : Nat} {N : Mem} {xr : Int32} (hz : Zok z fx al yX12_statute.cls yX12_statute.name cX12_statute (some .int) 5 (r + 30) 0 0 (some (.int xr)) N)  {K29 : Mem → Nat → Int32 → Int32 → Int32 → Int32 → Option (Int32 × Mem)} (hK29 : ∀ {M : Mem} {l0 : Nat} {l1 : Int32} {l2 : Int32} {l3 : Int32} {l4 : Int32}, K29 M l0 l1 l2 l3 l4 = some (xr, N) → V z 29 [some (.ref l0), some (.int l1), some (.int l2), some (.int l3), some (.int l4)] [] M 0 0) {M : Mem} {l0 : Nat} {l1 : Int32} {l2 : Int32} {l4 : Int32} {s0 : Int32} (h : gX12_statute_65 K29 M l0 l1 l2 l4 s0 = some (xr, N)) : V z 65 [some (.ref l0), some (.int l1), some (.int l2), none, some (.int l4)] [.int s0] M 0 0 := by
  unfold gX12_statute_65 at h
  refine v_istore_n hz (lw := [some (.ref l0), some (.int l1), some (.int l2), some (.int s0), some (.int l4)]) rfl (Nat.le_of_ble_eq_true rfl) rfl rfl dX12_statute_65 ?_
  refine v_iload_n hz rfl rfl dX12_statute_66 ?_
  refine v_if_ne (tgt := 73) hz dX12_statute_67 (by decide) (fun hc => ?_) (fun hc => ?_)
  · replace h := (if_neg hc).symm.trans h
    refine v_iinc hz (v := (l2 + (1 : Int32))) (lw := [some (.ref l0), some (.int l1), some (.int (l2 + (1 : Int32))), some (.int s0), some (.int l4)]) rfl (congrArg (fun q => l2 + q) (show Int32.ofInt (1) = (1 : Int32) by decide)) rfl rfl dX12_statute_73 ?_
    refine v_aload_n hz rfl rfl dX12_statute_76 ?_
    obtain ⟨ck8, h⟩ := ck_inv h
    obtain ⟨ka8, kb8⟩ := isK_of ck8
    refine v_getI hz fl_X12_133 rfl dX12_statute_77 ka8 kb8 ?_
    refine v_aload_n hz rfl rfl dX12_statute_80 ?_
    refine v_getI hz fl_X12_130 rfl dX12_statute_81 ka8 kb8 ?_
    refine v_icmp_ne (tgt := 91) hz dX12_statute_84 (by decide) (fun hc => ?_) (fun hc => ?_)
    · replace h := (if_neg hc).symm.trans h
      refine v_iconst hz (v := (0 : Int32)) (by decide) dX12_statute_91 ?_
      exact v_weak (lvle_s (lvle_s (lvle_s (lvle_n (lvle_n lvle_0))))) (wX12_statute_92 hz  (fun h => hK29 h) h)
    · replace h := (if_pos hc).symm.trans h
      refine v_iconst hz (v := (1 : Int32)) (by decide) dX12_statute_87 ?_
      refine v_goto (tgt := 92) hz dX12_statute_88 (by decide) ?_
      exact v_weak (lvle_s (lvle_s (lvle_s (lvle_n (lvle_n lvle_0))))) (wX12_statute_92 hz  (fun h => hK29 h) h)
  · replace h := (if_pos hc).symm.trans h
    refine v_goto (tgt := 29) hz dX12_statute_70 (by decide) ?_
    exact v_weak (lvle_s (lvle_s (lvle_s (lvle_s (lvle_s lvle_0))))) (hK29 h)
set_option maxRecDepth 100000 in
set_option maxHeartbeats 4000000 in
theorem wX12_statute_64 {z : Zx} {fx : Fx} {al : Bool} {r : Nat} {N : Mem} {xr : Int32} (hz : Zok z fx al yX12_statute.cls yX12_statute.name cX12_statute (some .int) 5 (r + 30) 0 0 (some (.int xr)) N)  {K29 : Mem → Nat → Int32 → Int32 → Int32 → Int32 → Option (Int32 × Mem)} (hK29 : ∀ {M : Mem} {l0 : Nat} {l1 : Int32} {l2 : Int32} {l3 : Int32} {l4 : Int32}, K29 M l0 l1 l2 l3 l4 = some (xr, N) → V z 29 [some (.ref l0), some (.int l1), some (.int l2), some (.int l3), some (.int l4)] [] M 0 0) {M : Mem} {l0 : Nat} {l1 : Int32} {l2 : Int32} {l4 : Int32} (h : gX12_statute_64 K29 M l0 l1 l2 l4 = some (xr, N)) : V z 64 [some (.ref l0), some (.int l1), some (.int l2), none, some (.int l4)] [] M 0 0 := by
  unfold gX12_statute_64 at h
  refine v_iconst hz (v := (0 : Int32)) (by decide) dX12_statute_64 ?_
  exact v_weak (lvle_s (lvle_s (lvle_s (lvle_n (lvle_s lvle_0))))) (wX12_statute_65 hz  (fun h => hK29 h) h)
set_option maxRecDepth 100000 in
set_option maxHeartbeats 4000000 in
theorem gX12_statute_29_s  (n : Nat) (M : Mem) (l0 : Nat) (l1 : Int32) (l2 : Int32) (l3 : Int32) (l4 : Int32) : gX12_statute_29  (n + 1) M l0 l1 l2 l3 l4 = (if l3 = 0 then (gX12_statute_123 M l0 l1 l2 l4) else (if l4 = 0 then (if (10 : Int32) ≤ l2 then (gX12_statute_64 (gX12_statute_29 n) M l0 l1 l2 l4) else (ck (isK M l0 12) <| bd (fX12_isClause M l0 (((10 : Int32) * (mI M l0 14)) + l2)) fun x12 M12 => if x12 = 0 then (gX12_statute_64 (gX12_statute_29 n) M12 l0 l1 l2 l4) else (gX12_statute_65 (gX12_statute_29 n) M12 l0 l1 l2 l4 (1 : Int32)))) else (gX12_statute_123 M l0 l1 l2 l4))) := rfl
set_option maxRecDepth 100000 in
set_option maxHeartbeats 4000000 in
theorem wX12_statute_29 {z : Zx} {fx : Fx} {al : Bool} {r : Nat} {N : Mem} {xr : Int32} (hz : Zok z fx al yX12_statute.cls yX12_statute.name cX12_statute (some .int) 5 (r + 30) 0 0 (some (.int xr)) N)    : ∀ {n : Nat} {M : Mem} {l0 : Nat} {l1 : Int32} {l2 : Int32} {l3 : Int32} {l4 : Int32}, gX12_statute_29  n M l0 l1 l2 l3 l4 = some (xr, N) → V z 29 [some (.ref l0), some (.int l1), some (.int l2), some (.int l3), some (.int l4)] [] M 0 0 := by
  intro n
  induction n with
  | zero => intro M l0 l1 l2 l3 l4 h; cases h
  | succ n ih =>
    intro M l0 l1 l2 l3 l4 h
    replace h := (gX12_statute_29_s  n M l0 l1 l2 l3 l4).symm.trans h
    refine v_iload_n hz rfl rfl dX12_statute_29 ?_
    refine v_if_eq (tgt := 123) hz dX12_statute_30 (by decide) (fun hc => ?_) (fun hc => ?_)
    · replace h := (if_pos hc).symm.trans h
      exact v_weak (lvle_s (lvle_s (lvle_s (lvle_n (lvle_s lvle_0))))) (wX12_statute_123 hz   h)
    · replace h := (if_neg hc).symm.trans h
      refine v_iload hz rfl dX12_statute_33 ?_
      refine v_if_ne (tgt := 123) hz dX12_statute_35 (by decide) (fun hc => ?_) (fun hc => ?_)
      · replace h := (if_neg hc).symm.trans h
        exact v_weak (lvle_s (lvle_s (lvle_s (lvle_n (lvle_s lvle_0))))) (wX12_statute_123 hz   h)
      · replace h := (if_pos hc).symm.trans h
        refine v_iload_n hz rfl rfl dX12_statute_38 ?_
        refine v_bipush hz (v := (10 : Int32)) (by decide) dX12_statute_39 ?_
        refine v_icmp_ge (tgt := 64) hz dX12_statute_41 (by decide) (fun hc => ?_) (fun hc => ?_)
        · replace h := (if_pos hc).symm.trans h
          exact v_weak (lvle_s (lvle_s (lvle_s (lvle_n (lvle_s lvle_0))))) (wX12_statute_64 hz  (fun h => ih h) h)
        · replace h := (if_neg hc).symm.trans h
          refine v_aload_n hz rfl rfl dX12_statute_44 ?_
          refine v_bipush hz (v := (10 : Int32)) (by decide) dX12_statute_45 ?_
          refine v_aload_n hz rfl rfl dX12_statute_47 ?_
          obtain ⟨ck11, h⟩ := ck_inv h
          obtain ⟨ka11, kb11⟩ := isK_of ck11
          refine v_getI hz fl_X12_202 rfl dX12_statute_48 ka11 kb11 ?_
          refine v_imul hz dX12_statute_51 ?_
          refine v_iload_n hz rfl rfl dX12_statute_52 ?_
          refine v_iadd hz dX12_statute_53 ?_
          obtain ⟨x12, M12, e12, h⟩ := bd_inv h
          refine v_callV hz (As := [.int (((10 : Int32) * (mI M l0 14)) + l2)]) vl_X12_205 (tX12_isClause (r + 0) e12) rfl (by decide) ka11 kb11 rfl rfl rfl (Nat.le_of_ble_eq_true rfl) ⟨by decide, by decide⟩ dX12_statute_54 ?_
          show V z 57 [some (.ref l0), some (.int l1), some (.int l2), some (.int l3), some (.int l4)] [.int x12] M12 0 0
          refine v_if_eq (tgt := 64) hz dX12_statute_57 (by decide) (fun hc => ?_) (fun hc => ?_)
          · replace h := (if_pos hc).symm.trans h
            exact v_weak (lvle_s (lvle_s (lvle_s (lvle_n (lvle_s lvle_0))))) (wX12_statute_64 hz  (fun h => ih h) h)
          · replace h := (if_neg hc).symm.trans h
            refine v_iconst hz (v := (1 : Int32)) (by decide) dX12_statute_60 ?_
            refine v_goto (tgt := 65) hz dX12_statute_61 (by decide) ?_
            exact v_weak (lvle_s (lvle_s (lvle_s (lvle_n (lvle_s lvle_0))))) (wX12_statute_65 hz  (fun h => ih h) h)
set_option maxRecDepth 100000 in
set_option maxHeartbeats 4000000 in
theorem tX12_statute (r : Nat) {fx : Fx} {al : Bool} {M N : Mem} {a0 : Nat} {xr : Int32}  (h : fX12_statute M a0 = some (xr, N)) : Ct fx yX12_statute cX12_statute 5 (some .int) (r + 30) 0 0 al [.ref a0] M (some (.int xr)) N := by
  refine ct_of (lv := [some (.ref a0), none, none, none, none]) (by decide) (Nat.le_of_ble_eq_true rfl) rfl rfl (fun z hz => ?_)
  unfold fX12_statute at h
  refine v_aload_n hz rfl rfl dX12_statute_0 ?_
  obtain ⟨ck1, h⟩ := ck_inv h
  obtain ⟨ka1, kb1⟩ := isK_of ck1
  refine v_getI hz fl_X12_202 rfl dX12_statute_1 ka1 kb1 ?_
  refine v_bipush hz (v := (6 : Int32)) (by decide) dX12_statute_4 ?_
  refine v_icmp_ne (tgt := 12) hz dX12_statute_6 (by decide) (fun hc => ?_) (fun hc => ?_)
  · replace h := (if_neg hc).symm.trans h
    refine v_aload_n hz rfl rfl dX12_statute_12 ?_
    refine v_getI hz fl_X12_158 rfl dX12_statute_13 ka1 kb1 ?_
    refine v_istore_n hz (lw := [some (.ref a0), some (.int (mI M a0 22)), none, none, none]) rfl (Nat.le_of_ble_eq_true rfl) rfl rfl dX12_statute_16 ?_
    refine v_aload_n hz rfl rfl dX12_statute_17 ?_
    refine v_iconst hz (v := (0 : Int32)) (by decide) dX12_statute_18 ?_
    refine v_putI hz fl_X12_133 ft_12_10 (by decide) rfl rfl rfl dX12_statute_19 ka1 kb1 ?_
    refine v_iconst hz (v := (0 : Int32)) (by decide) dX12_statute_22 ?_
    refine v_istore_n hz (lw := [some (.ref a0), some (.int (mI M a0 22)), some (.int (0 : Int32)), none, none]) rfl (Nat.le_of_ble_eq_true rfl) rfl rfl dX12_statute_23 ?_
    refine v_iconst hz (v := (1 : Int32)) (by decide) dX12_statute_24 ?_
    refine v_istore_n hz (lw := [some (.ref a0), some (.int (mI M a0 22)), some (.int (0 : Int32)), some (.int (1 : Int32)), none]) rfl (Nat.le_of_ble_eq_true rfl) rfl rfl dX12_statute_25 ?_
    refine v_iconst hz (v := (0 : Int32)) (by decide) dX12_statute_26 ?_
    refine v_istore hz (lw := [some (.ref a0), some (.int (mI M a0 22)), some (.int (0 : Int32)), some (.int (1 : Int32)), some (.int (0 : Int32))]) (Nat.le_of_ble_eq_true rfl) rfl rfl dX12_statute_27 ?_
    exact v_weak (lvle_s (lvle_s (lvle_s (lvle_s (lvle_s lvle_0))))) (wX12_statute_29 hz   h)
  · replace h := (if_pos hc).symm.trans h
    refine v_bipush hz (v := (-4 : Int32)) (by decide) dX12_statute_9 ?_
    obtain ⟨rfl, rfl⟩ := sp_inv h
    exact v_iret hz dX12_statute_11 (by decide) (by decide)
noncomputable def fX12_held (M : Mem) (a0 : Int32) : Option (Int32 × Mem) :=
  some ((if (0 : Int32) < (if a0 < (99 : Int32) then a0 else (99 : Int32)) then (if a0 < (99 : Int32) then a0 else (99 : Int32)) else (0 : Int32)), M)
set_option maxRecDepth 100000 in
set_option maxHeartbeats 4000000 in
theorem tX12_held (r : Nat) {fx : Fx} {al : Bool} {M N : Mem} {a0 : Int32} {xr : Int32}  (h : fX12_held M a0 = some (xr, N)) : Ct fx yX12_held cX12_held 1 (some .int) (r + 1) 0 0 al [.int a0] M (some (.int xr)) N := by
  refine ct_of (lv := [some (.int a0)]) (by decide) (Nat.le_of_ble_eq_true rfl) rfl rfl (fun z hz => ?_)
  unfold fX12_held at h
  refine v_iconst hz (v := (0 : Int32)) (by decide) dX12_held_0 ?_
  refine v_bipush hz (v := (99 : Int32)) (by decide) dX12_held_1 ?_
  refine v_iload_n hz rfl rfl dX12_held_3 ?_
  refine v_mmin hz ml_X12_230 rfl (Nat.le_of_ble_eq_true rfl) (by decide) (by decide) dX12_held_4 ?_
  refine v_mmax hz ml_X12_235 rfl (Nat.le_of_ble_eq_true rfl) (by decide) (by decide) dX12_held_7 ?_
  obtain ⟨rfl, rfl⟩ := sp_inv h
  exact v_iret hz dX12_held_10 (by decide) (by decide)
noncomputable def gX12_goesHour_93  : Nat → Mem → Nat → Int32 → Option (Unit × Mem)
  | 0, _, _, _ => none
  | n + 1, M, l0, l1 => if (25 : Int32) ≤ l1 then (some ((), M)) else (ck (isK M l0 12) <| rb (mR M l0 0) fun b3 => ck (isK M b3 14) <| ck (inb l1 (mG M b3)) <| bd (fX12_held M ((mI M b3 l1.toNatClampNeg) - (1 : Int32))) fun x6 M6 => ck (isK M6 b3 14) <| ck (inb l1 (mG M6 b3)) <| (gX12_goesHour_93 n) (stI M6 b3 l1.toNatClampNeg x6) l0 (l1 + (1 : Int32)))
noncomputable def gX12_goesHour_65 (K2 : Mem → Nat → Int32 → Option (Unit × Mem)) (M : Mem) (l0 : Nat) (l1 : Int32) : Option (Unit × Mem) :=
  K2 M l0 (l1 + (1 : Int32))
noncomputable def gX12_goesHour_2  : Nat → Mem → Nat → Int32 → Option (Unit × Mem)
  | 0, _, _, _ => none
  | n + 1, M, l0, l1 => ck (isK M l0 12) <| if (mI M l0 1) ≤ l1 then (if ((mI (stI M l0 7 ((mI M l0 7) + (1 : Int32))) l0 7) - (mI (stI M l0 7 ((mI M l0 7) + (1 : Int32))) l0 7) / (10 : Int32) * (10 : Int32)) = 0 then (gX12_goesHour_93 FU (stI M l0 7 ((mI M l0 7) + (1 : Int32))) l0 (0 : Int32)) else (some ((), (stI M l0 7 ((mI M l0 7) + (1 : Int32)))))) else (rb (mR M l0 5) fun b9 => ck (isK M b9 14) <| ck (inb l1 (mG M b9)) <| if (mI M b9 l1.toNatClampNeg) = (1 : Int32) then (gX12_goesHour_65 (gX12_goesHour_2 n) M l0 l1) else (rb (mR M l0 4) fun b12 => bd (fX12_sent M l0 l1) fun x13 M13 => ck (isK M13 b12 14) <| ck (inb l1 (mG M13 b12)) <| ck (isK M13 l0 12) <| rb (mR (stI M13 b12 l1.toNatClampNeg x13) l0 0) fun b17 => rb (mR (stI M13 b12 l1.toNatClampNeg x13) l0 4) fun b18 => ck (isK M13 b18 14) <| ck (inb l1 (mG M13 b18)) <| ck (inb l1 (mG M13 b18)) <| ck (isK M13 b17 14) <| ck (inb (mI (stI M13 b12 l1.toNatClampNeg x13) b18 l1.toNatClampNeg) (mG M13 b17)) <| bd (fX12_tread (stI M13 b12 l1.toNatClampNeg x13) l0 l1) fun x24 M24 => bd (fX12_held M24 ((mI (stI M13 b12 l1.toNatClampNeg x13) b17 (mI (stI M13 b12 l1.toNatClampNeg x13) b18 l1.toNatClampNeg).toNatClampNeg) + x24)) fun x25 M25 => ck (isK M25 b17 14) <| ck (inb (mI (stI M13 b12 l1.toNatClampNeg x13) b18 l1.toNatClampNeg) (mG M25 b17)) <| gX12_goesHour_65 (gX12_goesHour_2 n) (stI M25 b17 (mI (stI M13 b12 l1.toNatClampNeg x13) b18 l1.toNatClampNeg).toNatClampNeg x25) l0 l1))
noncomputable def fX12_goesHour (M : Mem) (a0 : Nat) : Option (Unit × Mem) :=
  gX12_goesHour_2 FU M a0 (0 : Int32)
set_option maxRecDepth 100000 in
set_option maxHeartbeats 4000000 in
theorem gX12_goesHour_93_s  (n : Nat) (M : Mem) (l0 : Nat) (l1 : Int32) : gX12_goesHour_93  (n + 1) M l0 l1 = (if (25 : Int32) ≤ l1 then (some ((), M)) else (ck (isK M l0 12) <| rb (mR M l0 0) fun b3 => ck (isK M b3 14) <| ck (inb l1 (mG M b3)) <| bd (fX12_held M ((mI M b3 l1.toNatClampNeg) - (1 : Int32))) fun x6 M6 => ck (isK M6 b3 14) <| ck (inb l1 (mG M6 b3)) <| (gX12_goesHour_93 n) (stI M6 b3 l1.toNatClampNeg x6) l0 (l1 + (1 : Int32)))) := rfl
set_option maxRecDepth 100000 in
set_option maxHeartbeats 4000000 in
theorem wX12_goesHour_93 {z : Zx} {fx : Fx} {al : Bool} {r : Nat} {N : Mem} (hz : Zok z fx al yX12_goesHour.cls yX12_goesHour.name cX12_goesHour none 2 (r + 5) 0 0 none N)    : ∀ {n : Nat} {M : Mem} {l0 : Nat} {l1 : Int32}, gX12_goesHour_93  n M l0 l1 = some ((), N) → V z 93 [some (.ref l0), some (.int l1)] [] M 0 0 := by
  intro n
  induction n with
  | zero => intro M l0 l1 h; cases h
  | succ n ih =>
    intro M l0 l1 h
    replace h := (gX12_goesHour_93_s  n M l0 l1).symm.trans h
    refine v_iload_n hz rfl rfl dX12_goesHour_93 ?_
    refine v_bipush hz (v := (25 : Int32)) (by decide) dX12_goesHour_94 ?_
    refine v_icmp_ge (tgt := 122) hz dX12_goesHour_96 (by decide) (fun hc => ?_) (fun hc => ?_)
    · replace h := (if_pos hc).symm.trans h
      obtain ⟨-, rfl⟩ := sp_inv h
      exact v_vret hz dX12_goesHour_122 (by decide) (by decide)
    · replace h := (if_neg hc).symm.trans h
      refine v_aload_n hz rfl rfl dX12_goesHour_99 ?_
      obtain ⟨ck2, h⟩ := ck_inv h
      obtain ⟨ka2, kb2⟩ := isK_of ck2
      obtain ⟨b3, r3, h⟩ := rb_inv h
      refine v_getR hz fl_X12_9 rfl dX12_goesHour_100 ka2 kb2 r3 ?_
      refine v_iload_n hz rfl rfl dX12_goesHour_103 ?_
      refine v_aload_n hz rfl rfl dX12_goesHour_104 ?_
      refine v_getR hz fl_X12_9 rfl dX12_goesHour_105 ka2 kb2 r3 ?_
      refine v_iload_n hz rfl rfl dX12_goesHour_108 ?_
      obtain ⟨ck4, h⟩ := ck_inv h
      obtain ⟨ka4, kb4⟩ := isK_of ck4
      obtain ⟨g5, h⟩ := ck_inv h
      refine v_iaload hz dX12_goesHour_109 ka4 kb4 g5 ?_
      refine v_iconst hz (v := (1 : Int32)) (by decide) dX12_goesHour_110 ?_
      refine v_isub hz dX12_goesHour_111 ?_
      obtain ⟨x6, M6, e6, h⟩ := bd_inv h
      refine v_callS hz (As := [.int ((mI M b3 l1.toNatClampNeg) - (1 : Int32))]) sl_X12_238 (tX12_held (r + 3) e6) rfl rfl rfl (Nat.le_of_ble_eq_true rfl) ⟨by decide, by decide⟩ dX12_goesHour_112 ?_
      show V z 115 [some (.ref l0), some (.int l1)] [.int x6, .int l1, .ref b3] M6 0 0
      obtain ⟨ck7, h⟩ := ck_inv h
      obtain ⟨ka7, kb7⟩ := isK_of ck7
      obtain ⟨g8, h⟩ := ck_inv h
      refine v_iastore hz dX12_goesHour_115 ka7 kb7 g8 ?_
      refine v_iinc hz (v := (l1 + (1 : Int32))) (lw := [some (.ref l0), some (.int (l1 + (1 : Int32)))]) rfl (congrArg (fun q => l1 + q) (show Int32.ofInt (1) = (1 : Int32) by decide)) rfl rfl dX12_goesHour_116 ?_
      refine v_goto (tgt := 93) hz dX12_goesHour_119 (by decide) ?_
      exact v_weak (lvle_s (lvle_s lvle_0)) (ih h)
set_option maxRecDepth 100000 in
set_option maxHeartbeats 4000000 in
theorem wX12_goesHour_65 {z : Zx} {fx : Fx} {al : Bool} {r : Nat} {N : Mem} (hz : Zok z fx al yX12_goesHour.cls yX12_goesHour.name cX12_goesHour none 2 (r + 5) 0 0 none N)  {K2 : Mem → Nat → Int32 → Option (Unit × Mem)} (hK2 : ∀ {M : Mem} {l0 : Nat} {l1 : Int32}, K2 M l0 l1 = some ((), N) → V z 2 [some (.ref l0), some (.int l1)] [] M 0 0) {M : Mem} {l0 : Nat} {l1 : Int32} (h : gX12_goesHour_65 K2 M l0 l1 = some ((), N)) : V z 65 [some (.ref l0), some (.int l1)] [] M 0 0 := by
  unfold gX12_goesHour_65 at h
  refine v_iinc hz (v := (l1 + (1 : Int32))) (lw := [some (.ref l0), some (.int (l1 + (1 : Int32)))]) rfl (congrArg (fun q => l1 + q) (show Int32.ofInt (1) = (1 : Int32) by decide)) rfl rfl dX12_goesHour_65 ?_
  refine v_goto (tgt := 2) hz dX12_goesHour_68 (by decide) ?_
  exact v_weak (lvle_s (lvle_s lvle_0)) (hK2 h)
set_option maxRecDepth 100000 in
set_option maxHeartbeats 4000000 in
theorem gX12_goesHour_2_s  (n : Nat) (M : Mem) (l0 : Nat) (l1 : Int32) : gX12_goesHour_2  (n + 1) M l0 l1 = (ck (isK M l0 12) <| if (mI M l0 1) ≤ l1 then (if ((mI (stI M l0 7 ((mI M l0 7) + (1 : Int32))) l0 7) - (mI (stI M l0 7 ((mI M l0 7) + (1 : Int32))) l0 7) / (10 : Int32) * (10 : Int32)) = 0 then (gX12_goesHour_93 FU (stI M l0 7 ((mI M l0 7) + (1 : Int32))) l0 (0 : Int32)) else (some ((), (stI M l0 7 ((mI M l0 7) + (1 : Int32)))))) else (rb (mR M l0 5) fun b9 => ck (isK M b9 14) <| ck (inb l1 (mG M b9)) <| if (mI M b9 l1.toNatClampNeg) = (1 : Int32) then (gX12_goesHour_65 (gX12_goesHour_2 n) M l0 l1) else (rb (mR M l0 4) fun b12 => bd (fX12_sent M l0 l1) fun x13 M13 => ck (isK M13 b12 14) <| ck (inb l1 (mG M13 b12)) <| ck (isK M13 l0 12) <| rb (mR (stI M13 b12 l1.toNatClampNeg x13) l0 0) fun b17 => rb (mR (stI M13 b12 l1.toNatClampNeg x13) l0 4) fun b18 => ck (isK M13 b18 14) <| ck (inb l1 (mG M13 b18)) <| ck (inb l1 (mG M13 b18)) <| ck (isK M13 b17 14) <| ck (inb (mI (stI M13 b12 l1.toNatClampNeg x13) b18 l1.toNatClampNeg) (mG M13 b17)) <| bd (fX12_tread (stI M13 b12 l1.toNatClampNeg x13) l0 l1) fun x24 M24 => bd (fX12_held M24 ((mI (stI M13 b12 l1.toNatClampNeg x13) b17 (mI (stI M13 b12 l1.toNatClampNeg x13) b18 l1.toNatClampNeg).toNatClampNeg) + x24)) fun x25 M25 => ck (isK M25 b17 14) <| ck (inb (mI (stI M13 b12 l1.toNatClampNeg x13) b18 l1.toNatClampNeg) (mG M25 b17)) <| gX12_goesHour_65 (gX12_goesHour_2 n) (stI M25 b17 (mI (stI M13 b12 l1.toNatClampNeg x13) b18 l1.toNatClampNeg).toNatClampNeg x25) l0 l1))) := rfl
set_option maxRecDepth 100000 in
set_option maxHeartbeats 4000000 in
theorem wX12_goesHour_2 {z : Zx} {fx : Fx} {al : Bool} {r : Nat} {N : Mem} (hz : Zok z fx al yX12_goesHour.cls yX12_goesHour.name cX12_goesHour none 2 (r + 5) 0 0 none N)    : ∀ {n : Nat} {M : Mem} {l0 : Nat} {l1 : Int32}, gX12_goesHour_2  n M l0 l1 = some ((), N) → V z 2 [some (.ref l0), some (.int l1)] [] M 0 0 := by
  intro n
  induction n with
  | zero => intro M l0 l1 h; cases h
  | succ n ih =>
    intro M l0 l1 h
    replace h := (gX12_goesHour_2_s  n M l0 l1).symm.trans h
    refine v_iload_n hz rfl rfl dX12_goesHour_2 ?_
    refine v_aload_n hz rfl rfl dX12_goesHour_3 ?_
    obtain ⟨ck1, h⟩ := ck_inv h
    obtain ⟨ka1, kb1⟩ := isK_of ck1
    refine v_getI hz fl_X12_105 rfl dX12_goesHour_4 ka1 kb1 ?_
    refine v_icmp_ge (tgt := 71) hz dX12_goesHour_7 (by decide) (fun hc => ?_) (fun hc => ?_)
    · replace h := (if_pos hc).symm.trans h
      refine v_aload_n hz rfl rfl dX12_goesHour_71 ?_
      refine v_dup hz rfl dX12_goesHour_72 ?_
      refine v_getI hz fl_X12_208 rfl dX12_goesHour_73 ka1 kb1 ?_
      refine v_iconst hz (v := (1 : Int32)) (by decide) dX12_goesHour_76 ?_
      refine v_iadd hz dX12_goesHour_77 ?_
      refine v_putI hz fl_X12_208 ft_12_7 (by decide) rfl rfl rfl dX12_goesHour_78 ka1 kb1 ?_
      refine v_aload_n hz rfl rfl dX12_goesHour_81 ?_
      refine v_getI hz fl_X12_208 rfl dX12_goesHour_82 ka1 kb1 ?_
      refine v_bipush hz (v := (10 : Int32)) (by decide) dX12_goesHour_85 ?_
      refine v_irem hz (by decide) dX12_goesHour_87 ?_
      refine v_if_ne (tgt := 122) hz dX12_goesHour_88 (by decide) (fun hc => ?_) (fun hc => ?_)
      · replace h := (if_neg hc).symm.trans h
        obtain ⟨-, rfl⟩ := sp_inv h
        exact v_vret hz dX12_goesHour_122 (by decide) (by decide)
      · replace h := (if_pos hc).symm.trans h
        refine v_iconst hz (v := (0 : Int32)) (by decide) dX12_goesHour_91 ?_
        refine v_istore_n hz (lw := [some (.ref l0), some (.int (0 : Int32))]) rfl (Nat.le_of_ble_eq_true rfl) rfl rfl dX12_goesHour_92 ?_
        exact v_weak (lvle_s (lvle_s lvle_0)) (wX12_goesHour_93 hz   h)
    · replace h := (if_neg hc).symm.trans h
      refine v_aload_n hz rfl rfl dX12_goesHour_10 ?_
      obtain ⟨b9, r9, h⟩ := rb_inv h
      refine v_getR hz fl_X12_24 rfl dX12_goesHour_11 ka1 kb1 r9 ?_
      refine v_iload_n hz rfl rfl dX12_goesHour_14 ?_
      obtain ⟨ck10, h⟩ := ck_inv h
      obtain ⟨ka10, kb10⟩ := isK_of ck10
      obtain ⟨g11, h⟩ := ck_inv h
      refine v_iaload hz dX12_goesHour_15 ka10 kb10 g11 ?_
      refine v_iconst hz (v := (1 : Int32)) (by decide) dX12_goesHour_16 ?_
      refine v_icmp_ne (tgt := 23) hz dX12_goesHour_17 (by decide) (fun hc => ?_) (fun hc => ?_)
      · replace h := (if_neg hc).symm.trans h
        refine v_aload_n hz rfl rfl dX12_goesHour_23 ?_
        obtain ⟨b12, r12, h⟩ := rb_inv h
        refine v_getR hz fl_X12_21 rfl dX12_goesHour_24 ka1 kb1 r12 ?_
        refine v_iload_n hz rfl rfl dX12_goesHour_27 ?_
        refine v_aload_n hz rfl rfl dX12_goesHour_28 ?_
        refine v_iload_n hz rfl rfl dX12_goesHour_29 ?_
        obtain ⟨x13, M13, e13, h⟩ := bd_inv h
        refine v_callV hz (As := [.int l1]) vl_X12_119 (tX12_sent (r + 0) e13) rfl (by decide) ka1 kb1 rfl rfl rfl (Nat.le_of_ble_eq_true rfl) ⟨by decide, by decide⟩ dX12_goesHour_30 ?_
        show V z 33 [some (.ref l0), some (.int l1)] [.int x13, .int l1, .ref b12] M13 0 0
        obtain ⟨ck14, h⟩ := ck_inv h
        obtain ⟨ka14, kb14⟩ := isK_of ck14
        obtain ⟨g15, h⟩ := ck_inv h
        refine v_iastore hz dX12_goesHour_33 ka14 kb14 g15 ?_
        refine v_aload_n hz rfl rfl dX12_goesHour_34 ?_
        obtain ⟨ck16, h⟩ := ck_inv h
        obtain ⟨ka16, kb16⟩ := isK_of ck16
        obtain ⟨b17, r17, h⟩ := rb_inv h
        refine v_getR hz fl_X12_9 rfl dX12_goesHour_35 ka16 kb16 r17 ?_
        refine v_aload_n hz rfl rfl dX12_goesHour_38 ?_
        obtain ⟨b18, r18, h⟩ := rb_inv h
        refine v_getR hz fl_X12_21 rfl dX12_goesHour_39 ka16 kb16 r18 ?_
        refine v_iload_n hz rfl rfl dX12_goesHour_42 ?_
        obtain ⟨ck19, h⟩ := ck_inv h
        obtain ⟨ka19, kb19⟩ := isK_of ck19
        obtain ⟨g20, h⟩ := ck_inv h
        refine v_iaload hz dX12_goesHour_43 ka19 kb19 g20 ?_
        refine v_aload_n hz rfl rfl dX12_goesHour_44 ?_
        refine v_getR hz fl_X12_9 rfl dX12_goesHour_45 ka16 kb16 r17 ?_
        refine v_aload_n hz rfl rfl dX12_goesHour_48 ?_
        refine v_getR hz fl_X12_21 rfl dX12_goesHour_49 ka16 kb16 r18 ?_
        refine v_iload_n hz rfl rfl dX12_goesHour_52 ?_
        obtain ⟨g21, h⟩ := ck_inv h
        refine v_iaload hz dX12_goesHour_53 ka19 kb19 g21 ?_
        obtain ⟨ck22, h⟩ := ck_inv h
        obtain ⟨ka22, kb22⟩ := isK_of ck22
        obtain ⟨g23, h⟩ := ck_inv h
        refine v_iaload hz dX12_goesHour_54 ka22 kb22 g23 ?_
        refine v_aload_n hz rfl rfl dX12_goesHour_55 ?_
        refine v_iload_n hz rfl rfl dX12_goesHour_56 ?_
        obtain ⟨x24, M24, e24, h⟩ := bd_inv h
        refine v_callV hz (As := [.int l1]) vl_X12_123 (tX12_tread (r + 4) e24) rfl (by decide) ka16 kb16 rfl rfl rfl (Nat.le_of_ble_eq_true rfl) ⟨by decide, by decide⟩ dX12_goesHour_57 ?_
        show V z 60 [some (.ref l0), some (.int l1)] [.int x24, .int (mI (stI M13 b12 l1.toNatClampNeg x13) b17 (mI (stI M13 b12 l1.toNatClampNeg x13) b18 l1.toNatClampNeg).toNatClampNeg), .int (mI (stI M13 b12 l1.toNatClampNeg x13) b18 l1.toNatClampNeg), .ref b17] M24 0 0
        refine v_iadd hz dX12_goesHour_60 ?_
        obtain ⟨x25, M25, e25, h⟩ := bd_inv h
        refine v_callS hz (As := [.int ((mI (stI M13 b12 l1.toNatClampNeg x13) b17 (mI (stI M13 b12 l1.toNatClampNeg x13) b18 l1.toNatClampNeg).toNatClampNeg) + x24)]) sl_X12_238 (tX12_held (r + 3) e25) rfl rfl rfl (Nat.le_of_ble_eq_true rfl) ⟨by decide, by decide⟩ dX12_goesHour_61 ?_
        show V z 64 [some (.ref l0), some (.int l1)] [.int x25, .int (mI (stI M13 b12 l1.toNatClampNeg x13) b18 l1.toNatClampNeg), .ref b17] M25 0 0
        obtain ⟨ck26, h⟩ := ck_inv h
        obtain ⟨ka26, kb26⟩ := isK_of ck26
        obtain ⟨g27, h⟩ := ck_inv h
        refine v_iastore hz dX12_goesHour_64 ka26 kb26 g27 ?_
        exact v_weak (lvle_s (lvle_s lvle_0)) (wX12_goesHour_65 hz  (fun h => ih h) h)
      · replace h := (if_pos hc).symm.trans h
        refine v_goto (tgt := 65) hz dX12_goesHour_20 (by decide) ?_
        exact v_weak (lvle_s (lvle_s lvle_0)) (wX12_goesHour_65 hz  (fun h => ih h) h)
set_option maxRecDepth 100000 in
set_option maxHeartbeats 4000000 in
theorem tX12_goesHour (r : Nat) {fx : Fx} {al : Bool} {M N : Mem} {a0 : Nat}  (h : fX12_goesHour M a0 = some ((), N)) : Ct fx yX12_goesHour cX12_goesHour 2 none (r + 5) 0 0 al [.ref a0] M none N := by
  refine ct_of (lv := [some (.ref a0), none]) (by decide) (Nat.le_of_ble_eq_true rfl) rfl rfl (fun z hz => ?_)
  unfold fX12_goesHour at h
  refine v_iconst hz (v := (0 : Int32)) (by decide) dX12_goesHour_0 ?_
  refine v_istore_n hz (lw := [some (.ref a0), some (.int (0 : Int32))]) rfl (Nat.le_of_ble_eq_true rfl) rfl rfl dX12_goesHour_1 ?_
  exact v_weak (lvle_s (lvle_s lvle_0)) (wX12_goesHour_2 hz   h)
noncomputable def gX12_balds_21 (K4 : Mem → Nat → Int32 → Int32 → Option (Int32 × Mem)) (M : Mem) (l0 : Nat) (l1 : Int32) (l2 : Int32) : Option (Int32 × Mem) :=
  K4 M l0 l1 (l2 + (1 : Int32))
noncomputable def gX12_balds_4  : Nat → Mem → Nat → Int32 → Int32 → Option (Int32 × Mem)
  | 0, _, _, _, _ => none
  | n + 1, M, l0, l1, l2 => if (25 : Int32) ≤ l2 then (some (l1, M)) else (ck (isK M l0 12) <| bd (fX12_isBald M l0 l2) fun x2 M2 => if x2 = 0 then (gX12_balds_21 (gX12_balds_4 n) M2 l0 l1 l2) else (gX12_balds_21 (gX12_balds_4 n) M2 l0 (l1 + (1 : Int32)) l2))
noncomputable def fX12_balds (M : Mem) (a0 : Nat) : Option (Int32 × Mem) :=
  gX12_balds_4 FU M a0 (0 : Int32) (0 : Int32)
set_option maxRecDepth 100000 in
set_option maxHeartbeats 4000000 in
theorem wX12_balds_21 {z : Zx} {fx : Fx} {al : Bool} {r : Nat} {N : Mem} {xr : Int32} (hz : Zok z fx al yX12_balds.cls yX12_balds.name cX12_balds (some .int) 3 (r + 2) 0 0 (some (.int xr)) N)  {K4 : Mem → Nat → Int32 → Int32 → Option (Int32 × Mem)} (hK4 : ∀ {M : Mem} {l0 : Nat} {l1 : Int32} {l2 : Int32}, K4 M l0 l1 l2 = some (xr, N) → V z 4 [some (.ref l0), some (.int l1), some (.int l2)] [] M 0 0) {M : Mem} {l0 : Nat} {l1 : Int32} {l2 : Int32} (h : gX12_balds_21 K4 M l0 l1 l2 = some (xr, N)) : V z 21 [some (.ref l0), some (.int l1), some (.int l2)] [] M 0 0 := by
  unfold gX12_balds_21 at h
  refine v_iinc hz (v := (l2 + (1 : Int32))) (lw := [some (.ref l0), some (.int l1), some (.int (l2 + (1 : Int32)))]) rfl (congrArg (fun q => l2 + q) (show Int32.ofInt (1) = (1 : Int32) by decide)) rfl rfl dX12_balds_21 ?_
  refine v_goto (tgt := 4) hz dX12_balds_24 (by decide) ?_
  exact v_weak (lvle_s (lvle_s (lvle_s lvle_0))) (hK4 h)
set_option maxRecDepth 100000 in
set_option maxHeartbeats 4000000 in
theorem gX12_balds_4_s  (n : Nat) (M : Mem) (l0 : Nat) (l1 : Int32) (l2 : Int32) : gX12_balds_4  (n + 1) M l0 l1 l2 = (if (25 : Int32) ≤ l2 then (some (l1, M)) else (ck (isK M l0 12) <| bd (fX12_isBald M l0 l2) fun x2 M2 => if x2 = 0 then (gX12_balds_21 (gX12_balds_4 n) M2 l0 l1 l2) else (gX12_balds_21 (gX12_balds_4 n) M2 l0 (l1 + (1 : Int32)) l2))) := rfl
set_option maxRecDepth 100000 in
set_option maxHeartbeats 4000000 in
theorem wX12_balds_4 {z : Zx} {fx : Fx} {al : Bool} {r : Nat} {N : Mem} {xr : Int32} (hz : Zok z fx al yX12_balds.cls yX12_balds.name cX12_balds (some .int) 3 (r + 2) 0 0 (some (.int xr)) N)    : ∀ {n : Nat} {M : Mem} {l0 : Nat} {l1 : Int32} {l2 : Int32}, gX12_balds_4  n M l0 l1 l2 = some (xr, N) → V z 4 [some (.ref l0), some (.int l1), some (.int l2)] [] M 0 0 := by
  intro n
  induction n with
  | zero => intro M l0 l1 l2 h; cases h
  | succ n ih =>
    intro M l0 l1 l2 h
    replace h := (gX12_balds_4_s  n M l0 l1 l2).symm.trans h
    refine v_iload_n hz rfl rfl dX12_balds_4 ?_
    refine v_bipush hz (v := (25 : Int32)) (by decide) dX12_balds_5 ?_
    refine v_icmp_ge (tgt := 27) hz dX12_balds_7 (by decide) (fun hc => ?_) (fun hc => ?_)
    · replace h := (if_pos hc).symm.trans h
      refine v_iload_n hz rfl rfl dX12_balds_27 ?_
      obtain ⟨rfl, rfl⟩ := sp_inv h
      exact v_iret hz dX12_balds_28 (by decide) (by decide)
    · replace h := (if_neg hc).symm.trans h
      refine v_aload_n hz rfl rfl dX12_balds_10 ?_
      refine v_iload_n hz rfl rfl dX12_balds_11 ?_
      obtain ⟨ck1, h⟩ := ck_inv h
      obtain ⟨ka1, kb1⟩ := isK_of ck1
      obtain ⟨x2, M2, e2, h⟩ := bd_inv h
      refine v_callV hz (As := [.int l2]) vl_X12_227 (tX12_isBald (r + 0) e2) rfl (by decide) ka1 kb1 rfl rfl rfl (Nat.le_of_ble_eq_true rfl) ⟨by decide, by decide⟩ dX12_balds_12 ?_
      show V z 15 [some (.ref l0), some (.int l1), some (.int l2)] [.int x2] M2 0 0
      refine v_if_eq (tgt := 21) hz dX12_balds_15 (by decide) (fun hc => ?_) (fun hc => ?_)
      · replace h := (if_pos hc).symm.trans h
        exact v_weak (lvle_s (lvle_s (lvle_s lvle_0))) (wX12_balds_21 hz  (fun h => ih h) h)
      · replace h := (if_neg hc).symm.trans h
        refine v_iinc hz (v := (l1 + (1 : Int32))) (lw := [some (.ref l0), some (.int (l1 + (1 : Int32))), some (.int l2)]) rfl (congrArg (fun q => l1 + q) (show Int32.ofInt (1) = (1 : Int32) by decide)) rfl rfl dX12_balds_18 ?_
        exact v_weak (lvle_s (lvle_s (lvle_s lvle_0))) (wX12_balds_21 hz  (fun h => ih h) h)
set_option maxRecDepth 100000 in
set_option maxHeartbeats 4000000 in
theorem tX12_balds (r : Nat) {fx : Fx} {al : Bool} {M N : Mem} {a0 : Nat} {xr : Int32}  (h : fX12_balds M a0 = some (xr, N)) : Ct fx yX12_balds cX12_balds 3 (some .int) (r + 2) 0 0 al [.ref a0] M (some (.int xr)) N := by
  refine ct_of (lv := [some (.ref a0), none, none]) (by decide) (Nat.le_of_ble_eq_true rfl) rfl rfl (fun z hz => ?_)
  unfold fX12_balds at h
  refine v_iconst hz (v := (0 : Int32)) (by decide) dX12_balds_0 ?_
  refine v_istore_n hz (lw := [some (.ref a0), some (.int (0 : Int32)), none]) rfl (Nat.le_of_ble_eq_true rfl) rfl rfl dX12_balds_1 ?_
  refine v_iconst hz (v := (0 : Int32)) (by decide) dX12_balds_2 ?_
  refine v_istore_n hz (lw := [some (.ref a0), some (.int (0 : Int32)), some (.int (0 : Int32))]) rfl (Nat.le_of_ble_eq_true rfl) rfl rfl dX12_balds_3 ?_
  exact v_weak (lvle_s (lvle_s (lvle_s lvle_0))) (wX12_balds_4 hz   h)
noncomputable def gX12_allWear_4  : Nat → Mem → Nat → Int32 → Int32 → Option (Int32 × Mem)
  | 0, _, _, _, _ => none
  | n + 1, M, l0, l1, l2 => if (25 : Int32) ≤ l2 then (some (l1, M)) else (ck (isK M l0 12) <| rb (mR M l0 0) fun b2 => ck (isK M b2 14) <| ck (inb l2 (mG M b2)) <| (gX12_allWear_4 n) M l0 (l1 + (mI M b2 l2.toNatClampNeg)) (l2 + (1 : Int32)))
noncomputable def fX12_allWear (M : Mem) (a0 : Nat) : Option (Int32 × Mem) :=
  gX12_allWear_4 FU M a0 (0 : Int32) (0 : Int32)
set_option maxRecDepth 100000 in
set_option maxHeartbeats 4000000 in
theorem gX12_allWear_4_s  (n : Nat) (M : Mem) (l0 : Nat) (l1 : Int32) (l2 : Int32) : gX12_allWear_4  (n + 1) M l0 l1 l2 = (if (25 : Int32) ≤ l2 then (some (l1, M)) else (ck (isK M l0 12) <| rb (mR M l0 0) fun b2 => ck (isK M b2 14) <| ck (inb l2 (mG M b2)) <| (gX12_allWear_4 n) M l0 (l1 + (mI M b2 l2.toNatClampNeg)) (l2 + (1 : Int32)))) := rfl
set_option maxRecDepth 100000 in
set_option maxHeartbeats 4000000 in
theorem wX12_allWear_4 {z : Zx} {fx : Fx} {al : Bool} {r : Nat} {N : Mem} {xr : Int32} (hz : Zok z fx al yX12_allWear.cls yX12_allWear.name cX12_allWear (some .int) 3 (r + 0) 0 0 (some (.int xr)) N)    : ∀ {n : Nat} {M : Mem} {l0 : Nat} {l1 : Int32} {l2 : Int32}, gX12_allWear_4  n M l0 l1 l2 = some (xr, N) → V z 4 [some (.ref l0), some (.int l1), some (.int l2)] [] M 0 0 := by
  intro n
  induction n with
  | zero => intro M l0 l1 l2 h; cases h
  | succ n ih =>
    intro M l0 l1 l2 h
    replace h := (gX12_allWear_4_s  n M l0 l1 l2).symm.trans h
    refine v_iload_n hz rfl rfl dX12_allWear_4 ?_
    refine v_bipush hz (v := (25 : Int32)) (by decide) dX12_allWear_5 ?_
    refine v_icmp_ge (tgt := 25) hz dX12_allWear_7 (by decide) (fun hc => ?_) (fun hc => ?_)
    · replace h := (if_pos hc).symm.trans h
      refine v_iload_n hz rfl rfl dX12_allWear_25 ?_
      obtain ⟨rfl, rfl⟩ := sp_inv h
      exact v_iret hz dX12_allWear_26 (by decide) (by decide)
    · replace h := (if_neg hc).symm.trans h
      refine v_iload_n hz rfl rfl dX12_allWear_10 ?_
      refine v_aload_n hz rfl rfl dX12_allWear_11 ?_
      obtain ⟨ck1, h⟩ := ck_inv h
      obtain ⟨ka1, kb1⟩ := isK_of ck1
      obtain ⟨b2, r2, h⟩ := rb_inv h
      refine v_getR hz fl_X12_9 rfl dX12_allWear_12 ka1 kb1 r2 ?_
      refine v_iload_n hz rfl rfl dX12_allWear_15 ?_
      obtain ⟨ck3, h⟩ := ck_inv h
      obtain ⟨ka3, kb3⟩ := isK_of ck3
      obtain ⟨g4, h⟩ := ck_inv h
      refine v_iaload hz dX12_allWear_16 ka3 kb3 g4 ?_
      refine v_iadd hz dX12_allWear_17 ?_
      refine v_istore_n hz (lw := [some (.ref l0), some (.int (l1 + (mI M b2 l2.toNatClampNeg))), some (.int l2)]) rfl (Nat.le_of_ble_eq_true rfl) rfl rfl dX12_allWear_18 ?_
      refine v_iinc hz (v := (l2 + (1 : Int32))) (lw := [some (.ref l0), some (.int (l1 + (mI M b2 l2.toNatClampNeg))), some (.int (l2 + (1 : Int32)))]) rfl (congrArg (fun q => l2 + q) (show Int32.ofInt (1) = (1 : Int32) by decide)) rfl rfl dX12_allWear_19 ?_
      refine v_goto (tgt := 4) hz dX12_allWear_22 (by decide) ?_
      exact v_weak (lvle_s (lvle_s (lvle_s lvle_0))) (ih h)
set_option maxRecDepth 100000 in
set_option maxHeartbeats 4000000 in
theorem tX12_allWear (r : Nat) {fx : Fx} {al : Bool} {M N : Mem} {a0 : Nat} {xr : Int32}  (h : fX12_allWear M a0 = some (xr, N)) : Ct fx yX12_allWear cX12_allWear 3 (some .int) (r + 0) 0 0 al [.ref a0] M (some (.int xr)) N := by
  refine ct_of (lv := [some (.ref a0), none, none]) (by decide) (Nat.le_of_ble_eq_true rfl) rfl rfl (fun z hz => ?_)
  unfold fX12_allWear at h
  refine v_iconst hz (v := (0 : Int32)) (by decide) dX12_allWear_0 ?_
  refine v_istore_n hz (lw := [some (.ref a0), some (.int (0 : Int32)), none]) rfl (Nat.le_of_ble_eq_true rfl) rfl rfl dX12_allWear_1 ?_
  refine v_iconst hz (v := (0 : Int32)) (by decide) dX12_allWear_2 ?_
  refine v_istore_n hz (lw := [some (.ref a0), some (.int (0 : Int32)), some (.int (0 : Int32))]) rfl (Nat.le_of_ble_eq_true rfl) rfl rfl dX12_allWear_3 ?_
  exact v_weak (lvle_s (lvle_s (lvle_s lvle_0))) (wX12_allWear_4 hz   h)
noncomputable def gX12_beating_29  : Nat → Mem → Nat → Int32 → Int32 → Option (Int32 × Mem)
  | 0, _, _, _, _ => none
  | n + 1, M, l0, l1, l2 => if (99 : Int32) < l2 then (some ((-5 : Int32), M)) else (bd (fX12_held M (l1 - l2)) fun x1 M1 => ck (isK M1 l0 12) <| bd (fX12_baldFrom M1 l0) fun x3 M3 => if x3 ≤ x1 then ((gX12_beating_29 n) M3 l0 l1 (l2 + (1 : Int32))) else (some (l2, M3)))
noncomputable def gX12_beating_4  : Nat → Mem → Nat → Int32 → Int32 → Option (Int32 × Mem)
  | 0, _, _, _, _ => none
  | n + 1, M, l0, l1, l2 => if (25 : Int32) ≤ l2 then (gX12_beating_29 FU M l0 l1 (0 : Int32)) else (ck (isK M l0 12) <| rb (mR M l0 0) fun b5 => ck (isK M b5 14) <| ck (inb l2 (mG M b5)) <| (gX12_beating_4 n) M l0 (if l1 < (mI M b5 l2.toNatClampNeg) then (mI M b5 l2.toNatClampNeg) else l1) (l2 + (1 : Int32)))
noncomputable def fX12_beating (M : Mem) (a0 : Nat) : Option (Int32 × Mem) :=
  gX12_beating_4 FU M a0 (0 : Int32) (0 : Int32)
set_option maxRecDepth 100000 in
set_option maxHeartbeats 4000000 in
theorem gX12_beating_29_s  (n : Nat) (M : Mem) (l0 : Nat) (l1 : Int32) (l2 : Int32) : gX12_beating_29  (n + 1) M l0 l1 l2 = (if (99 : Int32) < l2 then (some ((-5 : Int32), M)) else (bd (fX12_held M (l1 - l2)) fun x1 M1 => ck (isK M1 l0 12) <| bd (fX12_baldFrom M1 l0) fun x3 M3 => if x3 ≤ x1 then ((gX12_beating_29 n) M3 l0 l1 (l2 + (1 : Int32))) else (some (l2, M3)))) := rfl
set_option maxRecDepth 100000 in
set_option maxHeartbeats 4000000 in
theorem wX12_beating_29 {z : Zx} {fx : Fx} {al : Bool} {r : Nat} {N : Mem} {xr : Int32} (hz : Zok z fx al yX12_beating.cls yX12_beating.name cX12_beating (some .int) 3 (r + 2) 0 0 (some (.int xr)) N)    : ∀ {n : Nat} {M : Mem} {l0 : Nat} {l1 : Int32} {l2 : Int32}, gX12_beating_29  n M l0 l1 l2 = some (xr, N) → V z 29 [some (.ref l0), some (.int l1), some (.int l2)] [] M 0 0 := by
  intro n
  induction n with
  | zero => intro M l0 l1 l2 h; cases h
  | succ n ih =>
    intro M l0 l1 l2 h
    replace h := (gX12_beating_29_s  n M l0 l1 l2).symm.trans h
    refine v_iload_n hz rfl rfl dX12_beating_29 ?_
    refine v_bipush hz (v := (99 : Int32)) (by decide) dX12_beating_30 ?_
    refine v_icmp_gt (tgt := 56) hz dX12_beating_32 (by decide) (fun hc => ?_) (fun hc => ?_)
    · replace h := (if_pos hc).symm.trans h
      refine v_bipush hz (v := (-5 : Int32)) (by decide) dX12_beating_56 ?_
      obtain ⟨rfl, rfl⟩ := sp_inv h
      exact v_iret hz dX12_beating_58 (by decide) (by decide)
    · replace h := (if_neg hc).symm.trans h
      refine v_iload_n hz rfl rfl dX12_beating_35 ?_
      refine v_iload_n hz rfl rfl dX12_beating_36 ?_
      refine v_isub hz dX12_beating_37 ?_
      obtain ⟨x1, M1, e1, h⟩ := bd_inv h
      refine v_callS hz (As := [.int (l1 - l2)]) sl_X12_238 (tX12_held (r + 0) e1) rfl rfl rfl (Nat.le_of_ble_eq_true rfl) ⟨by decide, by decide⟩ dX12_beating_38 ?_
      show V z 41 [some (.ref l0), some (.int l1), some (.int l2)] [.int x1] M1 0 0
      refine v_aload_n hz rfl rfl dX12_beating_41 ?_
      obtain ⟨ck2, h⟩ := ck_inv h
      obtain ⟨ka2, kb2⟩ := isK_of ck2
      obtain ⟨x3, M3, e3, h⟩ := bd_inv h
      refine v_callV hz (As := []) vl_X12_221 (tX12_baldFrom (r + 1) e3) rfl (by decide) ka2 kb2 rfl rfl rfl (Nat.le_of_ble_eq_true rfl) ⟨by decide, by decide⟩ dX12_beating_42 ?_
      show V z 45 [some (.ref l0), some (.int l1), some (.int l2)] [.int x3, .int x1] M3 0 0
      refine v_icmp_ge (tgt := 50) hz dX12_beating_45 (by decide) (fun hc => ?_) (fun hc => ?_)
      · replace h := (if_pos hc).symm.trans h
        refine v_iinc hz (v := (l2 + (1 : Int32))) (lw := [some (.ref l0), some (.int l1), some (.int (l2 + (1 : Int32)))]) rfl (congrArg (fun q => l2 + q) (show Int32.ofInt (1) = (1 : Int32) by decide)) rfl rfl dX12_beating_50 ?_
        refine v_goto (tgt := 29) hz dX12_beating_53 (by decide) ?_
        exact v_weak (lvle_s (lvle_s (lvle_s lvle_0))) (ih h)
      · replace h := (if_neg hc).symm.trans h
        refine v_iload_n hz rfl rfl dX12_beating_48 ?_
        obtain ⟨rfl, rfl⟩ := sp_inv h
        exact v_iret hz dX12_beating_49 (by decide) (by decide)
set_option maxRecDepth 100000 in
set_option maxHeartbeats 4000000 in
theorem gX12_beating_4_s  (n : Nat) (M : Mem) (l0 : Nat) (l1 : Int32) (l2 : Int32) : gX12_beating_4  (n + 1) M l0 l1 l2 = (if (25 : Int32) ≤ l2 then (gX12_beating_29 FU M l0 l1 (0 : Int32)) else (ck (isK M l0 12) <| rb (mR M l0 0) fun b5 => ck (isK M b5 14) <| ck (inb l2 (mG M b5)) <| (gX12_beating_4 n) M l0 (if l1 < (mI M b5 l2.toNatClampNeg) then (mI M b5 l2.toNatClampNeg) else l1) (l2 + (1 : Int32)))) := rfl
set_option maxRecDepth 100000 in
set_option maxHeartbeats 4000000 in
theorem wX12_beating_4 {z : Zx} {fx : Fx} {al : Bool} {r : Nat} {N : Mem} {xr : Int32} (hz : Zok z fx al yX12_beating.cls yX12_beating.name cX12_beating (some .int) 3 (r + 2) 0 0 (some (.int xr)) N)    : ∀ {n : Nat} {M : Mem} {l0 : Nat} {l1 : Int32} {l2 : Int32}, gX12_beating_4  n M l0 l1 l2 = some (xr, N) → V z 4 [some (.ref l0), some (.int l1), some (.int l2)] [] M 0 0 := by
  intro n
  induction n with
  | zero => intro M l0 l1 l2 h; cases h
  | succ n ih =>
    intro M l0 l1 l2 h
    replace h := (gX12_beating_4_s  n M l0 l1 l2).symm.trans h
    refine v_iload_n hz rfl rfl dX12_beating_4 ?_
    refine v_bipush hz (v := (25 : Int32)) (by decide) dX12_beating_5 ?_
    refine v_icmp_ge (tgt := 27) hz dX12_beating_7 (by decide) (fun hc => ?_) (fun hc => ?_)
    · replace h := (if_pos hc).symm.trans h
      refine v_iconst hz (v := (0 : Int32)) (by decide) dX12_beating_27 ?_
      refine v_istore_n hz (lw := [some (.ref l0), some (.int l1), some (.int (0 : Int32))]) rfl (Nat.le_of_ble_eq_true rfl) rfl rfl dX12_beating_28 ?_
      exact v_weak (lvle_s (lvle_s (lvle_s lvle_0))) (wX12_beating_29 hz   h)
    · replace h := (if_neg hc).symm.trans h
      refine v_iload_n hz rfl rfl dX12_beating_10 ?_
      refine v_aload_n hz rfl rfl dX12_beating_11 ?_
      obtain ⟨ck4, h⟩ := ck_inv h
      obtain ⟨ka4, kb4⟩ := isK_of ck4
      obtain ⟨b5, r5, h⟩ := rb_inv h
      refine v_getR hz fl_X12_9 rfl dX12_beating_12 ka4 kb4 r5 ?_
      refine v_iload_n hz rfl rfl dX12_beating_15 ?_
      obtain ⟨ck6, h⟩ := ck_inv h
      obtain ⟨ka6, kb6⟩ := isK_of ck6
      obtain ⟨g7, h⟩ := ck_inv h
      refine v_iaload hz dX12_beating_16 ka6 kb6 g7 ?_
      refine v_mmax hz ml_X12_235 rfl (Nat.le_of_ble_eq_true rfl) (by decide) (by decide) dX12_beating_17 ?_
      refine v_istore_n hz (lw := [some (.ref l0), some (.int (if l1 < (mI M b5 l2.toNatClampNeg) then (mI M b5 l2.toNatClampNeg) else l1)), some (.int l2)]) rfl (Nat.le_of_ble_eq_true rfl) rfl rfl dX12_beating_20 ?_
      refine v_iinc hz (v := (l2 + (1 : Int32))) (lw := [some (.ref l0), some (.int (if l1 < (mI M b5 l2.toNatClampNeg) then (mI M b5 l2.toNatClampNeg) else l1)), some (.int (l2 + (1 : Int32)))]) rfl (congrArg (fun q => l2 + q) (show Int32.ofInt (1) = (1 : Int32) by decide)) rfl rfl dX12_beating_21 ?_
      refine v_goto (tgt := 4) hz dX12_beating_24 (by decide) ?_
      exact v_weak (lvle_s (lvle_s (lvle_s lvle_0))) (ih h)
set_option maxRecDepth 100000 in
set_option maxHeartbeats 4000000 in
theorem tX12_beating (r : Nat) {fx : Fx} {al : Bool} {M N : Mem} {a0 : Nat} {xr : Int32}  (h : fX12_beating M a0 = some (xr, N)) : Ct fx yX12_beating cX12_beating 3 (some .int) (r + 2) 0 0 al [.ref a0] M (some (.int xr)) N := by
  refine ct_of (lv := [some (.ref a0), none, none]) (by decide) (Nat.le_of_ble_eq_true rfl) rfl rfl (fun z hz => ?_)
  unfold fX12_beating at h
  refine v_iconst hz (v := (0 : Int32)) (by decide) dX12_beating_0 ?_
  refine v_istore_n hz (lw := [some (.ref a0), some (.int (0 : Int32)), none]) rfl (Nat.le_of_ble_eq_true rfl) rfl rfl dX12_beating_1 ?_
  refine v_iconst hz (v := (0 : Int32)) (by decide) dX12_beating_2 ?_
  refine v_istore_n hz (lw := [some (.ref a0), some (.int (0 : Int32)), some (.int (0 : Int32))]) rfl (Nat.le_of_ble_eq_true rfl) rfl rfl dX12_beating_3 ?_
  exact v_weak (lvle_s (lvle_s (lvle_s lvle_0))) (wX12_beating_4 hz   h)
